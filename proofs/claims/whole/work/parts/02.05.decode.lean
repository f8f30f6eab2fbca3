theorem dX12_convicts_54 : decode cX12_convicts 54 = .ok (.invokevirtual 206, 3) := by decide +kernel
theorem dX12_convicts_57 : decode cX12_convicts 57 = .ok (.aload_n 0, 1) := by decide +kernel
theorem dX12_convicts_58 : decode cX12_convicts 58 = .ok (.iload_n 3, 1) := by decide +kernel
theorem dX12_convicts_59 : decode cX12_convicts 59 = .ok (.invokevirtual 227, 3) := by decide +kernel
theorem dX12_convicts_62 : decode cX12_convicts 62 = .ok (.iand, 1) := by decide +kernel
theorem dX12_convicts_63 : decode cX12_convicts 63 = .ok (.iload_n 1, 1) := by decide +kernel
theorem dX12_convicts_64 : decode cX12_convicts 64 = .ok (.invokevirtual 212, 3) := by decide +kernel
theorem dX12_convicts_67 : decode cX12_convicts 67 = .ok (.ifCond .eq 7, 3) := by decide +kernel
theorem dX12_convicts_70 : decode cX12_convicts 70 = .ok (.iload_n 3, 1) := by decide +kernel
theorem dX12_convicts_71 : decode cX12_convicts 71 = .ok (.goto 4, 3) := by decide +kernel
theorem dX12_convicts_74 : decode cX12_convicts 74 = .ok (.iload_n 2, 1) := by decide +kernel
theorem dX12_convicts_75 : decode cX12_convicts 75 = .ok (.istore_n 2, 1) := by decide +kernel
theorem dX12_convicts_76 : decode cX12_convicts 76 = .ok (.iinc 3 1, 3) := by decide +kernel
theorem dX12_convicts_79 : decode cX12_convicts 79 = .ok (.goto (-61), 3) := by decide +kernel
theorem dX12_convicts_82 : decode cX12_convicts 82 = .ok (.iload_n 2, 1) := by decide +kernel
theorem dX12_convicts_83 : decode cX12_convicts 83 = .ok (.ifCond .ge 6, 3) := by decide +kernel
theorem dX12_convicts_86 : decode cX12_convicts 86 = .ok (.bipush (-2), 2) := by decide +kernel
theorem dX12_convicts_88 : decode cX12_convicts 88 = .ok (.ireturn, 1) := by decide +kernel
theorem dX12_convicts_89 : decode cX12_convicts 89 = .ok (.aload_n 0, 1) := by decide +kernel
theorem dX12_convicts_90 : decode cX12_convicts 90 = .ok (.iconst 0, 1) := by decide +kernel
theorem dX12_convicts_91 : decode cX12_convicts 91 = .ok (.putfield 11, 3) := by decide +kernel
theorem dX12_convicts_94 : decode cX12_convicts 94 = .ok (.aload_n 0, 1) := by decide +kernel
theorem dX12_convicts_95 : decode cX12_convicts 95 = .ok (.iload_n 2, 1) := by decide +kernel
theorem dX12_convicts_96 : decode cX12_convicts 96 = .ok (.invokevirtual 221, 3) := by decide +kernel
theorem dX12_convicts_99 : decode cX12_convicts 99 = .ok (.iload_n 2, 1) := by decide +kernel
theorem dX12_convicts_100 : decode cX12_convicts 100 = .ok (.invokestatic 151, 3) := by decide +kernel
theorem dX12_convicts_103 : decode cX12_convicts 103 = .ok (.ireturn, 1) := by decide +kernel
theorem dX12_isTerm_0 : decode cX12_isTerm 0 = .ok (.iload_n 0, 1) := by decide +kernel
theorem dX12_isTerm_1 : decode cX12_isTerm 1 = .ok (.i2l, 1) := by decide +kernel
theorem dX12_isTerm_2 : decode cX12_isTerm 2 = .ok (.lconst 0, 1) := by decide +kernel
theorem dX12_isTerm_3 : decode cX12_isTerm 3 = .ok (.ldc2_w 234, 3) := by decide +kernel
theorem dX12_isTerm_6 : decode cX12_isTerm 6 = .ok (.invokestatic 16, 3) := by decide +kernel
theorem dX12_isTerm_9 : decode cX12_isTerm 9 = .ok (.ireturn, 1) := by decide +kernel
theorem dX12_closesStanding_0 : decode cX12_closesStanding 0 = .ok (.aload_n 0, 1) := by decide +kernel
theorem dX12_closesStanding_1 : decode cX12_closesStanding 1 = .ok (.aload_n 0, 1) := by decide +kernel
theorem dX12_closesStanding_2 : decode cX12_closesStanding 2 = .ok (.invokevirtual 206, 3) := by decide +kernel
theorem dX12_closesStanding_5 : decode cX12_closesStanding 5 = .ok (.invokevirtual 200, 3) := by decide +kernel
theorem dX12_closesStanding_8 : decode cX12_closesStanding 8 = .ok (.aload_n 0, 1) := by decide +kernel
theorem dX12_closesStanding_9 : decode cX12_closesStanding 9 = .ok (.invokevirtual 183, 3) := by decide +kernel
theorem dX12_closesStanding_12 : decode cX12_closesStanding 12 = .ok (.return_, 1) := by decide +kernel
theorem dX12_all_0 : decode cX12_all 0 = .ok (.aload_n 0, 1) := by decide +kernel
theorem dX12_all_1 : decode cX12_all 1 = .ok (.iconst 0, 1) := by decide +kernel
theorem dX12_all_2 : decode cX12_all 2 = .ok (.putfield 3, 3) := by decide +kernel
theorem dX12_all_5 : decode cX12_all 5 = .ok (.iload_n 1, 1) := by decide +kernel
theorem dX12_all_6 : decode cX12_all 6 = .ok (.invokestatic 236, 3) := by decide +kernel
theorem dX12_all_9 : decode cX12_all 9 = .ok (.ifCond .ne 5, 3) := by decide +kernel
theorem dX12_all_12 : decode cX12_all 12 = .ok (.iconst (-1), 1) := by decide +kernel
theorem dX12_all_13 : decode cX12_all 13 = .ok (.ireturn, 1) := by decide +kernel
theorem dX12_all_14 : decode cX12_all 14 = .ok (.aload_n 0, 1) := by decide +kernel
theorem dX12_all_15 : decode cX12_all 15 = .ok (.invokevirtual 239, 3) := by decide +kernel
theorem dX12_all_18 : decode cX12_all 18 = .ok (.iconst 0, 1) := by decide +kernel
theorem dX12_all_19 : decode cX12_all 19 = .ok (.istore_n 2, 1) := by decide +kernel
theorem dX12_all_20 : decode cX12_all 20 = .ok (.iconst 0, 1) := by decide +kernel
theorem dX12_all_21 : decode cX12_all 21 = .ok (.istore_n 3, 1) := by decide +kernel
theorem dX12_all_22 : decode cX12_all 22 = .ok (.iload_n 3, 1) := by decide +kernel
theorem dX12_all_23 : decode cX12_all 23 = .ok (.bipush 24, 2) := by decide +kernel
theorem dX12_all_25 : decode cX12_all 25 = .ok (.if_icmp .ge 30, 3) := by decide +kernel
theorem dX12_all_28 : decode cX12_all 28 = .ok (.iload_n 2, 1) := by decide +kernel
theorem dX12_all_29 : decode cX12_all 29 = .ok (.aload_n 0, 1) := by decide +kernel
theorem dX12_all_30 : decode cX12_all 30 = .ok (.iload_n 1, 1) := by decide +kernel
theorem dX12_all_31 : decode cX12_all 31 = .ok (.iload_n 3, 1) := by decide +kernel
theorem dX12_all_32 : decode cX12_all 32 = .ok (.iconst 1, 1) := by decide +kernel
theorem dX12_all_33 : decode cX12_all 33 = .ok (.ixor, 1) := by decide +kernel
theorem dX12_all_34 : decode cX12_all 34 = .ok (.invokevirtual 180, 3) := by decide +kernel
theorem dX12_all_37 : decode cX12_all 37 = .ok (.ifCond .eq 7, 3) := by decide +kernel
theorem dX12_all_40 : decode cX12_all 40 = .ok (.iconst 0, 1) := by decide +kernel
theorem dX12_all_41 : decode cX12_all 41 = .ok (.goto 6, 3) := by decide +kernel
theorem dX12_all_44 : decode cX12_all 44 = .ok (.iconst 1, 1) := by decide +kernel
theorem dX12_all_45 : decode cX12_all 45 = .ok (.iload_n 3, 1) := by decide +kernel
theorem dX12_all_46 : decode cX12_all 46 = .ok (.ishl, 1) := by decide +kernel
theorem dX12_all_47 : decode cX12_all 47 = .ok (.ior, 1) := by decide +kernel
theorem dX12_all_48 : decode cX12_all 48 = .ok (.istore_n 2, 1) := by decide +kernel
theorem dX12_all_49 : decode cX12_all 49 = .ok (.iinc 3 1, 3) := by decide +kernel
theorem dX12_all_52 : decode cX12_all 52 = .ok (.goto (-30), 3) := by decide +kernel
theorem dX12_all_55 : decode cX12_all 55 = .ok (.iload_n 2, 1) := by decide +kernel
theorem dX12_all_56 : decode cX12_all 56 = .ok (.ireturn, 1) := by decide +kernel
theorem dX12_empty_0 : decode cX12_empty 0 = .ok (.aload_n 0, 1) := by decide +kernel
theorem dX12_empty_1 : decode cX12_empty 1 = .ok (.iconst 0, 1) := by decide +kernel
theorem dX12_empty_2 : decode cX12_empty 2 = .ok (.putfield 3, 3) := by decide +kernel
theorem dX12_empty_5 : decode cX12_empty 5 = .ok (.aload_n 0, 1) := by decide +kernel
theorem dX12_empty_6 : decode cX12_empty 6 = .ok (.invokevirtual 239, 3) := by decide +kernel
theorem dX12_empty_9 : decode cX12_empty 9 = .ok (.iconst 0, 1) := by decide +kernel
theorem dX12_empty_10 : decode cX12_empty 10 = .ok (.istore_n 1, 1) := by decide +kernel
theorem dX12_empty_11 : decode cX12_empty 11 = .ok (.iconst 0, 1) := by decide +kernel
theorem dX12_empty_12 : decode cX12_empty 12 = .ok (.istore_n 2, 1) := by decide +kernel
theorem dX12_empty_13 : decode cX12_empty 13 = .ok (.iload_n 2, 1) := by decide +kernel
theorem dX12_empty_14 : decode cX12_empty 14 = .ok (.bipush 24, 2) := by decide +kernel
theorem dX12_empty_16 : decode cX12_empty 16 = .ok (.if_icmp .ge 28, 3) := by decide +kernel
theorem dX12_empty_19 : decode cX12_empty 19 = .ok (.iload_n 1, 1) := by decide +kernel
theorem dX12_empty_20 : decode cX12_empty 20 = .ok (.aload_n 0, 1) := by decide +kernel
theorem dX12_empty_21 : decode cX12_empty 21 = .ok (.iload_n 2, 1) := by decide +kernel
theorem dX12_empty_22 : decode cX12_empty 22 = .ok (.iload_n 2, 1) := by decide +kernel
theorem dX12_empty_23 : decode cX12_empty 23 = .ok (.invokevirtual 180, 3) := by decide +kernel
theorem dX12_empty_26 : decode cX12_empty 26 = .ok (.ifCond .eq 7, 3) := by decide +kernel
theorem dX12_empty_29 : decode cX12_empty 29 = .ok (.iconst 0, 1) := by decide +kernel
theorem dX12_empty_30 : decode cX12_empty 30 = .ok (.goto 6, 3) := by decide +kernel
theorem dX12_empty_33 : decode cX12_empty 33 = .ok (.iconst 1, 1) := by decide +kernel
theorem dX12_empty_34 : decode cX12_empty 34 = .ok (.iload_n 2, 1) := by decide +kernel
theorem dX12_empty_35 : decode cX12_empty 35 = .ok (.ishl, 1) := by decide +kernel
theorem dX12_empty_36 : decode cX12_empty 36 = .ok (.ior, 1) := by decide +kernel
theorem dX12_empty_37 : decode cX12_empty 37 = .ok (.istore_n 1, 1) := by decide +kernel
theorem dX12_empty_38 : decode cX12_empty 38 = .ok (.iinc 2 1, 3) := by decide +kernel
theorem dX12_empty_41 : decode cX12_empty 41 = .ok (.goto (-28), 3) := by decide +kernel
theorem dX12_empty_44 : decode cX12_empty 44 = .ok (.iload_n 1, 1) := by decide +kernel
theorem dX12_empty_45 : decode cX12_empty 45 = .ok (.ireturn, 1) := by decide +kernel
theorem dX12_isStep_0 : decode cX12_isStep 0 = .ok (.aload_n 0, 1) := by decide +kernel
theorem dX12_isStep_1 : decode cX12_isStep 1 = .ok (.getfield 126, 3) := by decide +kernel
theorem dX12_isStep_4 : decode cX12_isStep 4 = .ok (.iload_n 1, 1) := by decide +kernel
theorem dX12_isStep_5 : decode cX12_isStep 5 = .ok (.invokestatic 129, 3) := by decide +kernel
theorem dX12_isStep_8 : decode cX12_isStep 8 = .ok (.ifCond .ne 15, 3) := by decide +kernel
theorem dX12_isStep_11 : decode cX12_isStep 11 = .ok (.aload_n 0, 1) := by decide +kernel
theorem dX12_isStep_12 : decode cX12_isStep 12 = .ok (.getfield 87, 3) := by decide +kernel
theorem dX12_isStep_15 : decode cX12_isStep 15 = .ok (.iload_n 1, 1) := by decide +kernel
theorem dX12_isStep_16 : decode cX12_isStep 16 = .ok (.iaload, 1) := by decide +kernel
theorem dX12_isStep_17 : decode cX12_isStep 17 = .ok (.invokestatic 165, 3) := by decide +kernel
theorem dX12_isStep_20 : decode cX12_isStep 20 = .ok (.ifCond .ne 5, 3) := by decide +kernel
theorem dX12_isStep_23 : decode cX12_isStep 23 = .ok (.iconst 0, 1) := by decide +kernel
theorem dX12_isStep_24 : decode cX12_isStep 24 = .ok (.ireturn, 1) := by decide +kernel
theorem dX12_isStep_25 : decode cX12_isStep 25 = .ok (.aload_n 0, 1) := by decide +kernel
theorem dX12_isStep_26 : decode cX12_isStep 26 = .ok (.getfield 87, 3) := by decide +kernel
theorem dX12_isStep_29 : decode cX12_isStep 29 = .ok (.iload_n 1, 1) := by decide +kernel
theorem dX12_isStep_30 : decode cX12_isStep 30 = .ok (.iaload, 1) := by decide +kernel
theorem dX12_isStep_31 : decode cX12_isStep 31 = .ok (.invokestatic 24, 3) := by decide +kernel
theorem dX12_isStep_34 : decode cX12_isStep 34 = .ok (.istore 4, 2) := by decide +kernel
theorem dX12_isStep_36 : decode cX12_isStep 36 = .ok (.aload_n 0, 1) := by decide +kernel
theorem dX12_isStep_37 : decode cX12_isStep 37 = .ok (.getfield 87, 3) := by decide +kernel
theorem dX12_isStep_40 : decode cX12_isStep 40 = .ok (.iload_n 1, 1) := by decide +kernel
theorem dX12_isStep_41 : decode cX12_isStep 41 = .ok (.iaload, 1) := by decide +kernel
theorem dX12_isStep_42 : decode cX12_isStep 42 = .ok (.invokestatic 20, 3) := by decide +kernel
theorem dX12_isStep_45 : decode cX12_isStep 45 = .ok (.ifCond .ne 15, 3) := by decide +kernel
theorem dX12_isStep_48 : decode cX12_isStep 48 = .ok (.aload_n 0, 1) := by decide +kernel
theorem dX12_isStep_49 : decode cX12_isStep 49 = .ok (.getfield 87, 3) := by decide +kernel
theorem dX12_isStep_52 : decode cX12_isStep 52 = .ok (.iload_n 1, 1) := by decide +kernel
theorem dX12_isStep_53 : decode cX12_isStep 53 = .ok (.iaload, 1) := by decide +kernel
theorem dX12_isStep_54 : decode cX12_isStep 54 = .ok (.invokestatic 27, 3) := by decide +kernel
theorem dX12_isStep_57 : decode cX12_isStep 57 = .ok (.goto 14, 3) := by decide +kernel
theorem dX12_isStep_60 : decode cX12_isStep 60 = .ok (.aload_n 0, 1) := by decide +kernel
theorem dX12_isStep_61 : decode cX12_isStep 61 = .ok (.getfield 87, 3) := by decide +kernel
theorem dX12_isStep_64 : decode cX12_isStep 64 = .ok (.iload_n 1, 1) := by decide +kernel
theorem dX12_isStep_65 : decode cX12_isStep 65 = .ok (.iaload, 1) := by decide +kernel
theorem dX12_isStep_66 : decode cX12_isStep 66 = .ok (.invokestatic 27, 3) := by decide +kernel
theorem dX12_isStep_69 : decode cX12_isStep 69 = .ok (.iconst 1, 1) := by decide +kernel
theorem dX12_isStep_70 : decode cX12_isStep 70 = .ok (.ixor, 1) := by decide +kernel
theorem dX12_isStep_71 : decode cX12_isStep 71 = .ok (.istore 5, 2) := by decide +kernel
theorem dX12_isStep_73 : decode cX12_isStep 73 = .ok (.iload_n 2, 1) := by decide +kernel
theorem dX12_isStep_74 : decode cX12_isStep 74 = .ok (.iload 4, 2) := by decide +kernel
theorem dX12_isStep_76 : decode cX12_isStep 76 = .ok (.if_icmp .ne 9, 3) := by decide +kernel
theorem dX12_isStep_79 : decode cX12_isStep 79 = .ok (.iload_n 3, 1) := by decide +kernel
theorem dX12_isStep_80 : decode cX12_isStep 80 = .ok (.iload 5, 2) := by decide +kernel
theorem dX12_isStep_82 : decode cX12_isStep 82 = .ok (.if_icmp .eq 19, 3) := by decide +kernel
theorem dX12_isStep_85 : decode cX12_isStep 85 = .ok (.iload_n 2, 1) := by decide +kernel
theorem dX12_isStep_86 : decode cX12_isStep 86 = .ok (.iload 5, 2) := by decide +kernel
theorem dX12_isStep_88 : decode cX12_isStep 88 = .ok (.iconst 1, 1) := by decide +kernel
theorem dX12_isStep_89 : decode cX12_isStep 89 = .ok (.ixor, 1) := by decide +kernel
theorem dX12_isStep_90 : decode cX12_isStep 90 = .ok (.if_icmp .ne 15, 3) := by decide +kernel
theorem dX12_isStep_93 : decode cX12_isStep 93 = .ok (.iload_n 3, 1) := by decide +kernel
theorem dX12_isStep_94 : decode cX12_isStep 94 = .ok (.iload 4, 2) := by decide +kernel
theorem dX12_isStep_96 : decode cX12_isStep 96 = .ok (.iconst 1, 1) := by decide +kernel
theorem dX12_isStep_97 : decode cX12_isStep 97 = .ok (.ixor, 1) := by decide +kernel
theorem dX12_isStep_98 : decode cX12_isStep 98 = .ok (.if_icmp .ne 7, 3) := by decide +kernel
theorem dX12_isStep_101 : decode cX12_isStep 101 = .ok (.iconst 1, 1) := by decide +kernel
theorem dX12_isStep_102 : decode cX12_isStep 102 = .ok (.goto 4, 3) := by decide +kernel
theorem dX12_isStep_105 : decode cX12_isStep 105 = .ok (.iconst 0, 1) := by decide +kernel
theorem dX12_isStep_106 : decode cX12_isStep 106 = .ok (.ireturn, 1) := by decide +kernel
theorem dX12_isLed_0 : decode cX12_isLed 0 = .ok (.iconst 0, 1) := by decide +kernel
theorem dX12_isLed_1 : decode cX12_isLed 1 = .ok (.istore_n 3, 1) := by decide +kernel
theorem dX12_isLed_2 : decode cX12_isLed 2 = .ok (.iload_n 3, 1) := by decide +kernel
theorem dX12_isLed_3 : decode cX12_isLed 3 = .ok (.aload_n 0, 1) := by decide +kernel
theorem dX12_isLed_4 : decode cX12_isLed 4 = .ok (.getfield 105, 3) := by decide +kernel
theorem dX12_isLed_7 : decode cX12_isLed 7 = .ok (.if_icmp .ge 21, 3) := by decide +kernel
theorem dX12_isLed_10 : decode cX12_isLed 10 = .ok (.aload_n 0, 1) := by decide +kernel
theorem dX12_isLed_11 : decode cX12_isLed 11 = .ok (.iload_n 3, 1) := by decide +kernel
theorem dX12_isLed_12 : decode cX12_isLed 12 = .ok (.iload_n 1, 1) := by decide +kernel
theorem dX12_isLed_13 : decode cX12_isLed 13 = .ok (.iload_n 2, 1) := by decide +kernel
theorem dX12_isLed_14 : decode cX12_isLed 14 = .ok (.invokevirtual 242, 3) := by decide +kernel
theorem dX12_isLed_17 : decode cX12_isLed 17 = .ok (.ifCond .eq 5, 3) := by decide +kernel
theorem dX12_isLed_20 : decode cX12_isLed 20 = .ok (.iconst 1, 1) := by decide +kernel
theorem dX12_isLed_21 : decode cX12_isLed 21 = .ok (.ireturn, 1) := by decide +kernel
theorem dX12_isLed_22 : decode cX12_isLed 22 = .ok (.iinc 3 1, 3) := by decide +kernel
theorem dX12_isLed_25 : decode cX12_isLed 25 = .ok (.goto (-23), 3) := by decide +kernel
theorem dX12_isLed_28 : decode cX12_isLed 28 = .ok (.iconst 0, 1) := by decide +kernel
theorem dX12_isLed_29 : decode cX12_isLed 29 = .ok (.ireturn, 1) := by decide +kernel
theorem dX12_chain_0 : decode cX12_chain 0 = .ok (.aload_n 0, 1) := by decide +kernel
theorem dX12_chain_1 : decode cX12_chain 1 = .ok (.iconst 0, 1) := by decide +kernel
theorem dX12_chain_2 : decode cX12_chain 2 = .ok (.putfield 3, 3) := by decide +kernel
theorem dX12_chain_5 : decode cX12_chain 5 = .ok (.iload_n 1, 1) := by decide +kernel
theorem dX12_chain_6 : decode cX12_chain 6 = .ok (.invokestatic 236, 3) := by decide +kernel
theorem dX12_chain_9 : decode cX12_chain 9 = .ok (.ifCond .eq 10, 3) := by decide +kernel
theorem dX12_chain_12 : decode cX12_chain 12 = .ok (.iload_n 2, 1) := by decide +kernel
theorem dX12_chain_13 : decode cX12_chain 13 = .ok (.invokestatic 236, 3) := by decide +kernel
theorem dX12_chain_16 : decode cX12_chain 16 = .ok (.ifCond .ne 5, 3) := by decide +kernel
theorem dX12_chain_19 : decode cX12_chain 19 = .ok (.iconst (-1), 1) := by decide +kernel
theorem dX12_chain_20 : decode cX12_chain 20 = .ok (.ireturn, 1) := by decide +kernel
theorem dX12_chain_21 : decode cX12_chain 21 = .ok (.iconst 0, 1) := by decide +kernel
theorem dX12_chain_22 : decode cX12_chain 22 = .ok (.istore_n 3, 1) := by decide +kernel
theorem dX12_chain_23 : decode cX12_chain 23 = .ok (.iload_n 3, 1) := by decide +kernel
theorem dX12_chain_24 : decode cX12_chain 24 = .ok (.bipush 24, 2) := by decide +kernel
theorem dX12_chain_26 : decode cX12_chain 26 = .ok (.if_icmp .ge 26, 3) := by decide +kernel
theorem dX12_chain_29 : decode cX12_chain 29 = .ok (.aload_n 0, 1) := by decide +kernel
theorem dX12_chain_30 : decode cX12_chain 30 = .ok (.getfield 246, 3) := by decide +kernel
theorem dX12_chain_33 : decode cX12_chain 33 = .ok (.iload_n 3, 1) := by decide +kernel
theorem dX12_chain_34 : decode cX12_chain 34 = .ok (.iload_n 3, 1) := by decide +kernel
theorem dX12_chain_35 : decode cX12_chain 35 = .ok (.iload_n 2, 1) := by decide +kernel
theorem dX12_chain_36 : decode cX12_chain 36 = .ok (.if_icmp .ne 7, 3) := by decide +kernel
theorem dX12_chain_39 : decode cX12_chain 39 = .ok (.iconst 0, 1) := by decide +kernel
theorem dX12_chain_40 : decode cX12_chain 40 = .ok (.goto 5, 3) := by decide +kernel
theorem dX12_chain_43 : decode cX12_chain 43 = .ok (.ldc 249, 2) := by decide +kernel
theorem dX12_chain_45 : decode cX12_chain 45 = .ok (.iastore, 1) := by decide +kernel
theorem dX12_chain_46 : decode cX12_chain 46 = .ok (.iinc 3 1, 3) := by decide +kernel
theorem dX12_chain_49 : decode cX12_chain 49 = .ok (.goto (-26), 3) := by decide +kernel
theorem dX12_chain_52 : decode cX12_chain 52 = .ok (.iconst 1, 1) := by decide +kernel
theorem dX12_chain_53 : decode cX12_chain 53 = .ok (.istore_n 3, 1) := by decide +kernel
theorem dX12_chain_54 : decode cX12_chain 54 = .ok (.iload_n 3, 1) := by decide +kernel
theorem dX12_chain_55 : decode cX12_chain 55 = .ok (.bipush 24, 2) := by decide +kernel
theorem dX12_chain_57 : decode cX12_chain 57 = .ok (.if_icmp .ge 93, 3) := by decide +kernel
theorem dX12_chain_60 : decode cX12_chain 60 = .ok (.iconst 0, 1) := by decide +kernel
theorem dX12_chain_61 : decode cX12_chain 61 = .ok (.istore 4, 2) := by decide +kernel
theorem dX12_chain_63 : decode cX12_chain 63 = .ok (.iload 4, 2) := by decide +kernel
theorem dX12_chain_65 : decode cX12_chain 65 = .ok (.bipush 24, 2) := by decide +kernel
theorem dX12_chain_67 : decode cX12_chain 67 = .ok (.if_icmp .ge 77, 3) := by decide +kernel
theorem dX12_chain_70 : decode cX12_chain 70 = .ok (.iconst 0, 1) := by decide +kernel
theorem dX12_chain_71 : decode cX12_chain 71 = .ok (.istore 5, 2) := by decide +kernel
theorem dX12_chain_73 : decode cX12_chain 73 = .ok (.iload 5, 2) := by decide +kernel
theorem dX12_chain_75 : decode cX12_chain 75 = .ok (.bipush 24, 2) := by decide +kernel
theorem dX12_chain_77 : decode cX12_chain 77 = .ok (.if_icmp .ge 61, 3) := by decide +kernel
theorem dX12_chain_80 : decode cX12_chain 80 = .ok (.aload_n 0, 1) := by decide +kernel
theorem dX12_chain_81 : decode cX12_chain 81 = .ok (.getfield 246, 3) := by decide +kernel
theorem dX12_chain_84 : decode cX12_chain 84 = .ok (.iload 4, 2) := by decide +kernel
theorem dX12_chain_86 : decode cX12_chain 86 = .ok (.aload_n 0, 1) := by decide +kernel
theorem dX12_chain_87 : decode cX12_chain 87 = .ok (.getfield 246, 3) := by decide +kernel
theorem dX12_chain_90 : decode cX12_chain 90 = .ok (.iload 5, 2) := by decide +kernel
theorem dX12_chain_92 : decode cX12_chain 92 = .ok (.iaload, 1) := by decide +kernel
theorem dX12_chain_93 : decode cX12_chain 93 = .ok (.iload_n 3, 1) := by decide +kernel
theorem dX12_chain_94 : decode cX12_chain 94 = .ok (.iconst 1, 1) := by decide +kernel
theorem dX12_chain_95 : decode cX12_chain 95 = .ok (.isub, 1) := by decide +kernel
theorem dX12_chain_96 : decode cX12_chain 96 = .ok (.if_icmp .ne 28, 3) := by decide +kernel
theorem dX12_chain_99 : decode cX12_chain 99 = .ok (.aload_n 0, 1) := by decide +kernel
theorem dX12_chain_100 : decode cX12_chain 100 = .ok (.iload 4, 2) := by decide +kernel
theorem dX12_chain_102 : decode cX12_chain 102 = .ok (.iload 5, 2) := by decide +kernel
theorem dX12_chain_104 : decode cX12_chain 104 = .ok (.invokevirtual 250, 3) := by decide +kernel
theorem dX12_chain_107 : decode cX12_chain 107 = .ok (.ifCond .eq 17, 3) := by decide +kernel
theorem dX12_chain_110 : decode cX12_chain 110 = .ok (.aload_n 0, 1) := by decide +kernel
theorem dX12_chain_111 : decode cX12_chain 111 = .ok (.getfield 246, 3) := by decide +kernel
theorem dX12_chain_114 : decode cX12_chain 114 = .ok (.iload 4, 2) := by decide +kernel
theorem dX12_chain_116 : decode cX12_chain 116 = .ok (.iaload, 1) := by decide +kernel
theorem dX12_chain_117 : decode cX12_chain 117 = .ok (.iload_n 3, 1) := by decide +kernel
theorem dX12_chain_118 : decode cX12_chain 118 = .ok (.invokestatic 43, 3) := by decide +kernel
theorem dX12_chain_121 : decode cX12_chain 121 = .ok (.goto 10, 3) := by decide +kernel
theorem dX12_chain_124 : decode cX12_chain 124 = .ok (.aload_n 0, 1) := by decide +kernel
theorem dX12_chain_125 : decode cX12_chain 125 = .ok (.getfield 246, 3) := by decide +kernel
theorem dX12_chain_128 : decode cX12_chain 128 = .ok (.iload 4, 2) := by decide +kernel
theorem dX12_chain_130 : decode cX12_chain 130 = .ok (.iaload, 1) := by decide +kernel
theorem dX12_chain_131 : decode cX12_chain 131 = .ok (.iastore, 1) := by decide +kernel
theorem dX12_chain_132 : decode cX12_chain 132 = .ok (.iinc 5 1, 3) := by decide +kernel
theorem dX12_chain_135 : decode cX12_chain 135 = .ok (.goto (-62), 3) := by decide +kernel
theorem dX12_chain_138 : decode cX12_chain 138 = .ok (.iinc 4 1, 3) := by decide +kernel
theorem dX12_chain_141 : decode cX12_chain 141 = .ok (.goto (-78), 3) := by decide +kernel
theorem dX12_chain_144 : decode cX12_chain 144 = .ok (.iinc 3 1, 3) := by decide +kernel
theorem dX12_chain_147 : decode cX12_chain 147 = .ok (.goto (-93), 3) := by decide +kernel
theorem dX12_chain_150 : decode cX12_chain 150 = .ok (.aload_n 0, 1) := by decide +kernel
theorem dX12_chain_151 : decode cX12_chain 151 = .ok (.getfield 246, 3) := by decide +kernel
theorem dX12_chain_154 : decode cX12_chain 154 = .ok (.iload_n 1, 1) := by decide +kernel
theorem dX12_chain_155 : decode cX12_chain 155 = .ok (.iaload, 1) := by decide +kernel
theorem dX12_chain_156 : decode cX12_chain 156 = .ok (.ldc 249, 2) := by decide +kernel
theorem dX12_chain_158 : decode cX12_chain 158 = .ok (.if_icmp .ne 6, 3) := by decide +kernel
theorem dX12_chain_161 : decode cX12_chain 161 = .ok (.bipush (-2), 2) := by decide +kernel
theorem dX12_chain_163 : decode cX12_chain 163 = .ok (.ireturn, 1) := by decide +kernel
theorem dX12_chain_164 : decode cX12_chain 164 = .ok (.aload_n 0, 1) := by decide +kernel
theorem dX12_chain_165 : decode cX12_chain 165 = .ok (.iconst 0, 1) := by decide +kernel
theorem dX12_chain_166 : decode cX12_chain 166 = .ok (.putfield 11, 3) := by decide +kernel
theorem dX12_chain_169 : decode cX12_chain 169 = .ok (.aload_n 0, 1) := by decide +kernel
theorem dX12_chain_170 : decode cX12_chain 170 = .ok (.iload_n 1, 1) := by decide +kernel
theorem dX12_chain_171 : decode cX12_chain 171 = .ok (.invokevirtual 253, 3) := by decide +kernel
theorem dX12_chain_174 : decode cX12_chain 174 = .ok (.aload_n 0, 1) := by decide +kernel
theorem dX12_chain_175 : decode cX12_chain 175 = .ok (.getfield 246, 3) := by decide +kernel
theorem dX12_chain_178 : decode cX12_chain 178 = .ok (.iload_n 1, 1) := by decide +kernel
theorem dX12_chain_179 : decode cX12_chain 179 = .ok (.iaload, 1) := by decide +kernel
theorem dX12_chain_180 : decode cX12_chain 180 = .ok (.ireturn, 1) := by decide +kernel
theorem dX12_chainsOn_0 : decode cX12_chainsOn 0 = .ok (.iconst 1, 1) := by decide +kernel
theorem dX12_chainsOn_1 : decode cX12_chainsOn 1 = .ok (.iload_n 1, 1) := by decide +kernel
theorem dX12_chainsOn_2 : decode cX12_chainsOn 2 = .ok (.ishl, 1) := by decide +kernel
theorem dX12_chainsOn_3 : decode cX12_chainsOn 3 = .ok (.istore_n 2, 1) := by decide +kernel
theorem dX12_chainsOn_4 : decode cX12_chainsOn 4 = .ok (.aload_n 0, 1) := by decide +kernel
theorem dX12_chainsOn_5 : decode cX12_chainsOn 5 = .ok (.getfield 246, 3) := by decide +kernel
theorem dX12_chainsOn_8 : decode cX12_chainsOn 8 = .ok (.iload_n 1, 1) := by decide +kernel
theorem dX12_chainsOn_9 : decode cX12_chainsOn 9 = .ok (.iaload, 1) := by decide +kernel
theorem dX12_chainsOn_10 : decode cX12_chainsOn 10 = .ok (.istore_n 3, 1) := by decide +kernel
theorem dX12_chainsOn_11 : decode cX12_chainsOn 11 = .ok (.iload_n 3, 1) := by decide +kernel
theorem dX12_chainsOn_12 : decode cX12_chainsOn 12 = .ok (.ifCond .le 48, 3) := by decide +kernel
theorem dX12_chainsOn_15 : decode cX12_chainsOn 15 = .ok (.iconst 0, 1) := by decide +kernel
theorem dX12_chainsOn_16 : decode cX12_chainsOn 16 = .ok (.istore 4, 2) := by decide +kernel
theorem dX12_chainsOn_18 : decode cX12_chainsOn 18 = .ok (.aload_n 0, 1) := by decide +kernel
theorem dX12_chainsOn_19 : decode cX12_chainsOn 19 = .ok (.iload 4, 2) := by decide +kernel
theorem dX12_chainsOn_21 : decode cX12_chainsOn 21 = .ok (.iload_n 2, 1) := by decide +kernel
theorem dX12_chainsOn_22 : decode cX12_chainsOn 22 = .ok (.iload_n 3, 1) := by decide +kernel
theorem dX12_chainsOn_23 : decode cX12_chainsOn 23 = .ok (.iconst 1, 1) := by decide +kernel
theorem dX12_chainsOn_24 : decode cX12_chainsOn 24 = .ok (.isub, 1) := by decide +kernel
theorem dX12_chainsOn_25 : decode cX12_chainsOn 25 = .ok (.invokevirtual 256, 3) := by decide +kernel
theorem dX12_chainsOn_28 : decode cX12_chainsOn 28 = .ok (.ifCond .ne 9, 3) := by decide +kernel
theorem dX12_chainsOn_31 : decode cX12_chainsOn 31 = .ok (.iinc 4 1, 3) := by decide +kernel
theorem dX12_chainsOn_34 : decode cX12_chainsOn 34 = .ok (.goto (-16), 3) := by decide +kernel
theorem dX12_chainsOn_37 : decode cX12_chainsOn 37 = .ok (.aload_n 0, 1) := by decide +kernel
theorem dX12_chainsOn_38 : decode cX12_chainsOn 38 = .ok (.iload 4, 2) := by decide +kernel
theorem dX12_chainsOn_40 : decode cX12_chainsOn 40 = .ok (.invokevirtual 221, 3) := by decide +kernel
theorem dX12_chainsOn_43 : decode cX12_chainsOn 43 = .ok (.aload_n 0, 1) := by decide +kernel
theorem dX12_chainsOn_44 : decode cX12_chainsOn 44 = .ok (.iload 4, 2) := by decide +kernel
theorem dX12_chainsOn_46 : decode cX12_chainsOn 46 = .ok (.iload_n 2, 1) := by decide +kernel
theorem dX12_chainsOn_47 : decode cX12_chainsOn 47 = .ok (.iload_n 3, 1) := by decide +kernel
theorem dX12_chainsOn_48 : decode cX12_chainsOn 48 = .ok (.iconst 1, 1) := by decide +kernel
theorem dX12_chainsOn_49 : decode cX12_chainsOn 49 = .ok (.isub, 1) := by decide +kernel
theorem dX12_chainsOn_50 : decode cX12_chainsOn 50 = .ok (.invokevirtual 256, 3) := by decide +kernel
theorem dX12_chainsOn_53 : decode cX12_chainsOn 53 = .ok (.istore_n 2, 1) := by decide +kernel
theorem dX12_chainsOn_54 : decode cX12_chainsOn 54 = .ok (.iinc 3 (-1), 3) := by decide +kernel
theorem dX12_chainsOn_57 : decode cX12_chainsOn 57 = .ok (.goto (-46), 3) := by decide +kernel
theorem dX12_chainsOn_60 : decode cX12_chainsOn 60 = .ok (.return_, 1) := by decide +kernel
theorem dX12_goesBy_0 : decode cX12_goesBy 0 = .ok (.iconst 0, 1) := by decide +kernel
theorem dX12_goesBy_1 : decode cX12_goesBy 1 = .ok (.istore 4, 2) := by decide +kernel
theorem dX12_goesBy_3 : decode cX12_goesBy 3 = .ok (.iconst 0, 1) := by decide +kernel
theorem dX12_goesBy_4 : decode cX12_goesBy 4 = .ok (.istore 5, 2) := by decide +kernel
theorem dX12_goesBy_6 : decode cX12_goesBy 6 = .ok (.iload 5, 2) := by decide +kernel
theorem dX12_goesBy_8 : decode cX12_goesBy 8 = .ok (.bipush 24, 2) := by decide +kernel
theorem dX12_goesBy_10 : decode cX12_goesBy 10 = .ok (.if_icmp .ge 70, 3) := by decide +kernel
theorem dX12_goesBy_13 : decode cX12_goesBy 13 = .ok (.iconst 0, 1) := by decide +kernel
theorem dX12_goesBy_14 : decode cX12_goesBy 14 = .ok (.istore 6, 2) := by decide +kernel
theorem dX12_goesBy_16 : decode cX12_goesBy 16 = .ok (.iload 6, 2) := by decide +kernel
theorem dX12_goesBy_18 : decode cX12_goesBy 18 = .ok (.bipush 24, 2) := by decide +kernel
theorem dX12_goesBy_20 : decode cX12_goesBy 20 = .ok (.if_icmp .ge 54, 3) := by decide +kernel
theorem dX12_goesBy_23 : decode cX12_goesBy 23 = .ok (.iload 4, 2) := by decide +kernel
theorem dX12_goesBy_25 : decode cX12_goesBy 25 = .ok (.iload_n 2, 1) := by decide +kernel
theorem dX12_goesBy_26 : decode cX12_goesBy 26 = .ok (.iload 5, 2) := by decide +kernel
theorem dX12_goesBy_28 : decode cX12_goesBy 28 = .ok (.invokestatic 129, 3) := by decide +kernel
theorem dX12_goesBy_31 : decode cX12_goesBy 31 = .ok (.ifCond .eq 33, 3) := by decide +kernel
theorem dX12_goesBy_34 : decode cX12_goesBy 34 = .ok (.aload_n 0, 1) := by decide +kernel
theorem dX12_goesBy_35 : decode cX12_goesBy 35 = .ok (.getfield 246, 3) := by decide +kernel
theorem dX12_goesBy_38 : decode cX12_goesBy 38 = .ok (.iload 6, 2) := by decide +kernel
theorem dX12_goesBy_40 : decode cX12_goesBy 40 = .ok (.iaload, 1) := by decide +kernel
theorem dX12_goesBy_41 : decode cX12_goesBy 41 = .ok (.iload_n 3, 1) := by decide +kernel
theorem dX12_goesBy_42 : decode cX12_goesBy 42 = .ok (.if_icmp .ne 22, 3) := by decide +kernel
theorem dX12_goesBy_45 : decode cX12_goesBy 45 = .ok (.aload_n 0, 1) := by decide +kernel
theorem dX12_goesBy_46 : decode cX12_goesBy 46 = .ok (.iload_n 1, 1) := by decide +kernel
theorem dX12_goesBy_47 : decode cX12_goesBy 47 = .ok (.iload 5, 2) := by decide +kernel
theorem dX12_goesBy_49 : decode cX12_goesBy 49 = .ok (.iload 6, 2) := by decide +kernel
theorem dX12_goesBy_51 : decode cX12_goesBy 51 = .ok (.invokevirtual 242, 3) := by decide +kernel
theorem dX12_goesBy_54 : decode cX12_goesBy 54 = .ok (.ifCond .eq 10, 3) := by decide +kernel
theorem dX12_goesBy_57 : decode cX12_goesBy 57 = .ok (.iconst 1, 1) := by decide +kernel
theorem dX12_goesBy_58 : decode cX12_goesBy 58 = .ok (.iload 6, 2) := by decide +kernel
theorem dX12_goesBy_60 : decode cX12_goesBy 60 = .ok (.ishl, 1) := by decide +kernel
theorem dX12_goesBy_61 : decode cX12_goesBy 61 = .ok (.goto 4, 3) := by decide +kernel
theorem dX12_goesBy_64 : decode cX12_goesBy 64 = .ok (.iconst 0, 1) := by decide +kernel
theorem dX12_goesBy_65 : decode cX12_goesBy 65 = .ok (.ior, 1) := by decide +kernel
theorem dX12_goesBy_66 : decode cX12_goesBy 66 = .ok (.istore 4, 2) := by decide +kernel
theorem dX12_goesBy_68 : decode cX12_goesBy 68 = .ok (.iinc 6 1, 3) := by decide +kernel
theorem dX12_goesBy_71 : decode cX12_goesBy 71 = .ok (.goto (-55), 3) := by decide +kernel
theorem dX12_goesBy_74 : decode cX12_goesBy 74 = .ok (.iinc 5 1, 3) := by decide +kernel
theorem dX12_goesBy_77 : decode cX12_goesBy 77 = .ok (.goto (-71), 3) := by decide +kernel
theorem dX12_goesBy_80 : decode cX12_goesBy 80 = .ok (.iload 4, 2) := by decide +kernel
theorem dX12_goesBy_82 : decode cX12_goesBy 82 = .ok (.ireturn, 1) := by decide +kernel
theorem dX12_termsOf_0 : decode cX12_termsOf 0 = .ok (.iconst 0, 1) := by decide +kernel
theorem dX12_termsOf_1 : decode cX12_termsOf 1 = .ok (.istore_n 1, 1) := by decide +kernel
theorem dX12_termsOf_2 : decode cX12_termsOf 2 = .ok (.iconst 0, 1) := by decide +kernel
theorem dX12_termsOf_3 : decode cX12_termsOf 3 = .ok (.istore_n 2, 1) := by decide +kernel
theorem dX12_termsOf_4 : decode cX12_termsOf 4 = .ok (.iload_n 2, 1) := by decide +kernel
theorem dX12_termsOf_5 : decode cX12_termsOf 5 = .ok (.bipush 12, 2) := by decide +kernel
theorem dX12_termsOf_7 : decode cX12_termsOf 7 = .ok (.if_icmp .ge 34, 3) := by decide +kernel
theorem dX12_termsOf_10 : decode cX12_termsOf 10 = .ok (.iload_n 1, 1) := by decide +kernel
theorem dX12_termsOf_11 : decode cX12_termsOf 11 = .ok (.iconst 1, 1) := by decide +kernel
theorem dX12_termsOf_12 : decode cX12_termsOf 12 = .ok (.iconst 2, 1) := by decide +kernel
theorem dX12_termsOf_13 : decode cX12_termsOf 13 = .ok (.iload_n 2, 1) := by decide +kernel
theorem dX12_termsOf_14 : decode cX12_termsOf 14 = .ok (.imul, 1) := by decide +kernel
theorem dX12_termsOf_15 : decode cX12_termsOf 15 = .ok (.iload_n 0, 1) := by decide +kernel
theorem dX12_termsOf_16 : decode cX12_termsOf 16 = .ok (.iload_n 2, 1) := by decide +kernel
theorem dX12_termsOf_17 : decode cX12_termsOf 17 = .ok (.invokestatic 129, 3) := by decide +kernel
theorem dX12_termsOf_20 : decode cX12_termsOf 20 = .ok (.ifCond .ne 7, 3) := by decide +kernel
theorem dX12_termsOf_23 : decode cX12_termsOf 23 = .ok (.iconst 1, 1) := by decide +kernel
theorem dX12_termsOf_24 : decode cX12_termsOf 24 = .ok (.goto 4, 3) := by decide +kernel
theorem dX12_termsOf_27 : decode cX12_termsOf 27 = .ok (.iconst 0, 1) := by decide +kernel
theorem dX12_termsOf_28 : decode cX12_termsOf 28 = .ok (.invokestatic 52, 3) := by decide +kernel
theorem dX12_termsOf_31 : decode cX12_termsOf 31 = .ok (.iadd, 1) := by decide +kernel
theorem dX12_termsOf_32 : decode cX12_termsOf 32 = .ok (.ishl, 1) := by decide +kernel
theorem dX12_termsOf_33 : decode cX12_termsOf 33 = .ok (.ior, 1) := by decide +kernel
theorem dX12_termsOf_34 : decode cX12_termsOf 34 = .ok (.istore_n 1, 1) := by decide +kernel
theorem dX12_termsOf_35 : decode cX12_termsOf 35 = .ok (.iinc 2 1, 3) := by decide +kernel
theorem dX12_termsOf_38 : decode cX12_termsOf 38 = .ok (.goto (-34), 3) := by decide +kernel
theorem dX12_termsOf_41 : decode cX12_termsOf 41 = .ok (.iload_n 1, 1) := by decide +kernel
theorem dX12_termsOf_42 : decode cX12_termsOf 42 = .ok (.ireturn, 1) := by decide +kernel
theorem dX12_canBe_0 : decode cX12_canBe 0 = .ok (.iload_n 1, 1) := by decide +kernel
theorem dX12_canBe_1 : decode cX12_canBe 1 = .ok (.invokestatic 259, 3) := by decide +kernel
theorem dX12_canBe_4 : decode cX12_canBe 4 = .ok (.istore_n 2, 1) := by decide +kernel
theorem dX12_canBe_5 : decode cX12_canBe 5 = .ok (.iconst 0, 1) := by decide +kernel
theorem dX12_canBe_6 : decode cX12_canBe 6 = .ok (.istore_n 3, 1) := by decide +kernel
theorem dX12_canBe_7 : decode cX12_canBe 7 = .ok (.iload_n 3, 1) := by decide +kernel
theorem dX12_canBe_8 : decode cX12_canBe 8 = .ok (.bipush 24, 2) := by decide +kernel
theorem dX12_canBe_10 : decode cX12_canBe 10 = .ok (.if_icmp .ge 32, 3) := by decide +kernel
theorem dX12_canBe_13 : decode cX12_canBe 13 = .ok (.iload_n 2, 1) := by decide +kernel
theorem dX12_canBe_14 : decode cX12_canBe 14 = .ok (.iload_n 3, 1) := by decide +kernel
theorem dX12_canBe_15 : decode cX12_canBe 15 = .ok (.invokestatic 129, 3) := by decide +kernel
theorem dX12_canBe_18 : decode cX12_canBe 18 = .ok (.ifCond .eq 18, 3) := by decide +kernel
theorem dX12_canBe_21 : decode cX12_canBe 21 = .ok (.aload_n 0, 1) := by decide +kernel
theorem dX12_canBe_22 : decode cX12_canBe 22 = .ok (.getfield 162, 3) := by decide +kernel
theorem dX12_canBe_25 : decode cX12_canBe 25 = .ok (.iload_n 3, 1) := by decide +kernel
theorem dX12_canBe_26 : decode cX12_canBe 26 = .ok (.iaload, 1) := by decide +kernel
theorem dX12_canBe_27 : decode cX12_canBe 27 = .ok (.iload_n 2, 1) := by decide +kernel
theorem dX12_canBe_28 : decode cX12_canBe 28 = .ok (.iconst (-1), 1) := by decide +kernel
theorem dX12_canBe_29 : decode cX12_canBe 29 = .ok (.ixor, 1) := by decide +kernel
theorem dX12_canBe_30 : decode cX12_canBe 30 = .ok (.iand, 1) := by decide +kernel
theorem dX12_canBe_31 : decode cX12_canBe 31 = .ok (.ifCond .eq 5, 3) := by decide +kernel
theorem dX12_canBe_34 : decode cX12_canBe 34 = .ok (.iconst 0, 1) := by decide +kernel
theorem dX12_canBe_35 : decode cX12_canBe 35 = .ok (.ireturn, 1) := by decide +kernel
theorem dX12_canBe_36 : decode cX12_canBe 36 = .ok (.iinc 3 1, 3) := by decide +kernel
theorem dX12_canBe_39 : decode cX12_canBe 39 = .ok (.goto (-32), 3) := by decide +kernel
theorem dX12_canBe_42 : decode cX12_canBe 42 = .ok (.iconst 1, 1) := by decide +kernel
theorem dX12_canBe_43 : decode cX12_canBe 43 = .ok (.ireturn, 1) := by decide +kernel
theorem dX12_isOf_0 : decode cX12_isOf 0 = .ok (.iload_n 0, 1) := by decide +kernel
theorem dX12_isOf_1 : decode cX12_isOf 1 = .ok (.iload_n 1, 1) := by decide +kernel
theorem dX12_isOf_2 : decode cX12_isOf 2 = .ok (.iconst 2, 1) := by decide +kernel
theorem dX12_isOf_3 : decode cX12_isOf 3 = .ok (.idiv, 1) := by decide +kernel
theorem dX12_isOf_4 : decode cX12_isOf 4 = .ok (.invokestatic 129, 3) := by decide +kernel
theorem dX12_isOf_7 : decode cX12_isOf 7 = .ok (.iload_n 1, 1) := by decide +kernel
theorem dX12_isOf_8 : decode cX12_isOf 8 = .ok (.iconst 2, 1) := by decide +kernel
theorem dX12_isOf_9 : decode cX12_isOf 9 = .ok (.irem, 1) := by decide +kernel
theorem dX12_isOf_10 : decode cX12_isOf 10 = .ok (.ifCond .ne 7, 3) := by decide +kernel
theorem dX12_isOf_13 : decode cX12_isOf 13 = .ok (.iconst 1, 1) := by decide +kernel
theorem dX12_isOf_14 : decode cX12_isOf 14 = .ok (.goto 4, 3) := by decide +kernel
theorem dX12_isOf_17 : decode cX12_isOf 17 = .ok (.iconst 0, 1) := by decide +kernel
theorem dX12_isOf_18 : decode cX12_isOf 18 = .ok (.if_icmp .ne 7, 3) := by decide +kernel
theorem dX12_isOf_21 : decode cX12_isOf 21 = .ok (.iconst 1, 1) := by decide +kernel
theorem dX12_isOf_22 : decode cX12_isOf 22 = .ok (.goto 4, 3) := by decide +kernel
theorem dX12_isOf_25 : decode cX12_isOf 25 = .ok (.iconst 0, 1) := by decide +kernel
theorem dX12_isOf_26 : decode cX12_isOf 26 = .ok (.ireturn, 1) := by decide +kernel
theorem dX12_countsBoth_0 : decode cX12_countsBoth 0 = .ok (.aload_n 0, 1) := by decide +kernel
theorem dX12_countsBoth_1 : decode cX12_countsBoth 1 = .ok (.invokevirtual 239, 3) := by decide +kernel
theorem dX12_countsBoth_4 : decode cX12_countsBoth 4 = .ok (.iconst 0, 1) := by decide +kernel
theorem dX12_countsBoth_5 : decode cX12_countsBoth 5 = .ok (.istore_n 3, 1) := by decide +kernel
theorem dX12_countsBoth_6 : decode cX12_countsBoth 6 = .ok (.iconst 0, 1) := by decide +kernel
theorem dX12_countsBoth_7 : decode cX12_countsBoth 7 = .ok (.istore 4, 2) := by decide +kernel
theorem dX12_countsBoth_9 : decode cX12_countsBoth 9 = .ok (.iload 4, 2) := by decide +kernel
theorem dX12_countsBoth_11 : decode cX12_countsBoth 11 = .ok (.sipush 4096, 3) := by decide +kernel
theorem dX12_countsBoth_14 : decode cX12_countsBoth 14 = .ok (.if_icmp .ge 47, 3) := by decide +kernel
theorem dX12_countsBoth_17 : decode cX12_countsBoth 17 = .ok (.iload_n 3, 1) := by decide +kernel
theorem dX12_countsBoth_18 : decode cX12_countsBoth 18 = .ok (.iload 4, 2) := by decide +kernel
theorem dX12_countsBoth_20 : decode cX12_countsBoth 20 = .ok (.iload_n 1, 1) := by decide +kernel
theorem dX12_countsBoth_21 : decode cX12_countsBoth 21 = .ok (.invokestatic 262, 3) := by decide +kernel
theorem dX12_countsBoth_24 : decode cX12_countsBoth 24 = .ok (.ifCond .eq 25, 3) := by decide +kernel
theorem dX12_countsBoth_27 : decode cX12_countsBoth 27 = .ok (.iload 4, 2) := by decide +kernel
theorem dX12_countsBoth_29 : decode cX12_countsBoth 29 = .ok (.iload_n 2, 1) := by decide +kernel
theorem dX12_countsBoth_30 : decode cX12_countsBoth 30 = .ok (.invokestatic 262, 3) := by decide +kernel
theorem dX12_countsBoth_33 : decode cX12_countsBoth 33 = .ok (.ifCond .eq 16, 3) := by decide +kernel
theorem dX12_countsBoth_36 : decode cX12_countsBoth 36 = .ok (.aload_n 0, 1) := by decide +kernel
theorem dX12_countsBoth_37 : decode cX12_countsBoth 37 = .ok (.iload 4, 2) := by decide +kernel
theorem dX12_countsBoth_39 : decode cX12_countsBoth 39 = .ok (.invokevirtual 265, 3) := by decide +kernel
theorem dX12_countsBoth_42 : decode cX12_countsBoth 42 = .ok (.ifCond .eq 7, 3) := by decide +kernel
theorem dX12_countsBoth_45 : decode cX12_countsBoth 45 = .ok (.iconst 1, 1) := by decide +kernel
theorem dX12_countsBoth_46 : decode cX12_countsBoth 46 = .ok (.goto 4, 3) := by decide +kernel
theorem dX12_countsBoth_49 : decode cX12_countsBoth 49 = .ok (.iconst 0, 1) := by decide +kernel
theorem dX12_countsBoth_50 : decode cX12_countsBoth 50 = .ok (.invokestatic 52, 3) := by decide +kernel
theorem dX12_countsBoth_53 : decode cX12_countsBoth 53 = .ok (.iadd, 1) := by decide +kernel
theorem dX12_countsBoth_54 : decode cX12_countsBoth 54 = .ok (.istore_n 3, 1) := by decide +kernel
theorem dX12_countsBoth_55 : decode cX12_countsBoth 55 = .ok (.iinc 4 1, 3) := by decide +kernel
theorem dX12_countsBoth_58 : decode cX12_countsBoth 58 = .ok (.goto (-49), 3) := by decide +kernel
theorem dX12_countsBoth_61 : decode cX12_countsBoth 61 = .ok (.iload_n 3, 1) := by decide +kernel
theorem dX12_countsBoth_62 : decode cX12_countsBoth 62 = .ok (.ireturn, 1) := by decide +kernel
theorem dX12_sorts_0 : decode cX12_sorts 0 = .ok (.aload_n 0, 1) := by decide +kernel
theorem dX12_sorts_1 : decode cX12_sorts 1 = .ok (.iconst 0, 1) := by decide +kernel
theorem dX12_sorts_2 : decode cX12_sorts 2 = .ok (.putfield 3, 3) := by decide +kernel
theorem dX12_sorts_5 : decode cX12_sorts 5 = .ok (.aload_n 0, 1) := by decide +kernel
theorem dX12_sorts_6 : decode cX12_sorts 6 = .ok (.iconst 0, 1) := by decide +kernel
theorem dX12_sorts_7 : decode cX12_sorts 7 = .ok (.iconst 0, 1) := by decide +kernel
theorem dX12_sorts_8 : decode cX12_sorts 8 = .ok (.invokevirtual 268, 3) := by decide +kernel
theorem dX12_sorts_11 : decode cX12_sorts 11 = .ok (.aload_n 0, 1) := by decide +kernel
theorem dX12_sorts_12 : decode cX12_sorts 12 = .ok (.iconst 1, 1) := by decide +kernel
theorem dX12_sorts_13 : decode cX12_sorts 13 = .ok (.iconst 1, 1) := by decide +kernel
theorem dX12_sorts_14 : decode cX12_sorts 14 = .ok (.invokevirtual 268, 3) := by decide +kernel
theorem dX12_sorts_17 : decode cX12_sorts 17 = .ok (.iadd, 1) := by decide +kernel
theorem dX12_sorts_18 : decode cX12_sorts 18 = .ok (.ireturn, 1) := by decide +kernel
theorem dX12_sort_0 : decode cX12_sort 0 = .ok (.aload_n 0, 1) := by decide +kernel
theorem dX12_sort_1 : decode cX12_sort 1 = .ok (.iconst 0, 1) := by decide +kernel
theorem dX12_sort_2 : decode cX12_sort 2 = .ok (.putfield 3, 3) := by decide +kernel
theorem dX12_sort_5 : decode cX12_sort 5 = .ok (.iload_n 1, 1) := by decide +kernel
theorem dX12_sort_6 : decode cX12_sort 6 = .ok (.ifCond .ge 5, 3) := by decide +kernel
theorem dX12_sort_9 : decode cX12_sort 9 = .ok (.iconst (-1), 1) := by decide +kernel
theorem dX12_sort_10 : decode cX12_sort 10 = .ok (.ireturn, 1) := by decide +kernel
theorem dX12_sort_11 : decode cX12_sort 11 = .ok (.aload_n 0, 1) := by decide +kernel
theorem dX12_sort_12 : decode cX12_sort 12 = .ok (.invokevirtual 239, 3) := by decide +kernel
theorem dX12_sort_15 : decode cX12_sort 15 = .ok (.iload_n 1, 1) := by decide +kernel
theorem dX12_sort_16 : decode cX12_sort 16 = .ok (.istore_n 2, 1) := by decide +kernel
theorem dX12_sort_17 : decode cX12_sort 17 = .ok (.iconst 0, 1) := by decide +kernel
theorem dX12_sort_18 : decode cX12_sort 18 = .ok (.istore_n 3, 1) := by decide +kernel
theorem dX12_sort_19 : decode cX12_sort 19 = .ok (.iload_n 3, 1) := by decide +kernel
theorem dX12_sort_20 : decode cX12_sort 20 = .ok (.sipush 4096, 3) := by decide +kernel
theorem dX12_sort_23 : decode cX12_sort 23 = .ok (.if_icmp .ge 26, 3) := by decide +kernel
theorem dX12_sort_26 : decode cX12_sort 26 = .ok (.aload_n 0, 1) := by decide +kernel
theorem dX12_sort_27 : decode cX12_sort 27 = .ok (.iload_n 3, 1) := by decide +kernel
theorem dX12_sort_28 : decode cX12_sort 28 = .ok (.invokevirtual 265, 3) := by decide +kernel
theorem dX12_sort_31 : decode cX12_sort 31 = .ok (.ifCond .eq 12, 3) := by decide +kernel
theorem dX12_sort_34 : decode cX12_sort 34 = .ok (.iload_n 2, 1) := by decide +kernel
theorem dX12_sort_35 : decode cX12_sort 35 = .ok (.ifCond .ne 5, 3) := by decide +kernel
theorem dX12_sort_38 : decode cX12_sort 38 = .ok (.iload_n 3, 1) := by decide +kernel
theorem dX12_sort_39 : decode cX12_sort 39 = .ok (.ireturn, 1) := by decide +kernel
theorem dX12_sort_40 : decode cX12_sort 40 = .ok (.iinc 2 (-1), 3) := by decide +kernel
theorem dX12_sort_43 : decode cX12_sort 43 = .ok (.iinc 3 1, 3) := by decide +kernel
theorem dX12_sort_46 : decode cX12_sort 46 = .ok (.goto (-27), 3) := by decide +kernel
theorem dX12_sort_49 : decode cX12_sort 49 = .ok (.bipush (-2), 2) := by decide +kernel
theorem dX12_sort_51 : decode cX12_sort 51 = .ok (.ireturn, 1) := by decide +kernel
theorem dX12_both_0 : decode cX12_both 0 = .ok (.aload_n 0, 1) := by decide +kernel
theorem dX12_both_1 : decode cX12_both 1 = .ok (.iconst 0, 1) := by decide +kernel
theorem dX12_both_2 : decode cX12_both 2 = .ok (.putfield 3, 3) := by decide +kernel
theorem dX12_both_5 : decode cX12_both 5 = .ok (.iload_n 1, 1) := by decide +kernel
theorem dX12_both_6 : decode cX12_both 6 = .ok (.invokestatic 236, 3) := by decide +kernel
theorem dX12_both_9 : decode cX12_both 9 = .ok (.ifCond .eq 19, 3) := by decide +kernel
theorem dX12_both_12 : decode cX12_both 12 = .ok (.iload_n 2, 1) := by decide +kernel
theorem dX12_both_13 : decode cX12_both 13 = .ok (.invokestatic 236, 3) := by decide +kernel
theorem dX12_both_16 : decode cX12_both 16 = .ok (.ifCond .eq 12, 3) := by decide +kernel
theorem dX12_both_19 : decode cX12_both 19 = .ok (.aload_n 0, 1) := by decide +kernel
theorem dX12_both_20 : decode cX12_both 20 = .ok (.iload_n 1, 1) := by decide +kernel
theorem dX12_both_21 : decode cX12_both 21 = .ok (.iload_n 2, 1) := by decide +kernel
theorem dX12_both_22 : decode cX12_both 22 = .ok (.invokevirtual 268, 3) := by decide +kernel
theorem dX12_both_25 : decode cX12_both 25 = .ok (.goto 4, 3) := by decide +kernel
theorem dX12_both_28 : decode cX12_both 28 = .ok (.iconst (-1), 1) := by decide +kernel
theorem dX12_both_29 : decode cX12_both 29 = .ok (.ireturn, 1) := by decide +kernel
theorem dX12_asksFor_0 : decode cX12_asksFor 0 = .ok (.aload_n 0, 1) := by decide +kernel
theorem dX12_asksFor_1 : decode cX12_asksFor 1 = .ok (.getfield 271, 3) := by decide +kernel
theorem dX12_asksFor_4 : decode cX12_asksFor 4 = .ok (.aload_n 0, 1) := by decide +kernel
theorem dX12_asksFor_5 : decode cX12_asksFor 5 = .ok (.getfield 274, 3) := by decide +kernel
theorem dX12_asksFor_8 : decode cX12_asksFor 8 = .ok (.iload_n 1, 1) := by decide +kernel
theorem dX12_asksFor_9 : decode cX12_asksFor 9 = .ok (.iastore, 1) := by decide +kernel
theorem dX12_asksFor_10 : decode cX12_asksFor 10 = .ok (.aload_n 0, 1) := by decide +kernel
theorem dX12_asksFor_11 : decode cX12_asksFor 11 = .ok (.getfield 277, 3) := by decide +kernel
theorem dX12_asksFor_14 : decode cX12_asksFor 14 = .ok (.aload_n 0, 1) := by decide +kernel
theorem dX12_asksFor_15 : decode cX12_asksFor 15 = .ok (.getfield 274, 3) := by decide +kernel
theorem dX12_asksFor_18 : decode cX12_asksFor 18 = .ok (.iload_n 2, 1) := by decide +kernel
theorem dX12_asksFor_19 : decode cX12_asksFor 19 = .ok (.iastore, 1) := by decide +kernel
theorem dX12_asksFor_20 : decode cX12_asksFor 20 = .ok (.aload_n 0, 1) := by decide +kernel
theorem dX12_asksFor_21 : decode cX12_asksFor 21 = .ok (.dup, 1) := by decide +kernel
theorem dX12_asksFor_22 : decode cX12_asksFor 22 = .ok (.getfield 274, 3) := by decide +kernel
theorem dX12_asksFor_25 : decode cX12_asksFor 25 = .ok (.iconst 1, 1) := by decide +kernel
theorem dX12_asksFor_26 : decode cX12_asksFor 26 = .ok (.iadd, 1) := by decide +kernel
theorem dX12_asksFor_27 : decode cX12_asksFor 27 = .ok (.putfield 274, 3) := by decide +kernel
theorem dX12_asksFor_30 : decode cX12_asksFor 30 = .ok (.return_, 1) := by decide +kernel
theorem dX12_findsNeeds_0 : decode cX12_findsNeeds 0 = .ok (.aload_n 0, 1) := by decide +kernel
theorem dX12_findsNeeds_1 : decode cX12_findsNeeds 1 = .ok (.iconst 0, 1) := by decide +kernel
theorem dX12_findsNeeds_2 : decode cX12_findsNeeds 2 = .ok (.putfield 274, 3) := by decide +kernel
theorem dX12_findsNeeds_5 : decode cX12_findsNeeds 5 = .ok (.iconst 0, 1) := by decide +kernel
theorem dX12_findsNeeds_6 : decode cX12_findsNeeds 6 = .ok (.istore_n 1, 1) := by decide +kernel
theorem dX12_findsNeeds_7 : decode cX12_findsNeeds 7 = .ok (.iload_n 1, 1) := by decide +kernel
theorem dX12_findsNeeds_8 : decode cX12_findsNeeds 8 = .ok (.aload_n 0, 1) := by decide +kernel
theorem dX12_findsNeeds_9 : decode cX12_findsNeeds 9 = .ok (.getfield 156, 3) := by decide +kernel
theorem dX12_findsNeeds_12 : decode cX12_findsNeeds 12 = .ok (.if_icmp .ge 64, 3) := by decide +kernel
theorem dX12_findsNeeds_15 : decode cX12_findsNeeds 15 = .ok (.aload_n 0, 1) := by decide +kernel
theorem dX12_findsNeeds_16 : decode cX12_findsNeeds 16 = .ok (.getfield 159, 3) := by decide +kernel
theorem dX12_findsNeeds_19 : decode cX12_findsNeeds 19 = .ok (.iload_n 1, 1) := by decide +kernel
theorem dX12_findsNeeds_20 : decode cX12_findsNeeds 20 = .ok (.iaload, 1) := by decide +kernel
theorem dX12_findsNeeds_21 : decode cX12_findsNeeds 21 = .ok (.invokestatic 27, 3) := by decide +kernel
theorem dX12_findsNeeds_24 : decode cX12_findsNeeds 24 = .ok (.istore_n 2, 1) := by decide +kernel
theorem dX12_findsNeeds_25 : decode cX12_findsNeeds 25 = .ok (.aload_n 0, 1) := by decide +kernel
theorem dX12_findsNeeds_26 : decode cX12_findsNeeds 26 = .ok (.getfield 159, 3) := by decide +kernel
theorem dX12_findsNeeds_29 : decode cX12_findsNeeds 29 = .ok (.iload_n 1, 1) := by decide +kernel
theorem dX12_findsNeeds_30 : decode cX12_findsNeeds 30 = .ok (.iaload, 1) := by decide +kernel
theorem dX12_findsNeeds_31 : decode cX12_findsNeeds 31 = .ok (.invokestatic 165, 3) := by decide +kernel
theorem dX12_findsNeeds_34 : decode cX12_findsNeeds 34 = .ok (.ifCond .ne 36, 3) := by decide +kernel
theorem dX12_findsNeeds_37 : decode cX12_findsNeeds 37 = .ok (.aload_n 0, 1) := by decide +kernel
theorem dX12_findsNeeds_38 : decode cX12_findsNeeds 38 = .ok (.aload_n 0, 1) := by decide +kernel
theorem dX12_findsNeeds_39 : decode cX12_findsNeeds 39 = .ok (.getfield 159, 3) := by decide +kernel
theorem dX12_findsNeeds_42 : decode cX12_findsNeeds 42 = .ok (.iload_n 1, 1) := by decide +kernel
theorem dX12_findsNeeds_43 : decode cX12_findsNeeds 43 = .ok (.iaload, 1) := by decide +kernel
theorem dX12_findsNeeds_44 : decode cX12_findsNeeds 44 = .ok (.invokestatic 24, 3) := by decide +kernel
theorem dX12_findsNeeds_47 : decode cX12_findsNeeds 47 = .ok (.aload_n 0, 1) := by decide +kernel
theorem dX12_findsNeeds_48 : decode cX12_findsNeeds 48 = .ok (.getfield 159, 3) := by decide +kernel
theorem dX12_findsNeeds_51 : decode cX12_findsNeeds 51 = .ok (.iload_n 1, 1) := by decide +kernel
theorem dX12_findsNeeds_52 : decode cX12_findsNeeds 52 = .ok (.iaload, 1) := by decide +kernel
theorem dX12_findsNeeds_53 : decode cX12_findsNeeds 53 = .ok (.invokestatic 20, 3) := by decide +kernel
theorem dX12_findsNeeds_56 : decode cX12_findsNeeds 56 = .ok (.iconst 2, 1) := by decide +kernel
theorem dX12_findsNeeds_57 : decode cX12_findsNeeds 57 = .ok (.if_icmp .ne 7, 3) := by decide +kernel
theorem dX12_findsNeeds_60 : decode cX12_findsNeeds 60 = .ok (.iload_n 2, 1) := by decide +kernel
theorem dX12_findsNeeds_61 : decode cX12_findsNeeds 61 = .ok (.goto 6, 3) := by decide +kernel
theorem dX12_findsNeeds_64 : decode cX12_findsNeeds 64 = .ok (.iload_n 2, 1) := by decide +kernel
theorem dX12_findsNeeds_65 : decode cX12_findsNeeds 65 = .ok (.iconst 1, 1) := by decide +kernel
theorem dX12_findsNeeds_66 : decode cX12_findsNeeds 66 = .ok (.ixor, 1) := by decide +kernel
theorem dX12_findsNeeds_67 : decode cX12_findsNeeds 67 = .ok (.invokevirtual 280, 3) := by decide +kernel
theorem dX12_findsNeeds_70 : decode cX12_findsNeeds 70 = .ok (.iinc 1 1, 3) := by decide +kernel
theorem dX12_findsNeeds_73 : decode cX12_findsNeeds 73 = .ok (.goto (-66), 3) := by decide +kernel
theorem dX12_findsNeeds_76 : decode cX12_findsNeeds 76 = .ok (.iconst 0, 1) := by decide +kernel
theorem dX12_findsNeeds_77 : decode cX12_findsNeeds 77 = .ok (.istore_n 1, 1) := by decide +kernel
theorem dX12_findsNeeds_78 : decode cX12_findsNeeds 78 = .ok (.iload_n 1, 1) := by decide +kernel
theorem dX12_findsNeeds_79 : decode cX12_findsNeeds 79 = .ok (.bipush 12, 2) := by decide +kernel
theorem dX12_findsNeeds_81 : decode cX12_findsNeeds 81 = .ok (.if_icmp .ge 30, 3) := by decide +kernel
theorem dX12_findsNeeds_84 : decode cX12_findsNeeds 84 = .ok (.aload_n 0, 1) := by decide +kernel
theorem dX12_findsNeeds_85 : decode cX12_findsNeeds 85 = .ok (.getfield 139, 3) := by decide +kernel
theorem dX12_findsNeeds_88 : decode cX12_findsNeeds 88 = .ok (.iload_n 1, 1) := by decide +kernel
theorem dX12_findsNeeds_89 : decode cX12_findsNeeds 89 = .ok (.invokestatic 129, 3) := by decide +kernel
theorem dX12_findsNeeds_92 : decode cX12_findsNeeds 92 = .ok (.ifCond .eq 13, 3) := by decide +kernel
theorem dX12_findsNeeds_95 : decode cX12_findsNeeds 95 = .ok (.aload_n 0, 1) := by decide +kernel
theorem dX12_findsNeeds_96 : decode cX12_findsNeeds 96 = .ok (.iconst 2, 1) := by decide +kernel
theorem dX12_findsNeeds_97 : decode cX12_findsNeeds 97 = .ok (.iload_n 1, 1) := by decide +kernel
theorem dX12_findsNeeds_98 : decode cX12_findsNeeds 98 = .ok (.imul, 1) := by decide +kernel
theorem dX12_findsNeeds_99 : decode cX12_findsNeeds 99 = .ok (.iconst 2, 1) := by decide +kernel
theorem dX12_findsNeeds_100 : decode cX12_findsNeeds 100 = .ok (.iload_n 1, 1) := by decide +kernel
theorem dX12_findsNeeds_101 : decode cX12_findsNeeds 101 = .ok (.imul, 1) := by decide +kernel
theorem dX12_findsNeeds_102 : decode cX12_findsNeeds 102 = .ok (.invokevirtual 280, 3) := by decide +kernel
theorem dX12_findsNeeds_105 : decode cX12_findsNeeds 105 = .ok (.iinc 1 1, 3) := by decide +kernel
theorem dX12_findsNeeds_108 : decode cX12_findsNeeds 108 = .ok (.goto (-30), 3) := by decide +kernel
theorem dX12_findsNeeds_111 : decode cX12_findsNeeds 111 = .ok (.return_, 1) := by decide +kernel
theorem dX12_maskOf_0 : decode cX12_maskOf 0 = .ok (.iconst 0, 1) := by decide +kernel
theorem dX12_maskOf_1 : decode cX12_maskOf 1 = .ok (.istore_n 2, 1) := by decide +kernel
theorem dX12_maskOf_2 : decode cX12_maskOf 2 = .ok (.iconst 0, 1) := by decide +kernel
theorem dX12_maskOf_3 : decode cX12_maskOf 3 = .ok (.istore_n 3, 1) := by decide +kernel
theorem dX12_maskOf_4 : decode cX12_maskOf 4 = .ok (.iload_n 3, 1) := by decide +kernel
theorem dX12_maskOf_5 : decode cX12_maskOf 5 = .ok (.aload_n 0, 1) := by decide +kernel
theorem dX12_maskOf_6 : decode cX12_maskOf 6 = .ok (.getfield 274, 3) := by decide +kernel
theorem dX12_maskOf_9 : decode cX12_maskOf 9 = .ok (.if_icmp .ge 45, 3) := by decide +kernel
theorem dX12_maskOf_12 : decode cX12_maskOf 12 = .ok (.iload_n 2, 1) := by decide +kernel
theorem dX12_maskOf_13 : decode cX12_maskOf 13 = .ok (.iload_n 1, 1) := by decide +kernel
theorem dX12_maskOf_14 : decode cX12_maskOf 14 = .ok (.aload_n 0, 1) := by decide +kernel
theorem dX12_maskOf_15 : decode cX12_maskOf 15 = .ok (.getfield 271, 3) := by decide +kernel
theorem dX12_maskOf_18 : decode cX12_maskOf 18 = .ok (.iload_n 3, 1) := by decide +kernel
theorem dX12_maskOf_19 : decode cX12_maskOf 19 = .ok (.iaload, 1) := by decide +kernel
theorem dX12_maskOf_20 : decode cX12_maskOf 20 = .ok (.invokestatic 262, 3) := by decide +kernel
theorem dX12_maskOf_23 : decode cX12_maskOf 23 = .ok (.ifCond .eq 22, 3) := by decide +kernel
theorem dX12_maskOf_26 : decode cX12_maskOf 26 = .ok (.iload_n 1, 1) := by decide +kernel
theorem dX12_maskOf_27 : decode cX12_maskOf 27 = .ok (.aload_n 0, 1) := by decide +kernel
theorem dX12_maskOf_28 : decode cX12_maskOf 28 = .ok (.getfield 277, 3) := by decide +kernel
theorem dX12_maskOf_31 : decode cX12_maskOf 31 = .ok (.iload_n 3, 1) := by decide +kernel
theorem dX12_maskOf_32 : decode cX12_maskOf 32 = .ok (.iaload, 1) := by decide +kernel
theorem dX12_maskOf_33 : decode cX12_maskOf 33 = .ok (.invokestatic 262, 3) := by decide +kernel
theorem dX12_maskOf_36 : decode cX12_maskOf 36 = .ok (.ifCond .eq 9, 3) := by decide +kernel
theorem dX12_maskOf_39 : decode cX12_maskOf 39 = .ok (.iconst 1, 1) := by decide +kernel
theorem dX12_maskOf_40 : decode cX12_maskOf 40 = .ok (.iload_n 3, 1) := by decide +kernel
theorem dX12_maskOf_41 : decode cX12_maskOf 41 = .ok (.ishl, 1) := by decide +kernel
theorem dX12_maskOf_42 : decode cX12_maskOf 42 = .ok (.goto 4, 3) := by decide +kernel
theorem dX12_maskOf_45 : decode cX12_maskOf 45 = .ok (.iconst 0, 1) := by decide +kernel
theorem dX12_maskOf_46 : decode cX12_maskOf 46 = .ok (.ior, 1) := by decide +kernel
theorem dX12_maskOf_47 : decode cX12_maskOf 47 = .ok (.istore_n 2, 1) := by decide +kernel
theorem dX12_maskOf_48 : decode cX12_maskOf 48 = .ok (.iinc 3 1, 3) := by decide +kernel
theorem dX12_maskOf_51 : decode cX12_maskOf 51 = .ok (.goto (-47), 3) := by decide +kernel
theorem dX12_maskOf_54 : decode cX12_maskOf 54 = .ok (.iload_n 2, 1) := by decide +kernel
theorem dX12_maskOf_55 : decode cX12_maskOf 55 = .ok (.ireturn, 1) := by decide +kernel
theorem dX12_towns_0 : decode cX12_towns 0 = .ok (.aload_n 0, 1) := by decide +kernel
theorem dX12_towns_1 : decode cX12_towns 1 = .ok (.invokevirtual 197, 3) := by decide +kernel
theorem dX12_towns_4 : decode cX12_towns 4 = .ok (.ifCond .ne 6, 3) := by decide +kernel
theorem dX12_towns_7 : decode cX12_towns 7 = .ok (.bipush (-2), 2) := by decide +kernel
theorem dX12_towns_9 : decode cX12_towns 9 = .ok (.ireturn, 1) := by decide +kernel
theorem dX12_towns_10 : decode cX12_towns 10 = .ok (.aload_n 0, 1) := by decide +kernel
theorem dX12_towns_11 : decode cX12_towns 11 = .ok (.invokevirtual 283, 3) := by decide +kernel
theorem dX12_towns_14 : decode cX12_towns 14 = .ok (.aload_n 0, 1) := by decide +kernel
theorem dX12_towns_15 : decode cX12_towns 15 = .ok (.getfield 274, 3) := by decide +kernel
theorem dX12_towns_18 : decode cX12_towns 18 = .ok (.bipush 12, 2) := by decide +kernel
theorem dX12_towns_20 : decode cX12_towns 20 = .ok (.if_icmp .le 6, 3) := by decide +kernel
theorem dX12_towns_23 : decode cX12_towns 23 = .ok (.bipush (-3), 2) := by decide +kernel
theorem dX12_towns_25 : decode cX12_towns 25 = .ok (.ireturn, 1) := by decide +kernel
theorem dX12_towns_26 : decode cX12_towns 26 = .ok (.iconst 1, 1) := by decide +kernel
theorem dX12_towns_27 : decode cX12_towns 27 = .ok (.aload_n 0, 1) := by decide +kernel
theorem dX12_towns_28 : decode cX12_towns 28 = .ok (.getfield 274, 3) := by decide +kernel
theorem dX12_towns_31 : decode cX12_towns 31 = .ok (.ishl, 1) := by decide +kernel
theorem dX12_towns_32 : decode cX12_towns 32 = .ok (.iconst 1, 1) := by decide +kernel
theorem dX12_towns_33 : decode cX12_towns 33 = .ok (.isub, 1) := by decide +kernel
theorem dX12_towns_34 : decode cX12_towns 34 = .ok (.istore_n 1, 1) := by decide +kernel
theorem dX12_towns_35 : decode cX12_towns 35 = .ok (.iconst 0, 1) := by decide +kernel
theorem dX12_towns_36 : decode cX12_towns 36 = .ok (.istore_n 2, 1) := by decide +kernel
theorem dX12_towns_37 : decode cX12_towns 37 = .ok (.iload_n 2, 1) := by decide +kernel
theorem dX12_towns_38 : decode cX12_towns 38 = .ok (.iload_n 1, 1) := by decide +kernel
theorem dX12_towns_39 : decode cX12_towns 39 = .ok (.if_icmp .gt 16, 3) := by decide +kernel
theorem dX12_towns_42 : decode cX12_towns 42 = .ok (.aload_n 0, 1) := by decide +kernel
theorem dX12_towns_43 : decode cX12_towns 43 = .ok (.getfield 286, 3) := by decide +kernel
theorem dX12_towns_46 : decode cX12_towns 46 = .ok (.iload_n 2, 1) := by decide +kernel
theorem dX12_towns_47 : decode cX12_towns 47 = .ok (.iconst (-1), 1) := by decide +kernel
theorem dX12_towns_48 : decode cX12_towns 48 = .ok (.iastore, 1) := by decide +kernel
theorem dX12_towns_49 : decode cX12_towns 49 = .ok (.iinc 2 1, 3) := by decide +kernel
theorem dX12_towns_52 : decode cX12_towns 52 = .ok (.goto (-15), 3) := by decide +kernel
theorem dX12_towns_55 : decode cX12_towns 55 = .ok (.iconst 0, 1) := by decide +kernel
theorem dX12_towns_56 : decode cX12_towns 56 = .ok (.istore_n 2, 1) := by decide +kernel
theorem dX12_towns_57 : decode cX12_towns 57 = .ok (.iload_n 2, 1) := by decide +kernel
theorem dX12_towns_58 : decode cX12_towns 58 = .ok (.sipush 4096, 3) := by decide +kernel
theorem dX12_towns_61 : decode cX12_towns 61 = .ok (.if_icmp .ge 48, 3) := by decide +kernel
theorem dX12_towns_64 : decode cX12_towns 64 = .ok (.aload_n 0, 1) := by decide +kernel
theorem dX12_towns_65 : decode cX12_towns 65 = .ok (.iload_n 2, 1) := by decide +kernel
theorem dX12_towns_66 : decode cX12_towns 66 = .ok (.invokevirtual 265, 3) := by decide +kernel
theorem dX12_towns_69 : decode cX12_towns 69 = .ok (.ifCond .eq 34, 3) := by decide +kernel
theorem dX12_towns_72 : decode cX12_towns 72 = .ok (.aload_n 0, 1) := by decide +kernel
theorem dX12_towns_73 : decode cX12_towns 73 = .ok (.iload_n 2, 1) := by decide +kernel
theorem dX12_towns_74 : decode cX12_towns 74 = .ok (.invokevirtual 289, 3) := by decide +kernel
theorem dX12_towns_77 : decode cX12_towns 77 = .ok (.istore_n 3, 1) := by decide +kernel
theorem dX12_towns_78 : decode cX12_towns 78 = .ok (.aload_n 0, 1) := by decide +kernel
theorem dX12_towns_79 : decode cX12_towns 79 = .ok (.getfield 286, 3) := by decide +kernel
theorem dX12_towns_82 : decode cX12_towns 82 = .ok (.iload_n 3, 1) := by decide +kernel
theorem dX12_towns_83 : decode cX12_towns 83 = .ok (.aload_n 0, 1) := by decide +kernel
theorem dX12_towns_84 : decode cX12_towns 84 = .ok (.getfield 286, 3) := by decide +kernel
theorem dX12_towns_87 : decode cX12_towns 87 = .ok (.iload_n 3, 1) := by decide +kernel
theorem dX12_towns_88 : decode cX12_towns 88 = .ok (.iaload, 1) := by decide +kernel
theorem dX12_towns_89 : decode cX12_towns 89 = .ok (.ifCond .ge 7, 3) := by decide +kernel
theorem dX12_towns_92 : decode cX12_towns 92 = .ok (.iload_n 2, 1) := by decide +kernel
theorem dX12_towns_93 : decode cX12_towns 93 = .ok (.goto 9, 3) := by decide +kernel
theorem dX12_towns_96 : decode cX12_towns 96 = .ok (.aload_n 0, 1) := by decide +kernel
theorem dX12_towns_97 : decode cX12_towns 97 = .ok (.getfield 286, 3) := by decide +kernel
theorem dX12_towns_100 : decode cX12_towns 100 = .ok (.iload_n 3, 1) := by decide +kernel
theorem dX12_towns_101 : decode cX12_towns 101 = .ok (.iaload, 1) := by decide +kernel
theorem dX12_towns_102 : decode cX12_towns 102 = .ok (.iastore, 1) := by decide +kernel
theorem dX12_towns_103 : decode cX12_towns 103 = .ok (.iinc 2 1, 3) := by decide +kernel
theorem dX12_towns_106 : decode cX12_towns 106 = .ok (.goto (-49), 3) := by decide +kernel
theorem dX12_towns_109 : decode cX12_towns 109 = .ok (.aload_n 0, 1) := by decide +kernel
theorem dX12_towns_110 : decode cX12_towns 110 = .ok (.getfield 292, 3) := by decide +kernel
theorem dX12_towns_113 : decode cX12_towns 113 = .ok (.iconst 0, 1) := by decide +kernel
theorem dX12_towns_114 : decode cX12_towns 114 = .ok (.iconst 0, 1) := by decide +kernel
theorem dX12_towns_115 : decode cX12_towns 115 = .ok (.iastore, 1) := by decide +kernel
theorem dX12_towns_116 : decode cX12_towns 116 = .ok (.iconst 1, 1) := by decide +kernel
theorem dX12_towns_117 : decode cX12_towns 117 = .ok (.istore_n 2, 1) := by decide +kernel
theorem dX12_towns_118 : decode cX12_towns 118 = .ok (.iload_n 2, 1) := by decide +kernel
theorem dX12_towns_119 : decode cX12_towns 119 = .ok (.iload_n 1, 1) := by decide +kernel
theorem dX12_towns_120 : decode cX12_towns 120 = .ok (.if_icmp .gt 72, 3) := by decide +kernel
theorem dX12_towns_123 : decode cX12_towns 123 = .ok (.aload_n 0, 1) := by decide +kernel
theorem dX12_towns_124 : decode cX12_towns 124 = .ok (.getfield 292, 3) := by decide +kernel
theorem dX12_towns_127 : decode cX12_towns 127 = .ok (.iload_n 2, 1) := by decide +kernel
theorem dX12_towns_128 : decode cX12_towns 128 = .ok (.ldc 249, 2) := by decide +kernel
theorem dX12_towns_130 : decode cX12_towns 130 = .ok (.iastore, 1) := by decide +kernel
theorem dX12_towns_131 : decode cX12_towns 131 = .ok (.iconst 1, 1) := by decide +kernel
theorem dX12_towns_132 : decode cX12_towns 132 = .ok (.istore_n 3, 1) := by decide +kernel
theorem dX12_towns_133 : decode cX12_towns 133 = .ok (.iload_n 3, 1) := by decide +kernel
theorem dX12_towns_134 : decode cX12_towns 134 = .ok (.iload_n 1, 1) := by decide +kernel
theorem dX12_towns_135 : decode cX12_towns 135 = .ok (.if_icmp .gt 51, 3) := by decide +kernel
theorem dX12_towns_138 : decode cX12_towns 138 = .ok (.aload_n 0, 1) := by decide +kernel
theorem dX12_towns_139 : decode cX12_towns 139 = .ok (.getfield 286, 3) := by decide +kernel
theorem dX12_towns_142 : decode cX12_towns 142 = .ok (.iload_n 3, 1) := by decide +kernel
theorem dX12_towns_143 : decode cX12_towns 143 = .ok (.iaload, 1) := by decide +kernel
theorem dX12_towns_144 : decode cX12_towns 144 = .ok (.ifCond .lt 36, 3) := by decide +kernel
theorem dX12_towns_147 : decode cX12_towns 147 = .ok (.iload_n 3, 1) := by decide +kernel
theorem dX12_towns_148 : decode cX12_towns 148 = .ok (.iload_n 2, 1) := by decide +kernel
theorem dX12_towns_149 : decode cX12_towns 149 = .ok (.iand, 1) := by decide +kernel
theorem dX12_towns_150 : decode cX12_towns 150 = .ok (.ifCond .eq 30, 3) := by decide +kernel
theorem dX12_towns_153 : decode cX12_towns 153 = .ok (.aload_n 0, 1) := by decide +kernel
theorem dX12_towns_154 : decode cX12_towns 154 = .ok (.getfield 292, 3) := by decide +kernel
theorem dX12_towns_157 : decode cX12_towns 157 = .ok (.iload_n 2, 1) := by decide +kernel
theorem dX12_towns_158 : decode cX12_towns 158 = .ok (.aload_n 0, 1) := by decide +kernel
theorem dX12_towns_159 : decode cX12_towns 159 = .ok (.getfield 292, 3) := by decide +kernel
theorem dX12_towns_162 : decode cX12_towns 162 = .ok (.iload_n 2, 1) := by decide +kernel
theorem dX12_towns_163 : decode cX12_towns 163 = .ok (.iaload, 1) := by decide +kernel
theorem dX12_towns_164 : decode cX12_towns 164 = .ok (.iconst 1, 1) := by decide +kernel
theorem dX12_towns_165 : decode cX12_towns 165 = .ok (.aload_n 0, 1) := by decide +kernel
theorem dX12_towns_166 : decode cX12_towns 166 = .ok (.getfield 292, 3) := by decide +kernel
theorem dX12_towns_169 : decode cX12_towns 169 = .ok (.iload_n 2, 1) := by decide +kernel
theorem dX12_towns_170 : decode cX12_towns 170 = .ok (.iload_n 3, 1) := by decide +kernel
theorem dX12_towns_171 : decode cX12_towns 171 = .ok (.iconst (-1), 1) := by decide +kernel
theorem dX12_towns_172 : decode cX12_towns 172 = .ok (.ixor, 1) := by decide +kernel
theorem dX12_towns_173 : decode cX12_towns 173 = .ok (.iand, 1) := by decide +kernel
theorem dX12_towns_174 : decode cX12_towns 174 = .ok (.iaload, 1) := by decide +kernel
theorem dX12_towns_175 : decode cX12_towns 175 = .ok (.iadd, 1) := by decide +kernel
theorem dX12_towns_176 : decode cX12_towns 176 = .ok (.invokestatic 43, 3) := by decide +kernel
theorem dX12_towns_179 : decode cX12_towns 179 = .ok (.iastore, 1) := by decide +kernel
theorem dX12_towns_180 : decode cX12_towns 180 = .ok (.iinc 3 1, 3) := by decide +kernel
theorem dX12_towns_183 : decode cX12_towns 183 = .ok (.goto (-50), 3) := by decide +kernel
theorem dX12_towns_186 : decode cX12_towns 186 = .ok (.iinc 2 1, 3) := by decide +kernel
theorem dX12_towns_189 : decode cX12_towns 189 = .ok (.goto (-71), 3) := by decide +kernel
theorem dX12_towns_192 : decode cX12_towns 192 = .ok (.aload_n 0, 1) := by decide +kernel
theorem dX12_towns_193 : decode cX12_towns 193 = .ok (.iconst 0, 1) := by decide +kernel
theorem dX12_towns_194 : decode cX12_towns 194 = .ok (.putfield 11, 3) := by decide +kernel
theorem dX12_towns_197 : decode cX12_towns 197 = .ok (.iload_n 1, 1) := by decide +kernel
theorem dX12_towns_198 : decode cX12_towns 198 = .ok (.istore_n 2, 1) := by decide +kernel
theorem dX12_towns_199 : decode cX12_towns 199 = .ok (.iconst (-1), 1) := by decide +kernel
theorem dX12_towns_200 : decode cX12_towns 200 = .ok (.istore_n 3, 1) := by decide +kernel
theorem dX12_towns_201 : decode cX12_towns 201 = .ok (.iload_n 2, 1) := by decide +kernel
theorem dX12_towns_202 : decode cX12_towns 202 = .ok (.ifCond .eq 126, 3) := by decide +kernel
theorem dX12_towns_205 : decode cX12_towns 205 = .ok (.iconst (-1), 1) := by decide +kernel
theorem dX12_towns_206 : decode cX12_towns 206 = .ok (.istore 4, 2) := by decide +kernel
theorem dX12_towns_208 : decode cX12_towns 208 = .ok (.iconst 1, 1) := by decide +kernel
theorem dX12_towns_209 : decode cX12_towns 209 = .ok (.istore 5, 2) := by decide +kernel
theorem dX12_towns_211 : decode cX12_towns 211 = .ok (.iload 5, 2) := by decide +kernel
theorem dX12_towns_213 : decode cX12_towns 213 = .ok (.iload_n 1, 1) := by decide +kernel
theorem dX12_towns_214 : decode cX12_towns 214 = .ok (.if_icmp .gt 85, 3) := by decide +kernel
theorem dX12_towns_217 : decode cX12_towns 217 = .ok (.aload_n 0, 1) := by decide +kernel
theorem dX12_towns_218 : decode cX12_towns 218 = .ok (.getfield 286, 3) := by decide +kernel
theorem dX12_towns_221 : decode cX12_towns 221 = .ok (.iload 5, 2) := by decide +kernel
theorem dX12_towns_223 : decode cX12_towns 223 = .ok (.iaload, 1) := by decide +kernel
theorem dX12_towns_224 : decode cX12_towns 224 = .ok (.iload_n 3, 1) := by decide +kernel
theorem dX12_towns_225 : decode cX12_towns 225 = .ok (.if_icmp .le 29, 3) := by decide +kernel
theorem dX12_towns_228 : decode cX12_towns 228 = .ok (.aload_n 0, 1) := by decide +kernel
theorem dX12_towns_229 : decode cX12_towns 229 = .ok (.getfield 292, 3) := by decide +kernel
theorem dX12_towns_232 : decode cX12_towns 232 = .ok (.iload_n 2, 1) := by decide +kernel
theorem dX12_towns_233 : decode cX12_towns 233 = .ok (.iload 5, 2) := by decide +kernel
theorem dX12_towns_235 : decode cX12_towns 235 = .ok (.iconst (-1), 1) := by decide +kernel
theorem dX12_towns_236 : decode cX12_towns 236 = .ok (.ixor, 1) := by decide +kernel
theorem dX12_towns_237 : decode cX12_towns 237 = .ok (.iand, 1) := by decide +kernel
theorem dX12_towns_238 : decode cX12_towns 238 = .ok (.iaload, 1) := by decide +kernel
theorem dX12_towns_239 : decode cX12_towns 239 = .ok (.aload_n 0, 1) := by decide +kernel
theorem dX12_towns_240 : decode cX12_towns 240 = .ok (.getfield 292, 3) := by decide +kernel
theorem dX12_towns_243 : decode cX12_towns 243 = .ok (.iload_n 2, 1) := by decide +kernel
theorem dX12_towns_244 : decode cX12_towns 244 = .ok (.iaload, 1) := by decide +kernel
theorem dX12_towns_245 : decode cX12_towns 245 = .ok (.iconst 1, 1) := by decide +kernel
theorem dX12_towns_246 : decode cX12_towns 246 = .ok (.isub, 1) := by decide +kernel
theorem dX12_towns_247 : decode cX12_towns 247 = .ok (.if_icmp .ne 7, 3) := by decide +kernel
theorem dX12_towns_250 : decode cX12_towns 250 = .ok (.iconst 1, 1) := by decide +kernel
theorem dX12_towns_251 : decode cX12_towns 251 = .ok (.goto 4, 3) := by decide +kernel
theorem dX12_towns_254 : decode cX12_towns 254 = .ok (.iconst 0, 1) := by decide +kernel
theorem dX12_towns_255 : decode cX12_towns 255 = .ok (.istore 6, 2) := by decide +kernel
theorem dX12_towns_257 : decode cX12_towns 257 = .ok (.iload 6, 2) := by decide +kernel
theorem dX12_towns_259 : decode cX12_towns 259 = .ok (.ifCond .eq 30, 3) := by decide +kernel
theorem dX12_towns_262 : decode cX12_towns 262 = .ok (.iload 4, 2) := by decide +kernel
theorem dX12_towns_264 : decode cX12_towns 264 = .ok (.ifCond .lt 20, 3) := by decide +kernel
theorem dX12_towns_267 : decode cX12_towns 267 = .ok (.aload_n 0, 1) := by decide +kernel
theorem dX12_towns_268 : decode cX12_towns 268 = .ok (.getfield 286, 3) := by decide +kernel
theorem dX12_towns_271 : decode cX12_towns 271 = .ok (.iload 5, 2) := by decide +kernel
theorem dX12_towns_273 : decode cX12_towns 273 = .ok (.iaload, 1) := by decide +kernel
theorem dX12_towns_274 : decode cX12_towns 274 = .ok (.aload_n 0, 1) := by decide +kernel
theorem dX12_towns_275 : decode cX12_towns 275 = .ok (.getfield 286, 3) := by decide +kernel
theorem dX12_towns_278 : decode cX12_towns 278 = .ok (.iload 4, 2) := by decide +kernel
theorem dX12_towns_280 : decode cX12_towns 280 = .ok (.iaload, 1) := by decide +kernel
theorem dX12_towns_281 : decode cX12_towns 281 = .ok (.if_icmp .ge 8, 3) := by decide +kernel
theorem dX12_towns_284 : decode cX12_towns 284 = .ok (.iload 5, 2) := by decide +kernel
theorem dX12_towns_286 : decode cX12_towns 286 = .ok (.goto 5, 3) := by decide +kernel
theorem dX12_towns_289 : decode cX12_towns 289 = .ok (.iload 4, 2) := by decide +kernel
theorem dX12_towns_291 : decode cX12_towns 291 = .ok (.istore 4, 2) := by decide +kernel
theorem dX12_towns_293 : decode cX12_towns 293 = .ok (.iinc 5 1, 3) := by decide +kernel
theorem dX12_towns_296 : decode cX12_towns 296 = .ok (.goto (-85), 3) := by decide +kernel
theorem dX12_towns_299 : decode cX12_towns 299 = .ok (.aload_n 0, 1) := by decide +kernel
theorem dX12_towns_300 : decode cX12_towns 300 = .ok (.aload_n 0, 1) := by decide +kernel
theorem dX12_towns_301 : decode cX12_towns 301 = .ok (.getfield 286, 3) := by decide +kernel
theorem dX12_towns_304 : decode cX12_towns 304 = .ok (.iload 4, 2) := by decide +kernel
theorem dX12_towns_306 : decode cX12_towns 306 = .ok (.iaload, 1) := by decide +kernel
theorem dX12_towns_307 : decode cX12_towns 307 = .ok (.invokevirtual 221, 3) := by decide +kernel
theorem dX12_towns_310 : decode cX12_towns 310 = .ok (.aload_n 0, 1) := by decide +kernel
theorem dX12_towns_311 : decode cX12_towns 311 = .ok (.getfield 286, 3) := by decide +kernel
theorem dX12_towns_314 : decode cX12_towns 314 = .ok (.iload 4, 2) := by decide +kernel
theorem dX12_towns_316 : decode cX12_towns 316 = .ok (.iaload, 1) := by decide +kernel
theorem dX12_towns_317 : decode cX12_towns 317 = .ok (.istore_n 3, 1) := by decide +kernel
theorem dX12_towns_318 : decode cX12_towns 318 = .ok (.iload_n 2, 1) := by decide +kernel
theorem dX12_towns_319 : decode cX12_towns 319 = .ok (.iload 4, 2) := by decide +kernel
theorem dX12_towns_321 : decode cX12_towns 321 = .ok (.iconst (-1), 1) := by decide +kernel
theorem dX12_towns_322 : decode cX12_towns 322 = .ok (.ixor, 1) := by decide +kernel
theorem dX12_towns_323 : decode cX12_towns 323 = .ok (.iand, 1) := by decide +kernel
theorem dX12_towns_324 : decode cX12_towns 324 = .ok (.istore_n 2, 1) := by decide +kernel
theorem dX12_towns_325 : decode cX12_towns 325 = .ok (.goto (-124), 3) := by decide +kernel
theorem dX12_towns_328 : decode cX12_towns 328 = .ok (.aload_n 0, 1) := by decide +kernel
theorem dX12_towns_329 : decode cX12_towns 329 = .ok (.getfield 292, 3) := by decide +kernel
theorem dX12_towns_332 : decode cX12_towns 332 = .ok (.iload_n 1, 1) := by decide +kernel
theorem dX12_towns_333 : decode cX12_towns 333 = .ok (.iaload, 1) := by decide +kernel
theorem dX12_towns_334 : decode cX12_towns 334 = .ok (.ireturn, 1) := by decide +kernel
theorem dX12_town_0 : decode cX12_town 0 = .ok (.aload_n 0, 1) := by decide +kernel
theorem dX12_town_1 : decode cX12_town 1 = .ok (.iconst 0, 1) := by decide +kernel
theorem dX12_town_2 : decode cX12_town 2 = .ok (.putfield 3, 3) := by decide +kernel
theorem dX12_town_5 : decode cX12_town 5 = .ok (.aload_n 0, 1) := by decide +kernel
theorem dX12_town_6 : decode cX12_town 6 = .ok (.aload_n 0, 1) := by decide +kernel
theorem dX12_town_7 : decode cX12_town 7 = .ok (.invokevirtual 206, 3) := by decide +kernel
theorem dX12_town_10 : decode cX12_town 10 = .ok (.invokevirtual 200, 3) := by decide +kernel
theorem dX12_town_13 : decode cX12_town 13 = .ok (.aload_n 0, 1) := by decide +kernel
theorem dX12_town_14 : decode cX12_town 14 = .ok (.invokevirtual 295, 3) := by decide +kernel
theorem dX12_town_17 : decode cX12_town 17 = .ok (.ireturn, 1) := by decide +kernel
theorem dX12_refute_0 : decode cX12_refute 0 = .ok (.aload_n 0, 1) := by decide +kernel
theorem dX12_refute_1 : decode cX12_refute 1 = .ok (.iconst 0, 1) := by decide +kernel
theorem dX12_refute_2 : decode cX12_refute 2 = .ok (.putfield 3, 3) := by decide +kernel
theorem dX12_refute_5 : decode cX12_refute 5 = .ok (.iload_n 1, 1) := by decide +kernel
theorem dX12_refute_6 : decode cX12_refute 6 = .ok (.invokestatic 142, 3) := by decide +kernel
theorem dX12_refute_9 : decode cX12_refute 9 = .ok (.ifCond .ne 5, 3) := by decide +kernel
theorem dX12_refute_12 : decode cX12_refute 12 = .ok (.iconst (-1), 1) := by decide +kernel
theorem dX12_refute_13 : decode cX12_refute 13 = .ok (.ireturn, 1) := by decide +kernel
theorem dX12_refute_14 : decode cX12_refute 14 = .ok (.aload_n 0, 1) := by decide +kernel
theorem dX12_refute_15 : decode cX12_refute 15 = .ok (.aload_n 0, 1) := by decide +kernel
theorem dX12_refute_16 : decode cX12_refute 16 = .ok (.invokevirtual 206, 3) := by decide +kernel
theorem dX12_refute_19 : decode cX12_refute 19 = .ok (.invokevirtual 200, 3) := by decide +kernel
theorem dX12_refute_22 : decode cX12_refute 22 = .ok (.aload_n 0, 1) := by decide +kernel
theorem dX12_refute_23 : decode cX12_refute 23 = .ok (.iload_n 1, 1) := by decide +kernel
theorem dX12_refute_24 : decode cX12_refute 24 = .ok (.invokestatic 190, 3) := by decide +kernel
theorem dX12_refute_27 : decode cX12_refute 27 = .ok (.invokevirtual 193, 3) := by decide +kernel
theorem dX12_refute_30 : decode cX12_refute 30 = .ok (.aload_n 0, 1) := by decide +kernel
theorem dX12_refute_31 : decode cX12_refute 31 = .ok (.invokevirtual 295, 3) := by decide +kernel
theorem dX12_refute_34 : decode cX12_refute 34 = .ok (.ireturn, 1) := by decide +kernel
theorem dX12_isTrue_0 : decode cX12_isTrue 0 = .ok (.iload_n 0, 1) := by decide +kernel
theorem dX12_isTrue_1 : decode cX12_isTrue 1 = .ok (.invokestatic 20, 3) := by decide +kernel
theorem dX12_isTrue_4 : decode cX12_isTrue 4 = .ok (.istore_n 2, 1) := by decide +kernel
theorem dX12_isTrue_5 : decode cX12_isTrue 5 = .ok (.iconst 0, 1) := by decide +kernel
theorem dX12_isTrue_6 : decode cX12_isTrue 6 = .ok (.istore_n 3, 1) := by decide +kernel
theorem dX12_isTrue_7 : decode cX12_isTrue 7 = .ok (.aload_n 1, 1) := by decide +kernel
theorem dX12_isTrue_8 : decode cX12_isTrue 8 = .ok (.astore 4, 2) := by decide +kernel
theorem dX12_isTrue_10 : decode cX12_isTrue 10 = .ok (.aload 4, 2) := by decide +kernel
theorem dX12_isTrue_12 : decode cX12_isTrue 12 = .ok (.arraylength, 1) := by decide +kernel
theorem dX12_isTrue_13 : decode cX12_isTrue 13 = .ok (.istore 5, 2) := by decide +kernel
theorem dX12_isTrue_15 : decode cX12_isTrue 15 = .ok (.iconst 0, 1) := by decide +kernel
theorem dX12_isTrue_16 : decode cX12_isTrue 16 = .ok (.istore 6, 2) := by decide +kernel
theorem dX12_isTrue_18 : decode cX12_isTrue 18 = .ok (.iload 6, 2) := by decide +kernel
theorem dX12_isTrue_20 : decode cX12_isTrue 20 = .ok (.iload 5, 2) := by decide +kernel
theorem dX12_isTrue_22 : decode cX12_isTrue 22 = .ok (.if_icmp .ge 80, 3) := by decide +kernel
theorem dX12_isTrue_25 : decode cX12_isTrue 25 = .ok (.aload 4, 2) := by decide +kernel
theorem dX12_isTrue_27 : decode cX12_isTrue 27 = .ok (.iload 6, 2) := by decide +kernel
theorem dX12_isTrue_29 : decode cX12_isTrue 29 = .ok (.iaload, 1) := by decide +kernel
theorem dX12_isTrue_30 : decode cX12_isTrue 30 = .ok (.istore 7, 2) := by decide +kernel
theorem dX12_isTrue_32 : decode cX12_isTrue 32 = .ok (.iload_n 2, 1) := by decide +kernel
theorem dX12_isTrue_33 : decode cX12_isTrue 33 = .ok (.ifCond .eq 8, 3) := by decide +kernel
theorem dX12_isTrue_36 : decode cX12_isTrue 36 = .ok (.iload_n 2, 1) := by decide +kernel
theorem dX12_isTrue_37 : decode cX12_isTrue 37 = .ok (.iconst 3, 1) := by decide +kernel
theorem dX12_isTrue_38 : decode cX12_isTrue 38 = .ok (.if_icmp .ne 12, 3) := by decide +kernel
theorem dX12_isTrue_41 : decode cX12_isTrue 41 = .ok (.iload_n 0, 1) := by decide +kernel
theorem dX12_isTrue_42 : decode cX12_isTrue 42 = .ok (.invokestatic 27, 3) := by decide +kernel
theorem dX12_isTrue_45 : decode cX12_isTrue 45 = .ok (.iconst 1, 1) := by decide +kernel
theorem dX12_isTrue_46 : decode cX12_isTrue 46 = .ok (.ixor, 1) := by decide +kernel
theorem dX12_isTrue_47 : decode cX12_isTrue 47 = .ok (.goto 7, 3) := by decide +kernel
theorem dX12_isTrue_50 : decode cX12_isTrue 50 = .ok (.iload_n 0, 1) := by decide +kernel
theorem dX12_isTrue_51 : decode cX12_isTrue 51 = .ok (.invokestatic 27, 3) := by decide +kernel
theorem dX12_isTrue_54 : decode cX12_isTrue 54 = .ok (.istore 8, 2) := by decide +kernel
theorem dX12_isTrue_56 : decode cX12_isTrue 56 = .ok (.iload_n 3, 1) := by decide +kernel
theorem dX12_isTrue_57 : decode cX12_isTrue 57 = .ok (.ifCond .ne 33, 3) := by decide +kernel
theorem dX12_isTrue_60 : decode cX12_isTrue 60 = .ok (.iload 7, 2) := by decide +kernel
theorem dX12_isTrue_62 : decode cX12_isTrue 62 = .ok (.sipush 4096, 3) := by decide +kernel
theorem dX12_isTrue_65 : decode cX12_isTrue 65 = .ok (.if_icmp .ge 29, 3) := by decide +kernel
theorem dX12_isTrue_68 : decode cX12_isTrue 68 = .ok (.iload 7, 2) := by decide +kernel
theorem dX12_isTrue_70 : decode cX12_isTrue 70 = .ok (.iload_n 0, 1) := by decide +kernel
theorem dX12_isTrue_71 : decode cX12_isTrue 71 = .ok (.invokestatic 24, 3) := by decide +kernel
theorem dX12_isTrue_74 : decode cX12_isTrue 74 = .ok (.invokestatic 262, 3) := by decide +kernel
theorem dX12_isTrue_77 : decode cX12_isTrue 77 = .ok (.ifCond .eq 17, 3) := by decide +kernel
theorem dX12_isTrue_80 : decode cX12_isTrue 80 = .ok (.iload 7, 2) := by decide +kernel
theorem dX12_isTrue_82 : decode cX12_isTrue 82 = .ok (.iload 8, 2) := by decide +kernel
theorem dX12_isTrue_84 : decode cX12_isTrue 84 = .ok (.invokestatic 262, 3) := by decide +kernel
theorem dX12_isTrue_87 : decode cX12_isTrue 87 = .ok (.ifCond .eq 7, 3) := by decide +kernel
theorem dX12_isTrue_90 : decode cX12_isTrue 90 = .ok (.iconst 1, 1) := by decide +kernel
theorem dX12_isTrue_91 : decode cX12_isTrue 91 = .ok (.goto 4, 3) := by decide +kernel
theorem dX12_isTrue_94 : decode cX12_isTrue 94 = .ok (.iconst 0, 1) := by decide +kernel
theorem dX12_isTrue_95 : decode cX12_isTrue 95 = .ok (.istore_n 3, 1) := by decide +kernel
theorem dX12_isTrue_96 : decode cX12_isTrue 96 = .ok (.iinc 6 1, 3) := by decide +kernel
theorem dX12_isTrue_99 : decode cX12_isTrue 99 = .ok (.goto (-81), 3) := by decide +kernel
theorem dX12_isTrue_102 : decode cX12_isTrue 102 = .ok (.iload_n 2, 1) := by decide +kernel
theorem dX12_isTrue_103 : decode cX12_isTrue 103 = .ok (.iconst 2, 1) := by decide +kernel
theorem dX12_isTrue_104 : decode cX12_isTrue 104 = .ok (.if_icmp .ge 15, 3) := by decide +kernel
theorem dX12_isTrue_107 : decode cX12_isTrue 107 = .ok (.iload_n 3, 1) := by decide +kernel
theorem dX12_isTrue_108 : decode cX12_isTrue 108 = .ok (.ifCond .ne 7, 3) := by decide +kernel
theorem dX12_isTrue_111 : decode cX12_isTrue 111 = .ok (.iconst 1, 1) := by decide +kernel
theorem dX12_isTrue_112 : decode cX12_isTrue 112 = .ok (.goto 8, 3) := by decide +kernel
theorem dX12_isTrue_115 : decode cX12_isTrue 115 = .ok (.iconst 0, 1) := by decide +kernel
theorem dX12_isTrue_116 : decode cX12_isTrue 116 = .ok (.goto 4, 3) := by decide +kernel
theorem dX12_isTrue_119 : decode cX12_isTrue 119 = .ok (.iload_n 3, 1) := by decide +kernel
theorem dX12_isTrue_120 : decode cX12_isTrue 120 = .ok (.ireturn, 1) := by decide +kernel
theorem dX12_judge_0 : decode cX12_judge 0 = .ok (.aload_n 0, 1) := by decide +kernel
theorem dX12_judge_1 : decode cX12_judge 1 = .ok (.iconst 0, 1) := by decide +kernel
theorem dX12_judge_2 : decode cX12_judge 2 = .ok (.putfield 3, 3) := by decide +kernel
theorem dX12_judge_5 : decode cX12_judge 5 = .ok (.iload_n 1, 1) := by decide +kernel
theorem dX12_judge_6 : decode cX12_judge 6 = .ok (.i2l, 1) := by decide +kernel
theorem dX12_judge_7 : decode cX12_judge 7 = .ok (.lconst 0, 1) := by decide +kernel
theorem dX12_judge_8 : decode cX12_judge 8 = .ok (.ldc2_w 298, 3) := by decide +kernel
theorem dX12_judge_11 : decode cX12_judge 11 = .ok (.invokestatic 16, 3) := by decide +kernel
theorem dX12_judge_14 : decode cX12_judge 14 = .ok (.ifCond .eq 27, 3) := by decide +kernel
theorem dX12_judge_17 : decode cX12_judge 17 = .ok (.iload_n 2, 1) := by decide +kernel
theorem dX12_judge_18 : decode cX12_judge 18 = .ok (.i2l, 1) := by decide +kernel
theorem dX12_judge_19 : decode cX12_judge 19 = .ok (.lconst 0, 1) := by decide +kernel
theorem dX12_judge_20 : decode cX12_judge 20 = .ok (.ldc2_w 298, 3) := by decide +kernel
theorem dX12_judge_23 : decode cX12_judge 23 = .ok (.invokestatic 16, 3) := by decide +kernel
theorem dX12_judge_26 : decode cX12_judge 26 = .ok (.ifCond .eq 15, 3) := by decide +kernel
theorem dX12_judge_29 : decode cX12_judge 29 = .ok (.iload_n 3, 1) := by decide +kernel
theorem dX12_judge_30 : decode cX12_judge 30 = .ok (.i2l, 1) := by decide +kernel
theorem dX12_judge_31 : decode cX12_judge 31 = .ok (.lconst 0, 1) := by decide +kernel
theorem dX12_judge_32 : decode cX12_judge 32 = .ok (.ldc2_w 298, 3) := by decide +kernel
theorem dX12_judge_35 : decode cX12_judge 35 = .ok (.invokestatic 16, 3) := by decide +kernel
theorem dX12_judge_38 : decode cX12_judge 38 = .ok (.ifCond .ne 5, 3) := by decide +kernel
theorem dX12_judge_41 : decode cX12_judge 41 = .ok (.iconst (-1), 1) := by decide +kernel
theorem dX12_judge_42 : decode cX12_judge 42 = .ok (.ireturn, 1) := by decide +kernel
theorem dX12_judge_43 : decode cX12_judge 43 = .ok (.aload_n 0, 1) := by decide +kernel
theorem dX12_judge_44 : decode cX12_judge 44 = .ok (.getfield 300, 3) := by decide +kernel
theorem dX12_judge_47 : decode cX12_judge 47 = .ok (.iconst 0, 1) := by decide +kernel
theorem dX12_judge_48 : decode cX12_judge 48 = .ok (.iload_n 1, 1) := by decide +kernel
theorem dX12_judge_49 : decode cX12_judge 49 = .ok (.iastore, 1) := by decide +kernel
theorem dX12_judge_50 : decode cX12_judge 50 = .ok (.aload_n 0, 1) := by decide +kernel
theorem dX12_judge_51 : decode cX12_judge 51 = .ok (.getfield 300, 3) := by decide +kernel
theorem dX12_judge_54 : decode cX12_judge 54 = .ok (.iconst 1, 1) := by decide +kernel
theorem dX12_judge_55 : decode cX12_judge 55 = .ok (.iload_n 2, 1) := by decide +kernel
theorem dX12_judge_56 : decode cX12_judge 56 = .ok (.iastore, 1) := by decide +kernel
theorem dX12_judge_57 : decode cX12_judge 57 = .ok (.aload_n 0, 1) := by decide +kernel
theorem dX12_judge_58 : decode cX12_judge 58 = .ok (.getfield 300, 3) := by decide +kernel
theorem dX12_judge_61 : decode cX12_judge 61 = .ok (.iconst 2, 1) := by decide +kernel
theorem dX12_judge_62 : decode cX12_judge 62 = .ok (.iload_n 3, 1) := by decide +kernel
theorem dX12_judge_63 : decode cX12_judge 63 = .ok (.iastore, 1) := by decide +kernel
theorem dX12_judge_64 : decode cX12_judge 64 = .ok (.iconst 0, 1) := by decide +kernel
theorem dX12_judge_65 : decode cX12_judge 65 = .ok (.istore 4, 2) := by decide +kernel
theorem dX12_judge_67 : decode cX12_judge 67 = .ok (.iconst 0, 1) := by decide +kernel
theorem dX12_judge_68 : decode cX12_judge 68 = .ok (.istore 5, 2) := by decide +kernel
theorem dX12_judge_70 : decode cX12_judge 70 = .ok (.iload 5, 2) := by decide +kernel
theorem dX12_judge_72 : decode cX12_judge 72 = .ok (.aload_n 0, 1) := by decide +kernel
theorem dX12_judge_73 : decode cX12_judge 73 = .ok (.getfield 105, 3) := by decide +kernel
theorem dX12_judge_76 : decode cX12_judge 76 = .ok (.if_icmp .ge 51, 3) := by decide +kernel
theorem dX12_judge_79 : decode cX12_judge 79 = .ok (.iload 4, 2) := by decide +kernel
theorem dX12_judge_81 : decode cX12_judge 81 = .ok (.aload_n 0, 1) := by decide +kernel
theorem dX12_judge_82 : decode cX12_judge 82 = .ok (.getfield 126, 3) := by decide +kernel
theorem dX12_judge_85 : decode cX12_judge 85 = .ok (.iload 5, 2) := by decide +kernel
theorem dX12_judge_87 : decode cX12_judge 87 = .ok (.invokestatic 129, 3) := by decide +kernel
theorem dX12_judge_90 : decode cX12_judge 90 = .ok (.ifCond .ne 27, 3) := by decide +kernel
theorem dX12_judge_93 : decode cX12_judge 93 = .ok (.aload_n 0, 1) := by decide +kernel
theorem dX12_judge_94 : decode cX12_judge 94 = .ok (.getfield 87, 3) := by decide +kernel
theorem dX12_judge_97 : decode cX12_judge 97 = .ok (.iload 5, 2) := by decide +kernel
theorem dX12_judge_99 : decode cX12_judge 99 = .ok (.iaload, 1) := by decide +kernel
theorem dX12_judge_100 : decode cX12_judge 100 = .ok (.aload_n 0, 1) := by decide +kernel
theorem dX12_judge_101 : decode cX12_judge 101 = .ok (.getfield 300, 3) := by decide +kernel
theorem dX12_judge_104 : decode cX12_judge 104 = .ok (.invokestatic 303, 3) := by decide +kernel
theorem dX12_judge_107 : decode cX12_judge 107 = .ok (.ifCond .ne 10, 3) := by decide +kernel
theorem dX12_judge_110 : decode cX12_judge 110 = .ok (.iconst 1, 1) := by decide +kernel
theorem dX12_judge_111 : decode cX12_judge 111 = .ok (.iload 5, 2) := by decide +kernel
theorem dX12_judge_113 : decode cX12_judge 113 = .ok (.ishl, 1) := by decide +kernel
theorem dX12_judge_114 : decode cX12_judge 114 = .ok (.goto 4, 3) := by decide +kernel
theorem dX12_judge_117 : decode cX12_judge 117 = .ok (.iconst 0, 1) := by decide +kernel
theorem dX12_judge_118 : decode cX12_judge 118 = .ok (.ior, 1) := by decide +kernel
theorem dX12_judge_119 : decode cX12_judge 119 = .ok (.istore 4, 2) := by decide +kernel
theorem dX12_judge_121 : decode cX12_judge 121 = .ok (.iinc 5 1, 3) := by decide +kernel
theorem dX12_judge_124 : decode cX12_judge 124 = .ok (.goto (-54), 3) := by decide +kernel
theorem dX12_judge_127 : decode cX12_judge 127 = .ok (.iconst 0, 1) := by decide +kernel
theorem dX12_judge_128 : decode cX12_judge 128 = .ok (.istore 5, 2) := by decide +kernel
theorem dX12_judge_130 : decode cX12_judge 130 = .ok (.iconst 0, 1) := by decide +kernel
theorem dX12_judge_131 : decode cX12_judge 131 = .ok (.istore 6, 2) := by decide +kernel
theorem dX12_judge_133 : decode cX12_judge 133 = .ok (.iload 6, 2) := by decide +kernel
theorem dX12_judge_135 : decode cX12_judge 135 = .ok (.bipush 12, 2) := by decide +kernel
theorem dX12_judge_137 : decode cX12_judge 137 = .ok (.if_icmp .ge 56, 3) := by decide +kernel
theorem dX12_judge_140 : decode cX12_judge 140 = .ok (.iload 5, 2) := by decide +kernel
theorem dX12_judge_142 : decode cX12_judge 142 = .ok (.aload_n 0, 1) := by decide +kernel
theorem dX12_judge_143 : decode cX12_judge 143 = .ok (.getfield 139, 3) := by decide +kernel
theorem dX12_judge_146 : decode cX12_judge 146 = .ok (.iload 6, 2) := by decide +kernel
theorem dX12_judge_148 : decode cX12_judge 148 = .ok (.invokestatic 129, 3) := by decide +kernel
theorem dX12_judge_151 : decode cX12_judge 151 = .ok (.ifCond .eq 32, 3) := by decide +kernel
theorem dX12_judge_154 : decode cX12_judge 154 = .ok (.iconst 2, 1) := by decide +kernel
theorem dX12_judge_155 : decode cX12_judge 155 = .ok (.iconst 2, 1) := by decide +kernel
theorem dX12_judge_156 : decode cX12_judge 156 = .ok (.iload 6, 2) := by decide +kernel
theorem dX12_judge_158 : decode cX12_judge 158 = .ok (.imul, 1) := by decide +kernel
theorem dX12_judge_159 : decode cX12_judge 159 = .ok (.iconst 2, 1) := by decide +kernel
theorem dX12_judge_160 : decode cX12_judge 160 = .ok (.iload 6, 2) := by decide +kernel
theorem dX12_judge_162 : decode cX12_judge 162 = .ok (.imul, 1) := by decide +kernel
theorem dX12_judge_163 : decode cX12_judge 163 = .ok (.invokestatic 30, 3) := by decide +kernel
theorem dX12_judge_166 : decode cX12_judge 166 = .ok (.aload_n 0, 1) := by decide +kernel
theorem dX12_judge_167 : decode cX12_judge 167 = .ok (.getfield 300, 3) := by decide +kernel
theorem dX12_judge_170 : decode cX12_judge 170 = .ok (.invokestatic 303, 3) := by decide +kernel
theorem dX12_judge_173 : decode cX12_judge 173 = .ok (.ifCond .ne 10, 3) := by decide +kernel
theorem dX12_judge_176 : decode cX12_judge 176 = .ok (.iconst 1, 1) := by decide +kernel
theorem dX12_judge_177 : decode cX12_judge 177 = .ok (.iload 6, 2) := by decide +kernel
theorem dX12_judge_179 : decode cX12_judge 179 = .ok (.ishl, 1) := by decide +kernel
theorem dX12_judge_180 : decode cX12_judge 180 = .ok (.goto 4, 3) := by decide +kernel
theorem dX12_judge_183 : decode cX12_judge 183 = .ok (.iconst 0, 1) := by decide +kernel
theorem dX12_judge_184 : decode cX12_judge 184 = .ok (.ior, 1) := by decide +kernel
theorem dX12_judge_185 : decode cX12_judge 185 = .ok (.istore 5, 2) := by decide +kernel
theorem dX12_judge_187 : decode cX12_judge 187 = .ok (.iinc 6 1, 3) := by decide +kernel
theorem dX12_judge_190 : decode cX12_judge 190 = .ok (.goto (-57), 3) := by decide +kernel
theorem dX12_judge_193 : decode cX12_judge 193 = .ok (.aload_n 0, 1) := by decide +kernel
theorem dX12_judge_194 : decode cX12_judge 194 = .ok (.iconst 0, 1) := by decide +kernel
theorem dX12_judge_195 : decode cX12_judge 195 = .ok (.putfield 11, 3) := by decide +kernel
theorem dX12_judge_198 : decode cX12_judge 198 = .ok (.aload_n 0, 1) := by decide +kernel
theorem dX12_judge_199 : decode cX12_judge 199 = .ok (.iload 4, 2) := by decide +kernel
theorem dX12_judge_201 : decode cX12_judge 201 = .ok (.invokevirtual 221, 3) := by decide +kernel
theorem dX12_judge_204 : decode cX12_judge 204 = .ok (.aload_n 0, 1) := by decide +kernel
theorem dX12_judge_205 : decode cX12_judge 205 = .ok (.iload 5, 2) := by decide +kernel
theorem dX12_judge_207 : decode cX12_judge 207 = .ok (.invokevirtual 221, 3) := by decide +kernel
theorem dX12_judge_210 : decode cX12_judge 210 = .ok (.iload 4, 2) := by decide +kernel
theorem dX12_judge_212 : decode cX12_judge 212 = .ok (.ifCond .ne 12, 3) := by decide +kernel
theorem dX12_judge_215 : decode cX12_judge 215 = .ok (.iload 5, 2) := by decide +kernel
theorem dX12_judge_217 : decode cX12_judge 217 = .ok (.ifCond .ne 7, 3) := by decide +kernel
theorem dX12_judge_220 : decode cX12_judge 220 = .ok (.iconst 1, 1) := by decide +kernel
theorem dX12_judge_221 : decode cX12_judge 221 = .ok (.goto 4, 3) := by decide +kernel
theorem dX12_judge_224 : decode cX12_judge 224 = .ok (.iconst 0, 1) := by decide +kernel
theorem dX12_judge_225 : decode cX12_judge 225 = .ok (.invokestatic 52, 3) := by decide +kernel
theorem dX12_judge_228 : decode cX12_judge 228 = .ok (.ireturn, 1) := by decide +kernel
theorem dX12_majorX_0 : decode cX12_majorX 0 = .ok (.iload_n 0, 1) := by decide +kernel
theorem dX12_majorX_1 : decode cX12_majorX 1 = .ok (.iconst 2, 1) := by decide +kernel
theorem dX12_majorX_2 : decode cX12_majorX 2 = .ok (.irem, 1) := by decide +kernel
theorem dX12_majorX_3 : decode cX12_majorX 3 = .ok (.iconst 1, 1) := by decide +kernel
theorem dX12_majorX_4 : decode cX12_majorX 4 = .ok (.if_icmp .ne 7, 3) := by decide +kernel
theorem dX12_majorX_7 : decode cX12_majorX 7 = .ok (.iconst 2, 1) := by decide +kernel
theorem dX12_majorX_8 : decode cX12_majorX 8 = .ok (.goto 4, 3) := by decide +kernel
theorem dX12_majorX_11 : decode cX12_majorX 11 = .ok (.iconst 4, 1) := by decide +kernel
theorem dX12_majorX_12 : decode cX12_majorX 12 = .ok (.ireturn, 1) := by decide +kernel
theorem dX12_majorY_0 : decode cX12_majorY 0 = .ok (.iload_n 0, 1) := by decide +kernel
theorem dX12_majorY_1 : decode cX12_majorY 1 = .ok (.iconst 2, 1) := by decide +kernel
theorem dX12_majorY_2 : decode cX12_majorY 2 = .ok (.irem, 1) := by decide +kernel
theorem dX12_majorY_3 : decode cX12_majorY 3 = .ok (.iconst 1, 1) := by decide +kernel
theorem dX12_majorY_4 : decode cX12_majorY 4 = .ok (.if_icmp .ne 7, 3) := by decide +kernel
theorem dX12_majorY_7 : decode cX12_majorY 7 = .ok (.iconst 4, 1) := by decide +kernel
theorem dX12_majorY_8 : decode cX12_majorY 8 = .ok (.goto 4, 3) := by decide +kernel
theorem dX12_majorY_11 : decode cX12_majorY 11 = .ok (.iconst 2, 1) := by decide +kernel
theorem dX12_majorY_12 : decode cX12_majorY 12 = .ok (.ireturn, 1) := by decide +kernel
theorem dX12_minorX_0 : decode cX12_minorX 0 = .ok (.iload_n 0, 1) := by decide +kernel
theorem dX12_minorX_1 : decode cX12_minorX 1 = .ok (.iconst 3, 1) := by decide +kernel
theorem dX12_minorX_2 : decode cX12_minorX 2 = .ok (.if_icmp .ge 7, 3) := by decide +kernel
theorem dX12_minorX_5 : decode cX12_minorX 5 = .ok (.iconst 0, 1) := by decide +kernel
theorem dX12_minorX_6 : decode cX12_minorX 6 = .ok (.goto 4, 3) := by decide +kernel
theorem dX12_minorX_9 : decode cX12_minorX 9 = .ok (.iconst 2, 1) := by decide +kernel
theorem dX12_minorX_10 : decode cX12_minorX 10 = .ok (.ireturn, 1) := by decide +kernel
theorem dX12_minorY_0 : decode cX12_minorY 0 = .ok (.iload_n 0, 1) := by decide +kernel
theorem dX12_minorY_1 : decode cX12_minorY 1 = .ok (.iconst 3, 1) := by decide +kernel
theorem dX12_minorY_2 : decode cX12_minorY 2 = .ok (.if_icmp .ge 7, 3) := by decide +kernel
theorem dX12_minorY_5 : decode cX12_minorY 5 = .ok (.iconst 2, 1) := by decide +kernel
theorem dX12_minorY_6 : decode cX12_minorY 6 = .ok (.goto 4, 3) := by decide +kernel
theorem dX12_minorY_9 : decode cX12_minorY 9 = .ok (.iconst 0, 1) := by decide +kernel
theorem dX12_minorY_10 : decode cX12_minorY 10 = .ok (.ireturn, 1) := by decide +kernel
theorem dX12_isTrueOf_0 : decode cX12_isTrueOf 0 = .ok (.iconst 0, 1) := by decide +kernel
theorem dX12_isTrueOf_1 : decode cX12_isTrueOf 1 = .ok (.istore 4, 2) := by decide +kernel
theorem dX12_isTrueOf_3 : decode cX12_isTrueOf 3 = .ok (.iconst 0, 1) := by decide +kernel
theorem dX12_isTrueOf_4 : decode cX12_isTrueOf 4 = .ok (.istore 5, 2) := by decide +kernel
theorem dX12_isTrueOf_6 : decode cX12_isTrueOf 6 = .ok (.iload 5, 2) := by decide +kernel
theorem dX12_isTrueOf_8 : decode cX12_isTrueOf 8 = .ok (.bipush 8, 2) := by decide +kernel
theorem dX12_isTrueOf_10 : decode cX12_isTrueOf 10 = .ok (.if_icmp .ge 63, 3) := by decide +kernel
theorem dX12_isTrueOf_13 : decode cX12_isTrueOf 13 = .ok (.iload 4, 2) := by decide +kernel
theorem dX12_isTrueOf_15 : decode cX12_isTrueOf 15 = .ok (.ifCond .ne 45, 3) := by decide +kernel
theorem dX12_isTrueOf_18 : decode cX12_isTrueOf 18 = .ok (.iload_n 0, 1) := by decide +kernel
theorem dX12_isTrueOf_19 : decode cX12_isTrueOf 19 = .ok (.iload 5, 2) := by decide +kernel
theorem dX12_isTrueOf_21 : decode cX12_isTrueOf 21 = .ok (.invokestatic 129, 3) := by decide +kernel
theorem dX12_isTrueOf_24 : decode cX12_isTrueOf 24 = .ok (.ifCond .eq 40, 3) := by decide +kernel
theorem dX12_isTrueOf_27 : decode cX12_isTrueOf 27 = .ok (.iload 5, 2) := by decide +kernel
theorem dX12_isTrueOf_29 : decode cX12_isTrueOf 29 = .ok (.iload_n 2, 1) := by decide +kernel
theorem dX12_isTrueOf_30 : decode cX12_isTrueOf 30 = .ok (.invokestatic 262, 3) := by decide +kernel
theorem dX12_isTrueOf_33 : decode cX12_isTrueOf 33 = .ok (.ifCond .eq 31, 3) := by decide +kernel
theorem dX12_isTrueOf_36 : decode cX12_isTrueOf 36 = .ok (.iload 5, 2) := by decide +kernel
theorem dX12_isTrueOf_38 : decode cX12_isTrueOf 38 = .ok (.iload_n 1, 1) := by decide +kernel
theorem dX12_isTrueOf_39 : decode cX12_isTrueOf 39 = .ok (.ifCond .eq 8, 3) := by decide +kernel
theorem dX12_isTrueOf_42 : decode cX12_isTrueOf 42 = .ok (.iload_n 1, 1) := by decide +kernel
theorem dX12_isTrueOf_43 : decode cX12_isTrueOf 43 = .ok (.iconst 3, 1) := by decide +kernel
theorem dX12_isTrueOf_44 : decode cX12_isTrueOf 44 = .ok (.if_icmp .ne 9, 3) := by decide +kernel
theorem dX12_isTrueOf_47 : decode cX12_isTrueOf 47 = .ok (.iload_n 3, 1) := by decide +kernel
theorem dX12_isTrueOf_48 : decode cX12_isTrueOf 48 = .ok (.iconst 1, 1) := by decide +kernel
theorem dX12_isTrueOf_49 : decode cX12_isTrueOf 49 = .ok (.ixor, 1) := by decide +kernel
theorem dX12_isTrueOf_50 : decode cX12_isTrueOf 50 = .ok (.goto 4, 3) := by decide +kernel
theorem dX12_isTrueOf_53 : decode cX12_isTrueOf 53 = .ok (.iload_n 3, 1) := by decide +kernel
theorem dX12_isTrueOf_54 : decode cX12_isTrueOf 54 = .ok (.invokestatic 262, 3) := by decide +kernel
theorem dX12_isTrueOf_57 : decode cX12_isTrueOf 57 = .ok (.ifCond .eq 7, 3) := by decide +kernel
theorem dX12_isTrueOf_60 : decode cX12_isTrueOf 60 = .ok (.iconst 1, 1) := by decide +kernel
theorem dX12_isTrueOf_61 : decode cX12_isTrueOf 61 = .ok (.goto 4, 3) := by decide +kernel
theorem dX12_isTrueOf_64 : decode cX12_isTrueOf 64 = .ok (.iconst 0, 1) := by decide +kernel
theorem dX12_isTrueOf_65 : decode cX12_isTrueOf 65 = .ok (.istore 4, 2) := by decide +kernel
theorem dX12_isTrueOf_67 : decode cX12_isTrueOf 67 = .ok (.iinc 5 1, 3) := by decide +kernel
theorem dX12_isTrueOf_70 : decode cX12_isTrueOf 70 = .ok (.goto (-64), 3) := by decide +kernel
theorem dX12_isTrueOf_73 : decode cX12_isTrueOf 73 = .ok (.iload_n 1, 1) := by decide +kernel
theorem dX12_isTrueOf_74 : decode cX12_isTrueOf 74 = .ok (.iconst 2, 1) := by decide +kernel
theorem dX12_isTrueOf_75 : decode cX12_isTrueOf 75 = .ok (.if_icmp .ge 16, 3) := by decide +kernel
theorem dX12_isTrueOf_78 : decode cX12_isTrueOf 78 = .ok (.iload 4, 2) := by decide +kernel
theorem dX12_isTrueOf_80 : decode cX12_isTrueOf 80 = .ok (.ifCond .ne 7, 3) := by decide +kernel
theorem dX12_isTrueOf_83 : decode cX12_isTrueOf 83 = .ok (.iconst 1, 1) := by decide +kernel
theorem dX12_isTrueOf_84 : decode cX12_isTrueOf 84 = .ok (.goto 9, 3) := by decide +kernel
theorem dX12_isTrueOf_87 : decode cX12_isTrueOf 87 = .ok (.iconst 0, 1) := by decide +kernel
theorem dX12_isTrueOf_88 : decode cX12_isTrueOf 88 = .ok (.goto 5, 3) := by decide +kernel
theorem dX12_isTrueOf_91 : decode cX12_isTrueOf 91 = .ok (.iload 4, 2) := by decide +kernel
theorem dX12_isTrueOf_93 : decode cX12_isTrueOf 93 = .ok (.ireturn, 1) := by decide +kernel
theorem dX12_holdsIf_0 : decode cX12_holdsIf 0 = .ok (.iconst 0, 1) := by decide +kernel
theorem dX12_holdsIf_1 : decode cX12_holdsIf 1 = .ok (.istore 5, 2) := by decide +kernel
theorem dX12_holdsIf_3 : decode cX12_holdsIf 3 = .ok (.iload 5, 2) := by decide +kernel
theorem dX12_holdsIf_5 : decode cX12_holdsIf 5 = .ok (.sipush 256, 3) := by decide +kernel
theorem dX12_holdsIf_8 : decode cX12_holdsIf 8 = .ok (.if_icmp .ge 130, 3) := by decide +kernel
theorem dX12_holdsIf_11 : decode cX12_holdsIf 11 = .ok (.iconst 1, 1) := by decide +kernel
theorem dX12_holdsIf_12 : decode cX12_holdsIf 12 = .ok (.istore 6, 2) := by decide +kernel
theorem dX12_holdsIf_14 : decode cX12_holdsIf 14 = .ok (.iconst 0, 1) := by decide +kernel
theorem dX12_holdsIf_15 : decode cX12_holdsIf 15 = .ok (.istore 7, 2) := by decide +kernel
theorem dX12_holdsIf_17 : decode cX12_holdsIf 17 = .ok (.iload 7, 2) := by decide +kernel
theorem dX12_holdsIf_19 : decode cX12_holdsIf 19 = .ok (.iconst 3, 1) := by decide +kernel
theorem dX12_holdsIf_20 : decode cX12_holdsIf 20 = .ok (.if_icmp .ge 48, 3) := by decide +kernel
theorem dX12_holdsIf_23 : decode cX12_holdsIf 23 = .ok (.iload 6, 2) := by decide +kernel
theorem dX12_holdsIf_25 : decode cX12_holdsIf 25 = .ok (.ifCond .eq 34, 3) := by decide +kernel
theorem dX12_holdsIf_28 : decode cX12_holdsIf 28 = .ok (.iload 4, 2) := by decide +kernel
theorem dX12_holdsIf_30 : decode cX12_holdsIf 30 = .ok (.iload 7, 2) := by decide +kernel
theorem dX12_holdsIf_32 : decode cX12_holdsIf 32 = .ok (.invokestatic 129, 3) := by decide +kernel
theorem dX12_holdsIf_35 : decode cX12_holdsIf 35 = .ok (.ifCond .eq 20, 3) := by decide +kernel
theorem dX12_holdsIf_38 : decode cX12_holdsIf 38 = .ok (.iload 5, 2) := by decide +kernel
theorem dX12_holdsIf_40 : decode cX12_holdsIf 40 = .ok (.iconst 2, 1) := by decide +kernel
theorem dX12_holdsIf_41 : decode cX12_holdsIf 41 = .ok (.iconst 2, 1) := by decide +kernel
theorem dX12_holdsIf_42 : decode cX12_holdsIf 42 = .ok (.iload 7, 2) := by decide +kernel
theorem dX12_holdsIf_44 : decode cX12_holdsIf 44 = .ok (.imul, 1) := by decide +kernel
theorem dX12_holdsIf_45 : decode cX12_holdsIf 45 = .ok (.iconst 2, 1) := by decide +kernel
theorem dX12_holdsIf_46 : decode cX12_holdsIf 46 = .ok (.iload 7, 2) := by decide +kernel
theorem dX12_holdsIf_48 : decode cX12_holdsIf 48 = .ok (.imul, 1) := by decide +kernel
theorem dX12_holdsIf_49 : decode cX12_holdsIf 49 = .ok (.invokestatic 307, 3) := by decide +kernel
theorem dX12_holdsIf_52 : decode cX12_holdsIf 52 = .ok (.ifCond .eq 7, 3) := by decide +kernel
theorem dX12_holdsIf_55 : decode cX12_holdsIf 55 = .ok (.iconst 1, 1) := by decide +kernel
theorem dX12_holdsIf_56 : decode cX12_holdsIf 56 = .ok (.goto 4, 3) := by decide +kernel
theorem dX12_holdsIf_59 : decode cX12_holdsIf 59 = .ok (.iconst 0, 1) := by decide +kernel
theorem dX12_holdsIf_60 : decode cX12_holdsIf 60 = .ok (.istore 6, 2) := by decide +kernel
theorem dX12_holdsIf_62 : decode cX12_holdsIf 62 = .ok (.iinc 7 1, 3) := by decide +kernel
theorem dX12_holdsIf_65 : decode cX12_holdsIf 65 = .ok (.goto (-48), 3) := by decide +kernel
theorem dX12_holdsIf_68 : decode cX12_holdsIf 68 = .ok (.iload 6, 2) := by decide +kernel
theorem dX12_holdsIf_70 : decode cX12_holdsIf 70 = .ok (.ifCond .eq 41, 3) := by decide +kernel
theorem dX12_holdsIf_73 : decode cX12_holdsIf 73 = .ok (.iload 5, 2) := by decide +kernel
theorem dX12_holdsIf_75 : decode cX12_holdsIf 75 = .ok (.iload_n 0, 1) := by decide +kernel
theorem dX12_holdsIf_76 : decode cX12_holdsIf 76 = .ok (.iload_n 3, 1) := by decide +kernel
theorem dX12_holdsIf_77 : decode cX12_holdsIf 77 = .ok (.invokestatic 311, 3) := by decide +kernel
theorem dX12_holdsIf_80 : decode cX12_holdsIf 80 = .ok (.iload_n 3, 1) := by decide +kernel
theorem dX12_holdsIf_81 : decode cX12_holdsIf 81 = .ok (.invokestatic 314, 3) := by decide +kernel
theorem dX12_holdsIf_84 : decode cX12_holdsIf 84 = .ok (.invokestatic 307, 3) := by decide +kernel
theorem dX12_holdsIf_87 : decode cX12_holdsIf 87 = .ok (.ifCond .eq 24, 3) := by decide +kernel
theorem dX12_holdsIf_90 : decode cX12_holdsIf 90 = .ok (.iload 5, 2) := by decide +kernel
theorem dX12_holdsIf_92 : decode cX12_holdsIf 92 = .ok (.iload_n 1, 1) := by decide +kernel
theorem dX12_holdsIf_93 : decode cX12_holdsIf 93 = .ok (.iload_n 3, 1) := by decide +kernel
theorem dX12_holdsIf_94 : decode cX12_holdsIf 94 = .ok (.invokestatic 317, 3) := by decide +kernel
theorem dX12_holdsIf_97 : decode cX12_holdsIf 97 = .ok (.iload_n 3, 1) := by decide +kernel
theorem dX12_holdsIf_98 : decode cX12_holdsIf 98 = .ok (.invokestatic 320, 3) := by decide +kernel
theorem dX12_holdsIf_101 : decode cX12_holdsIf 101 = .ok (.invokestatic 307, 3) := by decide +kernel
theorem dX12_holdsIf_104 : decode cX12_holdsIf 104 = .ok (.ifCond .eq 7, 3) := by decide +kernel
theorem dX12_holdsIf_107 : decode cX12_holdsIf 107 = .ok (.iconst 1, 1) := by decide +kernel
theorem dX12_holdsIf_108 : decode cX12_holdsIf 108 = .ok (.goto 4, 3) := by decide +kernel
theorem dX12_holdsIf_111 : decode cX12_holdsIf 111 = .ok (.iconst 0, 1) := by decide +kernel
theorem dX12_holdsIf_112 : decode cX12_holdsIf 112 = .ok (.istore 6, 2) := by decide +kernel
theorem dX12_holdsIf_114 : decode cX12_holdsIf 114 = .ok (.iload 6, 2) := by decide +kernel
theorem dX12_holdsIf_116 : decode cX12_holdsIf 116 = .ok (.ifCond .eq 16, 3) := by decide +kernel
theorem dX12_holdsIf_119 : decode cX12_holdsIf 119 = .ok (.iload 5, 2) := by decide +kernel
theorem dX12_holdsIf_121 : decode cX12_holdsIf 121 = .ok (.iload_n 2, 1) := by decide +kernel
theorem dX12_holdsIf_122 : decode cX12_holdsIf 122 = .ok (.iconst 0, 1) := by decide +kernel
theorem dX12_holdsIf_123 : decode cX12_holdsIf 123 = .ok (.iconst 4, 1) := by decide +kernel
theorem dX12_holdsIf_124 : decode cX12_holdsIf 124 = .ok (.invokestatic 307, 3) := by decide +kernel
theorem dX12_holdsIf_127 : decode cX12_holdsIf 127 = .ok (.ifCond .ne 5, 3) := by decide +kernel
theorem dX12_holdsIf_130 : decode cX12_holdsIf 130 = .ok (.iconst 0, 1) := by decide +kernel
theorem dX12_holdsIf_131 : decode cX12_holdsIf 131 = .ok (.ireturn, 1) := by decide +kernel
theorem dX12_holdsIf_132 : decode cX12_holdsIf 132 = .ok (.iinc 5 1, 3) := by decide +kernel
theorem dX12_holdsIf_135 : decode cX12_holdsIf 135 = .ok (.goto (-132), 3) := by decide +kernel
theorem dX12_holdsIf_138 : decode cX12_holdsIf 138 = .ok (.iconst 1, 1) := by decide +kernel
theorem dX12_holdsIf_139 : decode cX12_holdsIf 139 = .ok (.ireturn, 1) := by decide +kernel
theorem dX12_isToldOfAll_0 : decode cX12_isToldOfAll 0 = .ok (.iload_n 0, 1) := by decide +kernel
theorem dX12_isToldOfAll_1 : decode cX12_isToldOfAll 1 = .ok (.iload_n 2, 1) := by decide +kernel
theorem dX12_isToldOfAll_2 : decode cX12_isToldOfAll 2 = .ok (.if_icmp .ne 8, 3) := by decide +kernel
theorem dX12_isToldOfAll_5 : decode cX12_isToldOfAll 5 = .ok (.iload_n 1, 1) := by decide +kernel
theorem dX12_isToldOfAll_6 : decode cX12_isToldOfAll 6 = .ok (.iconst 2, 1) := by decide +kernel
theorem dX12_isToldOfAll_7 : decode cX12_isToldOfAll 7 = .ok (.if_icmp .lt 15, 3) := by decide +kernel
theorem dX12_isToldOfAll_10 : decode cX12_isToldOfAll 10 = .ok (.iload_n 0, 1) := by decide +kernel
theorem dX12_isToldOfAll_11 : decode cX12_isToldOfAll 11 = .ok (.iload_n 3, 1) := by decide +kernel
theorem dX12_isToldOfAll_12 : decode cX12_isToldOfAll 12 = .ok (.if_icmp .ne 14, 3) := by decide +kernel
theorem dX12_isToldOfAll_15 : decode cX12_isToldOfAll 15 = .ok (.iload_n 1, 1) := by decide +kernel
theorem dX12_isToldOfAll_16 : decode cX12_isToldOfAll 16 = .ok (.iconst 2, 1) := by decide +kernel
theorem dX12_isToldOfAll_17 : decode cX12_isToldOfAll 17 = .ok (.irem, 1) := by decide +kernel
theorem dX12_isToldOfAll_18 : decode cX12_isToldOfAll 18 = .ok (.iconst 1, 1) := by decide +kernel
theorem dX12_isToldOfAll_19 : decode cX12_isToldOfAll 19 = .ok (.if_icmp .ne 7, 3) := by decide +kernel
theorem dX12_isToldOfAll_22 : decode cX12_isToldOfAll 22 = .ok (.iconst 1, 1) := by decide +kernel
theorem dX12_isToldOfAll_23 : decode cX12_isToldOfAll 23 = .ok (.goto 4, 3) := by decide +kernel
theorem dX12_isToldOfAll_26 : decode cX12_isToldOfAll 26 = .ok (.iconst 0, 1) := by decide +kernel
theorem dX12_isToldOfAll_27 : decode cX12_isToldOfAll 27 = .ok (.ireturn, 1) := by decide +kernel
theorem dX12_denies_0 : decode cX12_denies 0 = .ok (.iload_n 0, 1) := by decide +kernel
theorem dX12_denies_1 : decode cX12_denies 1 = .ok (.iconst 2, 1) := by decide +kernel
theorem dX12_denies_2 : decode cX12_denies 2 = .ok (.irem, 1) := by decide +kernel
theorem dX12_denies_3 : decode cX12_denies 3 = .ok (.iconst 1, 1) := by decide +kernel
theorem dX12_denies_4 : decode cX12_denies 4 = .ok (.if_icmp .ne 7, 3) := by decide +kernel
theorem dX12_denies_7 : decode cX12_denies 7 = .ok (.iconst 1, 1) := by decide +kernel
theorem dX12_denies_8 : decode cX12_denies 8 = .ok (.goto 4, 3) := by decide +kernel
theorem dX12_denies_11 : decode cX12_denies 11 = .ok (.iconst 0, 1) := by decide +kernel
theorem dX12_denies_12 : decode cX12_denies 12 = .ok (.ireturn, 1) := by decide +kernel
theorem dX12_broken_0 : decode cX12_broken 0 = .ok (.iload_n 3, 1) := by decide +kernel
theorem dX12_broken_1 : decode cX12_broken 1 = .ok (.invokestatic 311, 3) := by decide +kernel
theorem dX12_broken_4 : decode cX12_broken 4 = .ok (.istore 4, 2) := by decide +kernel
theorem dX12_broken_6 : decode cX12_broken 6 = .ok (.iload_n 3, 1) := by decide +kernel
theorem dX12_broken_7 : decode cX12_broken 7 = .ok (.invokestatic 314, 3) := by decide +kernel
theorem dX12_broken_10 : decode cX12_broken 10 = .ok (.istore 5, 2) := by decide +kernel
theorem dX12_broken_12 : decode cX12_broken 12 = .ok (.iload_n 3, 1) := by decide +kernel
theorem dX12_broken_13 : decode cX12_broken 13 = .ok (.invokestatic 317, 3) := by decide +kernel
theorem dX12_broken_16 : decode cX12_broken 16 = .ok (.istore 6, 2) := by decide +kernel
theorem dX12_broken_18 : decode cX12_broken 18 = .ok (.iload_n 3, 1) := by decide +kernel
theorem dX12_broken_19 : decode cX12_broken 19 = .ok (.invokestatic 320, 3) := by decide +kernel
theorem dX12_broken_22 : decode cX12_broken 22 = .ok (.istore 7, 2) := by decide +kernel
theorem dX12_broken_24 : decode cX12_broken 24 = .ok (.iconst 2, 1) := by decide +kernel
theorem dX12_broken_25 : decode cX12_broken 25 = .ok (.iload_n 0, 1) := by decide +kernel
theorem dX12_broken_26 : decode cX12_broken 26 = .ok (.iload 4, 2) := by decide +kernel
theorem dX12_broken_28 : decode cX12_broken 28 = .ok (.iload 5, 2) := by decide +kernel
theorem dX12_broken_30 : decode cX12_broken 30 = .ok (.invokestatic 323, 3) := by decide +kernel
theorem dX12_broken_33 : decode cX12_broken 33 = .ok (.ifCond .ne 17, 3) := by decide +kernel
theorem dX12_broken_36 : decode cX12_broken 36 = .ok (.iconst 2, 1) := by decide +kernel
theorem dX12_broken_37 : decode cX12_broken 37 = .ok (.iload_n 1, 1) := by decide +kernel
theorem dX12_broken_38 : decode cX12_broken 38 = .ok (.iload 6, 2) := by decide +kernel
theorem dX12_broken_40 : decode cX12_broken 40 = .ok (.iload 7, 2) := by decide +kernel
theorem dX12_broken_42 : decode cX12_broken 42 = .ok (.invokestatic 323, 3) := by decide +kernel
theorem dX12_broken_45 : decode cX12_broken 45 = .ok (.ifCond .ne 5, 3) := by decide +kernel
theorem dX12_broken_48 : decode cX12_broken 48 = .ok (.iconst 1, 1) := by decide +kernel
theorem dX12_broken_49 : decode cX12_broken 49 = .ok (.ireturn, 1) := by decide +kernel
theorem dX12_broken_50 : decode cX12_broken 50 = .ok (.iconst 4, 1) := by decide +kernel
theorem dX12_broken_51 : decode cX12_broken 51 = .ok (.iload_n 2, 1) := by decide +kernel
theorem dX12_broken_52 : decode cX12_broken 52 = .ok (.iconst 0, 1) := by decide +kernel
theorem dX12_broken_53 : decode cX12_broken 53 = .ok (.iconst 4, 1) := by decide +kernel
theorem dX12_broken_54 : decode cX12_broken 54 = .ok (.invokestatic 323, 3) := by decide +kernel
theorem dX12_broken_57 : decode cX12_broken 57 = .ok (.ifCond .eq 17, 3) := by decide +kernel
theorem dX12_broken_60 : decode cX12_broken 60 = .ok (.iconst 4, 1) := by decide +kernel
theorem dX12_broken_61 : decode cX12_broken 61 = .ok (.iload_n 0, 1) := by decide +kernel
theorem dX12_broken_62 : decode cX12_broken 62 = .ok (.iload 4, 2) := by decide +kernel
theorem dX12_broken_64 : decode cX12_broken 64 = .ok (.iload 5, 2) := by decide +kernel
theorem dX12_broken_66 : decode cX12_broken 66 = .ok (.invokestatic 323, 3) := by decide +kernel
theorem dX12_broken_69 : decode cX12_broken 69 = .ok (.ifCond .ne 5, 3) := by decide +kernel
theorem dX12_broken_72 : decode cX12_broken 72 = .ok (.iconst 2, 1) := by decide +kernel
theorem dX12_broken_73 : decode cX12_broken 73 = .ok (.ireturn, 1) := by decide +kernel
theorem dX12_broken_74 : decode cX12_broken 74 = .ok (.iconst 0, 1) := by decide +kernel
theorem dX12_broken_75 : decode cX12_broken 75 = .ok (.iload_n 2, 1) := by decide +kernel
theorem dX12_broken_76 : decode cX12_broken 76 = .ok (.iconst 0, 1) := by decide +kernel
theorem dX12_broken_77 : decode cX12_broken 77 = .ok (.iconst 4, 1) := by decide +kernel
theorem dX12_broken_78 : decode cX12_broken 78 = .ok (.invokestatic 323, 3) := by decide +kernel
theorem dX12_broken_81 : decode cX12_broken 81 = .ok (.ifCond .eq 17, 3) := by decide +kernel
theorem dX12_broken_84 : decode cX12_broken 84 = .ok (.iconst 0, 1) := by decide +kernel
theorem dX12_broken_85 : decode cX12_broken 85 = .ok (.iload_n 1, 1) := by decide +kernel
theorem dX12_broken_86 : decode cX12_broken 86 = .ok (.iload 6, 2) := by decide +kernel
theorem dX12_broken_88 : decode cX12_broken 88 = .ok (.iload 7, 2) := by decide +kernel
theorem dX12_broken_90 : decode cX12_broken 90 = .ok (.invokestatic 323, 3) := by decide +kernel
theorem dX12_broken_93 : decode cX12_broken 93 = .ok (.ifCond .ne 5, 3) := by decide +kernel
theorem dX12_broken_96 : decode cX12_broken 96 = .ok (.iconst 3, 1) := by decide +kernel
theorem dX12_broken_97 : decode cX12_broken 97 = .ok (.ireturn, 1) := by decide +kernel
theorem dX12_broken_98 : decode cX12_broken 98 = .ok (.iload_n 0, 1) := by decide +kernel
theorem dX12_broken_99 : decode cX12_broken 99 = .ok (.invokestatic 326, 3) := by decide +kernel
theorem dX12_broken_102 : decode cX12_broken 102 = .ok (.ifCond .eq 12, 3) := by decide +kernel
theorem dX12_broken_105 : decode cX12_broken 105 = .ok (.iload_n 1, 1) := by decide +kernel
theorem dX12_broken_106 : decode cX12_broken 106 = .ok (.invokestatic 326, 3) := by decide +kernel
theorem dX12_broken_109 : decode cX12_broken 109 = .ok (.ifCond .eq 5, 3) := by decide +kernel
theorem dX12_broken_112 : decode cX12_broken 112 = .ok (.iconst 4, 1) := by decide +kernel
theorem dX12_broken_113 : decode cX12_broken 113 = .ok (.ireturn, 1) := by decide +kernel
theorem dX12_broken_114 : decode cX12_broken 114 = .ok (.iload_n 0, 1) := by decide +kernel
theorem dX12_broken_115 : decode cX12_broken 115 = .ok (.invokestatic 326, 3) := by decide +kernel
theorem dX12_broken_118 : decode cX12_broken 118 = .ok (.ifCond .ne 10, 3) := by decide +kernel
theorem dX12_broken_121 : decode cX12_broken 121 = .ok (.iload_n 1, 1) := by decide +kernel
theorem dX12_broken_122 : decode cX12_broken 122 = .ok (.invokestatic 326, 3) := by decide +kernel
theorem dX12_broken_125 : decode cX12_broken 125 = .ok (.ifCond .eq 7, 3) := by decide +kernel
theorem dX12_broken_128 : decode cX12_broken 128 = .ok (.iconst 1, 1) := by decide +kernel
theorem dX12_broken_129 : decode cX12_broken 129 = .ok (.goto 4, 3) := by decide +kernel
theorem dX12_broken_132 : decode cX12_broken 132 = .ok (.iconst 0, 1) := by decide +kernel
theorem dX12_broken_133 : decode cX12_broken 133 = .ok (.iload_n 2, 1) := by decide +kernel
theorem dX12_broken_134 : decode cX12_broken 134 = .ok (.invokestatic 326, 3) := by decide +kernel
theorem dX12_broken_137 : decode cX12_broken 137 = .ok (.if_icmp .eq 7, 3) := by decide +kernel
theorem dX12_broken_140 : decode cX12_broken 140 = .ok (.iconst 5, 1) := by decide +kernel
theorem dX12_broken_141 : decode cX12_broken 141 = .ok (.goto 5, 3) := by decide +kernel
theorem dX12_broken_144 : decode cX12_broken 144 = .ok (.bipush 6, 2) := by decide +kernel
theorem dX12_broken_146 : decode cX12_broken 146 = .ok (.ireturn, 1) := by decide +kernel
theorem dX12_mood_0 : decode cX12_mood 0 = .ok (.aload_n 0, 1) := by decide +kernel
theorem dX12_mood_1 : decode cX12_mood 1 = .ok (.iconst 0, 1) := by decide +kernel
theorem dX12_mood_2 : decode cX12_mood 2 = .ok (.putfield 3, 3) := by decide +kernel
theorem dX12_mood_5 : decode cX12_mood 5 = .ok (.iload_n 1, 1) := by decide +kernel
theorem dX12_mood_6 : decode cX12_mood 6 = .ok (.i2l, 1) := by decide +kernel
theorem dX12_mood_7 : decode cX12_mood 7 = .ok (.lconst 0, 1) := by decide +kernel
theorem dX12_mood_8 : decode cX12_mood 8 = .ok (.ldc2_w 121, 3) := by decide +kernel
theorem dX12_mood_11 : decode cX12_mood 11 = .ok (.invokestatic 16, 3) := by decide +kernel
theorem dX12_mood_14 : decode cX12_mood 14 = .ok (.ifCond .eq 40, 3) := by decide +kernel
theorem dX12_mood_17 : decode cX12_mood 17 = .ok (.iload_n 2, 1) := by decide +kernel
theorem dX12_mood_18 : decode cX12_mood 18 = .ok (.i2l, 1) := by decide +kernel
theorem dX12_mood_19 : decode cX12_mood 19 = .ok (.lconst 0, 1) := by decide +kernel
theorem dX12_mood_20 : decode cX12_mood 20 = .ok (.ldc2_w 121, 3) := by decide +kernel
theorem dX12_mood_23 : decode cX12_mood 23 = .ok (.invokestatic 16, 3) := by decide +kernel
theorem dX12_mood_26 : decode cX12_mood 26 = .ok (.ifCond .eq 28, 3) := by decide +kernel
theorem dX12_mood_29 : decode cX12_mood 29 = .ok (.iload_n 3, 1) := by decide +kernel
theorem dX12_mood_30 : decode cX12_mood 30 = .ok (.i2l, 1) := by decide +kernel
theorem dX12_mood_31 : decode cX12_mood 31 = .ok (.lconst 0, 1) := by decide +kernel
theorem dX12_mood_32 : decode cX12_mood 32 = .ok (.ldc2_w 121, 3) := by decide +kernel
theorem dX12_mood_35 : decode cX12_mood 35 = .ok (.invokestatic 16, 3) := by decide +kernel
theorem dX12_mood_38 : decode cX12_mood 38 = .ok (.ifCond .eq 16, 3) := by decide +kernel
theorem dX12_mood_41 : decode cX12_mood 41 = .ok (.iload 4, 2) := by decide +kernel
theorem dX12_mood_43 : decode cX12_mood 43 = .ok (.i2l, 1) := by decide +kernel
theorem dX12_mood_44 : decode cX12_mood 44 = .ok (.lconst 1, 1) := by decide +kernel
theorem dX12_mood_45 : decode cX12_mood 45 = .ok (.ldc2_w 329, 3) := by decide +kernel
theorem dX12_mood_48 : decode cX12_mood 48 = .ok (.invokestatic 16, 3) := by decide +kernel
theorem dX12_mood_51 : decode cX12_mood 51 = .ok (.ifCond .ne 5, 3) := by decide +kernel
theorem dX12_mood_54 : decode cX12_mood 54 = .ok (.iconst (-1), 1) := by decide +kernel
theorem dX12_mood_55 : decode cX12_mood 55 = .ok (.ireturn, 1) := by decide +kernel
theorem dX12_mood_56 : decode cX12_mood 56 = .ok (.aload_n 0, 1) := by decide +kernel
theorem dX12_mood_57 : decode cX12_mood 57 = .ok (.iconst 0, 1) := by decide +kernel
theorem dX12_mood_58 : decode cX12_mood 58 = .ok (.putfield 11, 3) := by decide +kernel
theorem dX12_mood_61 : decode cX12_mood 61 = .ok (.iload_n 1, 1) := by decide +kernel
theorem dX12_mood_62 : decode cX12_mood 62 = .ok (.iload_n 2, 1) := by decide +kernel
theorem dX12_mood_63 : decode cX12_mood 63 = .ok (.iload_n 3, 1) := by decide +kernel
theorem dX12_mood_64 : decode cX12_mood 64 = .ok (.iload 4, 2) := by decide +kernel
theorem dX12_mood_66 : decode cX12_mood 66 = .ok (.iconst 0, 1) := by decide +kernel
theorem dX12_mood_67 : decode cX12_mood 67 = .ok (.invokestatic 331, 3) := by decide +kernel
theorem dX12_mood_70 : decode cX12_mood 70 = .ok (.ifCond .eq 5, 3) := by decide +kernel
theorem dX12_mood_73 : decode cX12_mood 73 = .ok (.iconst 2, 1) := by decide +kernel
theorem dX12_mood_74 : decode cX12_mood 74 = .ok (.ireturn, 1) := by decide +kernel
theorem dX12_mood_75 : decode cX12_mood 75 = .ok (.iconst (-1), 1) := by decide +kernel
theorem dX12_mood_76 : decode cX12_mood 76 = .ok (.istore 5, 2) := by decide +kernel
theorem dX12_mood_78 : decode cX12_mood 78 = .ok (.iconst 1, 1) := by decide +kernel
theorem dX12_mood_79 : decode cX12_mood 79 = .ok (.istore 6, 2) := by decide +kernel
theorem dX12_mood_81 : decode cX12_mood 81 = .ok (.iload 6, 2) := by decide +kernel
theorem dX12_mood_83 : decode cX12_mood 83 = .ok (.bipush 8, 2) := by decide +kernel
theorem dX12_mood_85 : decode cX12_mood 85 = .ok (.if_icmp .ge 61, 3) := by decide +kernel
theorem dX12_mood_88 : decode cX12_mood 88 = .ok (.iload 5, 2) := by decide +kernel
theorem dX12_mood_90 : decode cX12_mood 90 = .ok (.ifCond .lt 16, 3) := by decide +kernel
theorem dX12_mood_93 : decode cX12_mood 93 = .ok (.iload 6, 2) := by decide +kernel
theorem dX12_mood_95 : decode cX12_mood 95 = .ok (.invokestatic 151, 3) := by decide +kernel
theorem dX12_mood_98 : decode cX12_mood 98 = .ok (.iload 5, 2) := by decide +kernel
theorem dX12_mood_100 : decode cX12_mood 100 = .ok (.invokestatic 151, 3) := by decide +kernel
theorem dX12_mood_103 : decode cX12_mood 103 = .ok (.if_icmp .ge 7, 3) := by decide +kernel
theorem dX12_mood_106 : decode cX12_mood 106 = .ok (.iconst 1, 1) := by decide +kernel
theorem dX12_mood_107 : decode cX12_mood 107 = .ok (.goto 4, 3) := by decide +kernel
theorem dX12_mood_110 : decode cX12_mood 110 = .ok (.iconst 0, 1) := by decide +kernel
theorem dX12_mood_111 : decode cX12_mood 111 = .ok (.istore 7, 2) := by decide +kernel
theorem dX12_mood_113 : decode cX12_mood 113 = .ok (.iload 7, 2) := by decide +kernel
theorem dX12_mood_115 : decode cX12_mood 115 = .ok (.ifCond .eq 21, 3) := by decide +kernel
theorem dX12_mood_118 : decode cX12_mood 118 = .ok (.iload_n 1, 1) := by decide +kernel
theorem dX12_mood_119 : decode cX12_mood 119 = .ok (.iload_n 2, 1) := by decide +kernel
theorem dX12_mood_120 : decode cX12_mood 120 = .ok (.iload_n 3, 1) := by decide +kernel
theorem dX12_mood_121 : decode cX12_mood 121 = .ok (.iload 4, 2) := by decide +kernel
theorem dX12_mood_123 : decode cX12_mood 123 = .ok (.iload 6, 2) := by decide +kernel
theorem dX12_mood_125 : decode cX12_mood 125 = .ok (.invokestatic 331, 3) := by decide +kernel
theorem dX12_mood_128 : decode cX12_mood 128 = .ok (.ifCond .eq 8, 3) := by decide +kernel
theorem dX12_mood_131 : decode cX12_mood 131 = .ok (.iload 6, 2) := by decide +kernel
theorem dX12_mood_133 : decode cX12_mood 133 = .ok (.goto 5, 3) := by decide +kernel
theorem dX12_mood_136 : decode cX12_mood 136 = .ok (.iload 5, 2) := by decide +kernel
theorem dX12_mood_138 : decode cX12_mood 138 = .ok (.istore 5, 2) := by decide +kernel
theorem dX12_mood_140 : decode cX12_mood 140 = .ok (.iinc 6 1, 3) := by decide +kernel
theorem dX12_mood_143 : decode cX12_mood 143 = .ok (.goto (-62), 3) := by decide +kernel
theorem dX12_mood_146 : decode cX12_mood 146 = .ok (.aload_n 0, 1) := by decide +kernel
theorem dX12_mood_147 : decode cX12_mood 147 = .ok (.iload 5, 2) := by decide +kernel
theorem dX12_mood_149 : decode cX12_mood 149 = .ok (.ifCond .ge 14, 3) := by decide +kernel
theorem dX12_mood_152 : decode cX12_mood 152 = .ok (.iload_n 1, 1) := by decide +kernel
theorem dX12_mood_153 : decode cX12_mood 153 = .ok (.iload_n 2, 1) := by decide +kernel
theorem dX12_mood_154 : decode cX12_mood 154 = .ok (.iload_n 3, 1) := by decide +kernel
theorem dX12_mood_155 : decode cX12_mood 155 = .ok (.iload 4, 2) := by decide +kernel
theorem dX12_mood_157 : decode cX12_mood 157 = .ok (.invokestatic 335, 3) := by decide +kernel
theorem dX12_mood_160 : decode cX12_mood 160 = .ok (.goto 5, 3) := by decide +kernel
theorem dX12_mood_163 : decode cX12_mood 163 = .ok (.iload 5, 2) := by decide +kernel
theorem dX12_mood_165 : decode cX12_mood 165 = .ok (.invokevirtual 221, 3) := by decide +kernel
theorem dX12_mood_168 : decode cX12_mood 168 = .ok (.iload 5, 2) := by decide +kernel
theorem dX12_mood_170 : decode cX12_mood 170 = .ok (.ifCond .ge 7, 3) := by decide +kernel
theorem dX12_mood_173 : decode cX12_mood 173 = .ok (.iconst 0, 1) := by decide +kernel
theorem dX12_mood_174 : decode cX12_mood 174 = .ok (.goto 4, 3) := by decide +kernel
theorem dX12_mood_177 : decode cX12_mood 177 = .ok (.iconst 1, 1) := by decide +kernel
theorem dX12_mood_178 : decode cX12_mood 178 = .ok (.ireturn, 1) := by decide +kernel
theorem dX12_figure_0 : decode cX12_figure 0 = .ok (.aload_n 0, 1) := by decide +kernel
theorem dX12_figure_1 : decode cX12_figure 1 = .ok (.iconst 0, 1) := by decide +kernel
theorem dX12_figure_2 : decode cX12_figure 2 = .ok (.putfield 3, 3) := by decide +kernel
theorem dX12_figure_5 : decode cX12_figure 5 = .ok (.iload_n 1, 1) := by decide +kernel
theorem dX12_figure_6 : decode cX12_figure 6 = .ok (.i2l, 1) := by decide +kernel
theorem dX12_figure_7 : decode cX12_figure 7 = .ok (.lconst 1, 1) := by decide +kernel
theorem dX12_figure_8 : decode cX12_figure 8 = .ok (.ldc2_w 329, 3) := by decide +kernel
theorem dX12_figure_11 : decode cX12_figure 11 = .ok (.invokestatic 16, 3) := by decide +kernel
theorem dX12_figure_14 : decode cX12_figure 14 = .ok (.ifCond .ne 5, 3) := by decide +kernel
theorem dX12_figure_17 : decode cX12_figure 17 = .ok (.iconst (-1), 1) := by decide +kernel
theorem dX12_figure_18 : decode cX12_figure 18 = .ok (.ireturn, 1) := by decide +kernel
theorem dX12_figure_19 : decode cX12_figure 19 = .ok (.iconst 0, 1) := by decide +kernel
theorem dX12_figure_20 : decode cX12_figure 20 = .ok (.istore_n 2, 1) := by decide +kernel
theorem dX12_figure_21 : decode cX12_figure 21 = .ok (.iconst 0, 1) := by decide +kernel
theorem dX12_figure_22 : decode cX12_figure 22 = .ok (.istore_n 3, 1) := by decide +kernel
theorem dX12_figure_23 : decode cX12_figure 23 = .ok (.iconst 0, 1) := by decide +kernel
theorem dX12_figure_24 : decode cX12_figure 24 = .ok (.istore 4, 2) := by decide +kernel
theorem dX12_figure_26 : decode cX12_figure 26 = .ok (.iload 4, 2) := by decide +kernel
theorem dX12_figure_28 : decode cX12_figure 28 = .ok (.bipush 64, 2) := by decide +kernel
theorem dX12_figure_30 : decode cX12_figure 30 = .ok (.if_icmp .ge 79, 3) := by decide +kernel
theorem dX12_figure_33 : decode cX12_figure 33 = .ok (.iload 4, 2) := by decide +kernel
theorem dX12_figure_35 : decode cX12_figure 35 = .ok (.bipush 16, 2) := by decide +kernel
theorem dX12_figure_37 : decode cX12_figure 37 = .ok (.idiv, 1) := by decide +kernel
theorem dX12_figure_38 : decode cX12_figure 38 = .ok (.iload 4, 2) := by decide +kernel
theorem dX12_figure_40 : decode cX12_figure 40 = .ok (.iconst 4, 1) := by decide +kernel
theorem dX12_figure_41 : decode cX12_figure 41 = .ok (.idiv, 1) := by decide +kernel
theorem dX12_figure_42 : decode cX12_figure 42 = .ok (.iconst 4, 1) := by decide +kernel
theorem dX12_figure_43 : decode cX12_figure 43 = .ok (.irem, 1) := by decide +kernel
theorem dX12_figure_44 : decode cX12_figure 44 = .ok (.iload 4, 2) := by decide +kernel
theorem dX12_figure_46 : decode cX12_figure 46 = .ok (.iconst 4, 1) := by decide +kernel
theorem dX12_figure_47 : decode cX12_figure 47 = .ok (.irem, 1) := by decide +kernel
theorem dX12_figure_48 : decode cX12_figure 48 = .ok (.iload_n 1, 1) := by decide +kernel
theorem dX12_figure_49 : decode cX12_figure 49 = .ok (.iconst 0, 1) := by decide +kernel
theorem dX12_figure_50 : decode cX12_figure 50 = .ok (.invokestatic 331, 3) := by decide +kernel
theorem dX12_figure_53 : decode cX12_figure 53 = .ok (.istore 5, 2) := by decide +kernel
theorem dX12_figure_55 : decode cX12_figure 55 = .ok (.iload_n 2, 1) := by decide +kernel
theorem dX12_figure_56 : decode cX12_figure 56 = .ok (.iload 5, 2) := by decide +kernel
theorem dX12_figure_58 : decode cX12_figure 58 = .ok (.invokestatic 52, 3) := by decide +kernel
theorem dX12_figure_61 : decode cX12_figure 61 = .ok (.iadd, 1) := by decide +kernel
theorem dX12_figure_62 : decode cX12_figure 62 = .ok (.istore_n 2, 1) := by decide +kernel
theorem dX12_figure_63 : decode cX12_figure 63 = .ok (.iload_n 3, 1) := by decide +kernel
theorem dX12_figure_64 : decode cX12_figure 64 = .ok (.iload 5, 2) := by decide +kernel
theorem dX12_figure_66 : decode cX12_figure 66 = .ok (.ifCond .ne 31, 3) := by decide +kernel
theorem dX12_figure_69 : decode cX12_figure 69 = .ok (.iload 4, 2) := by decide +kernel
theorem dX12_figure_71 : decode cX12_figure 71 = .ok (.bipush 16, 2) := by decide +kernel
theorem dX12_figure_73 : decode cX12_figure 73 = .ok (.idiv, 1) := by decide +kernel
theorem dX12_figure_74 : decode cX12_figure 74 = .ok (.iload 4, 2) := by decide +kernel
theorem dX12_figure_76 : decode cX12_figure 76 = .ok (.iconst 4, 1) := by decide +kernel
theorem dX12_figure_77 : decode cX12_figure 77 = .ok (.idiv, 1) := by decide +kernel
theorem dX12_figure_78 : decode cX12_figure 78 = .ok (.iconst 4, 1) := by decide +kernel
theorem dX12_figure_79 : decode cX12_figure 79 = .ok (.irem, 1) := by decide +kernel
theorem dX12_figure_80 : decode cX12_figure 80 = .ok (.iload 4, 2) := by decide +kernel
theorem dX12_figure_82 : decode cX12_figure 82 = .ok (.iconst 4, 1) := by decide +kernel
theorem dX12_figure_83 : decode cX12_figure 83 = .ok (.irem, 1) := by decide +kernel
theorem dX12_figure_84 : decode cX12_figure 84 = .ok (.iload_n 1, 1) := by decide +kernel
theorem dX12_figure_85 : decode cX12_figure 85 = .ok (.bipush 7, 2) := by decide +kernel
theorem dX12_figure_87 : decode cX12_figure 87 = .ok (.invokestatic 331, 3) := by decide +kernel
theorem dX12_figure_90 : decode cX12_figure 90 = .ok (.ifCond .eq 7, 3) := by decide +kernel
theorem dX12_figure_93 : decode cX12_figure 93 = .ok (.iconst 1, 1) := by decide +kernel
theorem dX12_figure_94 : decode cX12_figure 94 = .ok (.goto 4, 3) := by decide +kernel
theorem dX12_figure_97 : decode cX12_figure 97 = .ok (.iconst 0, 1) := by decide +kernel
theorem dX12_figure_98 : decode cX12_figure 98 = .ok (.invokestatic 52, 3) := by decide +kernel
theorem dX12_figure_101 : decode cX12_figure 101 = .ok (.iadd, 1) := by decide +kernel
theorem dX12_figure_102 : decode cX12_figure 102 = .ok (.istore_n 3, 1) := by decide +kernel
theorem dX12_figure_103 : decode cX12_figure 103 = .ok (.iinc 4 1, 3) := by decide +kernel
theorem dX12_figure_106 : decode cX12_figure 106 = .ok (.goto (-80), 3) := by decide +kernel
theorem dX12_figure_109 : decode cX12_figure 109 = .ok (.aload_n 0, 1) := by decide +kernel
theorem dX12_figure_110 : decode cX12_figure 110 = .ok (.iconst 0, 1) := by decide +kernel
theorem dX12_figure_111 : decode cX12_figure 111 = .ok (.putfield 11, 3) := by decide +kernel
theorem dX12_figure_114 : decode cX12_figure 114 = .ok (.aload_n 0, 1) := by decide +kernel
theorem dX12_figure_115 : decode cX12_figure 115 = .ok (.iload_n 3, 1) := by decide +kernel
theorem dX12_figure_116 : decode cX12_figure 116 = .ok (.invokevirtual 221, 3) := by decide +kernel
theorem dX12_figure_119 : decode cX12_figure 119 = .ok (.iload_n 2, 1) := by decide +kernel
theorem dX12_figure_120 : decode cX12_figure 120 = .ok (.ireturn, 1) := by decide +kernel
theorem dX12_forms_0 : decode cX12_forms 0 = .ok (.aload_n 0, 1) := by decide +kernel
theorem dX12_forms_1 : decode cX12_forms 1 = .ok (.iconst 0, 1) := by decide +kernel
theorem dX12_forms_2 : decode cX12_forms 2 = .ok (.putfield 3, 3) := by decide +kernel
theorem dX12_forms_5 : decode cX12_forms 5 = .ok (.iload_n 1, 1) := by decide +kernel
theorem dX12_forms_6 : decode cX12_forms 6 = .ok (.invokestatic 236, 3) := by decide +kernel
theorem dX12_forms_9 : decode cX12_forms 9 = .ok (.ifCond .eq 10, 3) := by decide +kernel
theorem dX12_forms_12 : decode cX12_forms 12 = .ok (.iload_n 2, 1) := by decide +kernel
theorem dX12_forms_13 : decode cX12_forms 13 = .ok (.invokestatic 236, 3) := by decide +kernel
theorem dX12_forms_16 : decode cX12_forms 16 = .ok (.ifCond .ne 5, 3) := by decide +kernel
theorem dX12_forms_19 : decode cX12_forms 19 = .ok (.iconst (-1), 1) := by decide +kernel
theorem dX12_forms_20 : decode cX12_forms 20 = .ok (.ireturn, 1) := by decide +kernel
theorem dX12_forms_21 : decode cX12_forms 21 = .ok (.iconst 0, 1) := by decide +kernel
theorem dX12_forms_22 : decode cX12_forms 22 = .ok (.istore_n 3, 1) := by decide +kernel
theorem dX12_forms_23 : decode cX12_forms 23 = .ok (.iconst 0, 1) := by decide +kernel
theorem dX12_forms_24 : decode cX12_forms 24 = .ok (.istore 4, 2) := by decide +kernel
theorem dX12_forms_26 : decode cX12_forms 26 = .ok (.iload 4, 2) := by decide +kernel
theorem dX12_forms_28 : decode cX12_forms 28 = .ok (.iconst 4, 1) := by decide +kernel
theorem dX12_forms_29 : decode cX12_forms 29 = .ok (.if_icmp .ge 38, 3) := by decide +kernel
theorem dX12_forms_32 : decode cX12_forms 32 = .ok (.iload_n 3, 1) := by decide +kernel
theorem dX12_forms_33 : decode cX12_forms 33 = .ok (.aload_n 0, 1) := by decide +kernel
theorem dX12_forms_34 : decode cX12_forms 34 = .ok (.aload_n 0, 1) := by decide +kernel
theorem dX12_forms_35 : decode cX12_forms 35 = .ok (.invokevirtual 206, 3) := by decide +kernel
theorem dX12_forms_38 : decode cX12_forms 38 = .ok (.iload 4, 2) := by decide +kernel
theorem dX12_forms_40 : decode cX12_forms 40 = .ok (.iload_n 1, 1) := by decide +kernel
theorem dX12_forms_41 : decode cX12_forms 41 = .ok (.iload_n 2, 1) := by decide +kernel
theorem dX12_forms_42 : decode cX12_forms 42 = .ok (.invokestatic 30, 3) := by decide +kernel
theorem dX12_forms_45 : decode cX12_forms 45 = .ok (.invokevirtual 212, 3) := by decide +kernel
theorem dX12_forms_48 : decode cX12_forms 48 = .ok (.ifCond .eq 10, 3) := by decide +kernel
theorem dX12_forms_51 : decode cX12_forms 51 = .ok (.iconst 1, 1) := by decide +kernel
theorem dX12_forms_52 : decode cX12_forms 52 = .ok (.iload 4, 2) := by decide +kernel
theorem dX12_forms_54 : decode cX12_forms 54 = .ok (.ishl, 1) := by decide +kernel
theorem dX12_forms_55 : decode cX12_forms 55 = .ok (.goto 4, 3) := by decide +kernel
theorem dX12_forms_58 : decode cX12_forms 58 = .ok (.iconst 0, 1) := by decide +kernel
theorem dX12_forms_59 : decode cX12_forms 59 = .ok (.ior, 1) := by decide +kernel
theorem dX12_forms_60 : decode cX12_forms 60 = .ok (.istore_n 3, 1) := by decide +kernel
theorem dX12_forms_61 : decode cX12_forms 61 = .ok (.iinc 4 1, 3) := by decide +kernel
