theorem dX10_canAllShare_5 : decode cX10_canAllShare 5 = .ok (.if_icmp .ge 30, 3) := by decide +kernel
theorem dX10_canAllShare_8 : decode cX10_canAllShare 8 = .ok (.iload_n 1, 1) := by decide +kernel
theorem dX10_canAllShare_9 : decode cX10_canAllShare 9 = .ok (.iload_n 2, 1) := by decide +kernel
theorem dX10_canAllShare_10 : decode cX10_canAllShare 10 = .ok (.ishr, 1) := by decide +kernel
theorem dX10_canAllShare_11 : decode cX10_canAllShare 11 = .ok (.iconst 1, 1) := by decide +kernel
theorem dX10_canAllShare_12 : decode cX10_canAllShare 12 = .ok (.iand, 1) := by decide +kernel
theorem dX10_canAllShare_13 : decode cX10_canAllShare 13 = .ok (.ifCond .eq 16, 3) := by decide +kernel
theorem dX10_canAllShare_16 : decode cX10_canAllShare 16 = .ok (.iload_n 1, 1) := by decide +kernel
theorem dX10_canAllShare_17 : decode cX10_canAllShare 17 = .ok (.aload_n 0, 1) := by decide +kernel
theorem dX10_canAllShare_18 : decode cX10_canAllShare 18 = .ok (.getfield 15, 3) := by decide +kernel
theorem dX10_canAllShare_21 : decode cX10_canAllShare 21 = .ok (.iload_n 2, 1) := by decide +kernel
theorem dX10_canAllShare_22 : decode cX10_canAllShare 22 = .ok (.iaload, 1) := by decide +kernel
theorem dX10_canAllShare_23 : decode cX10_canAllShare 23 = .ok (.iand, 1) := by decide +kernel
theorem dX10_canAllShare_24 : decode cX10_canAllShare 24 = .ok (.ifCond .eq 5, 3) := by decide +kernel
theorem dX10_canAllShare_27 : decode cX10_canAllShare 27 = .ok (.iconst 0, 1) := by decide +kernel
theorem dX10_canAllShare_28 : decode cX10_canAllShare 28 = .ok (.ireturn, 1) := by decide +kernel
theorem dX10_canAllShare_29 : decode cX10_canAllShare 29 = .ok (.iinc 2 1, 3) := by decide +kernel
theorem dX10_canAllShare_32 : decode cX10_canAllShare 32 = .ok (.goto (-30), 3) := by decide +kernel
theorem dX10_canAllShare_35 : decode cX10_canAllShare 35 = .ok (.iconst 1, 1) := by decide +kernel
theorem dX10_canAllShare_36 : decode cX10_canAllShare 36 = .ok (.ireturn, 1) := by decide +kernel
theorem dX10_isTrueOf_0 : decode cX10_isTrueOf 0 = .ok (.iload_n 0, 1) := by decide +kernel
theorem dX10_isTrueOf_1 : decode cX10_isTrueOf 1 = .ok (.invokestatic 97, 3) := by decide +kernel
theorem dX10_isTrueOf_4 : decode cX10_isTrueOf 4 = .ok (.istore 4, 2) := by decide +kernel
theorem dX10_isTrueOf_6 : decode cX10_isTrueOf 6 = .ok (.iload_n 0, 1) := by decide +kernel
theorem dX10_isTrueOf_7 : decode cX10_isTrueOf 7 = .ok (.invokestatic 102, 3) := by decide +kernel
theorem dX10_isTrueOf_10 : decode cX10_isTrueOf 10 = .ok (.ifCond .eq 50, 3) := by decide +kernel
theorem dX10_isTrueOf_13 : decode cX10_isTrueOf 13 = .ok (.iload_n 0, 1) := by decide +kernel
theorem dX10_isTrueOf_14 : decode cX10_isTrueOf 14 = .ok (.invokestatic 105, 3) := by decide +kernel
theorem dX10_isTrueOf_17 : decode cX10_isTrueOf 17 = .ok (.iconst 1, 1) := by decide +kernel
theorem dX10_isTrueOf_18 : decode cX10_isTrueOf 18 = .ok (.ixor, 1) := by decide +kernel
theorem dX10_isTrueOf_19 : decode cX10_isTrueOf 19 = .ok (.istore 5, 2) := by decide +kernel
theorem dX10_isTrueOf_21 : decode cX10_isTrueOf 21 = .ok (.iload_n 1, 1) := by decide +kernel
theorem dX10_isTrueOf_22 : decode cX10_isTrueOf 22 = .ok (.iload 4, 2) := by decide +kernel
theorem dX10_isTrueOf_24 : decode cX10_isTrueOf 24 = .ok (.iload 5, 2) := by decide +kernel
theorem dX10_isTrueOf_26 : decode cX10_isTrueOf 26 = .ok (.invokestatic 108, 3) := by decide +kernel
theorem dX10_isTrueOf_29 : decode cX10_isTrueOf 29 = .ok (.ifCond .ne 29, 3) := by decide +kernel
theorem dX10_isTrueOf_32 : decode cX10_isTrueOf 32 = .ok (.iload_n 2, 1) := by decide +kernel
theorem dX10_isTrueOf_33 : decode cX10_isTrueOf 33 = .ok (.iload 4, 2) := by decide +kernel
theorem dX10_isTrueOf_35 : decode cX10_isTrueOf 35 = .ok (.iload 5, 2) := by decide +kernel
theorem dX10_isTrueOf_37 : decode cX10_isTrueOf 37 = .ok (.invokestatic 108, 3) := by decide +kernel
theorem dX10_isTrueOf_40 : decode cX10_isTrueOf 40 = .ok (.ifCond .ne 18, 3) := by decide +kernel
theorem dX10_isTrueOf_43 : decode cX10_isTrueOf 43 = .ok (.iload_n 3, 1) := by decide +kernel
theorem dX10_isTrueOf_44 : decode cX10_isTrueOf 44 = .ok (.iload 4, 2) := by decide +kernel
theorem dX10_isTrueOf_46 : decode cX10_isTrueOf 46 = .ok (.iload 5, 2) := by decide +kernel
theorem dX10_isTrueOf_48 : decode cX10_isTrueOf 48 = .ok (.invokestatic 108, 3) := by decide +kernel
theorem dX10_isTrueOf_51 : decode cX10_isTrueOf 51 = .ok (.ifCond .ne 7, 3) := by decide +kernel
theorem dX10_isTrueOf_54 : decode cX10_isTrueOf 54 = .ok (.iconst 1, 1) := by decide +kernel
theorem dX10_isTrueOf_55 : decode cX10_isTrueOf 55 = .ok (.goto 4, 3) := by decide +kernel
theorem dX10_isTrueOf_58 : decode cX10_isTrueOf 58 = .ok (.iconst 0, 1) := by decide +kernel
theorem dX10_isTrueOf_59 : decode cX10_isTrueOf 59 = .ok (.ireturn, 1) := by decide +kernel
theorem dX10_isTrueOf_60 : decode cX10_isTrueOf 60 = .ok (.iload_n 0, 1) := by decide +kernel
theorem dX10_isTrueOf_61 : decode cX10_isTrueOf 61 = .ok (.invokestatic 105, 3) := by decide +kernel
theorem dX10_isTrueOf_64 : decode cX10_isTrueOf 64 = .ok (.istore 5, 2) := by decide +kernel
theorem dX10_isTrueOf_66 : decode cX10_isTrueOf 66 = .ok (.iload_n 1, 1) := by decide +kernel
theorem dX10_isTrueOf_67 : decode cX10_isTrueOf 67 = .ok (.iload 4, 2) := by decide +kernel
theorem dX10_isTrueOf_69 : decode cX10_isTrueOf 69 = .ok (.iload 5, 2) := by decide +kernel
theorem dX10_isTrueOf_71 : decode cX10_isTrueOf 71 = .ok (.invokestatic 108, 3) := by decide +kernel
theorem dX10_isTrueOf_74 : decode cX10_isTrueOf 74 = .ok (.ifCond .ne 25, 3) := by decide +kernel
theorem dX10_isTrueOf_77 : decode cX10_isTrueOf 77 = .ok (.iload_n 2, 1) := by decide +kernel
theorem dX10_isTrueOf_78 : decode cX10_isTrueOf 78 = .ok (.iload 4, 2) := by decide +kernel
theorem dX10_isTrueOf_80 : decode cX10_isTrueOf 80 = .ok (.iload 5, 2) := by decide +kernel
theorem dX10_isTrueOf_82 : decode cX10_isTrueOf 82 = .ok (.invokestatic 108, 3) := by decide +kernel
theorem dX10_isTrueOf_85 : decode cX10_isTrueOf 85 = .ok (.ifCond .ne 14, 3) := by decide +kernel
theorem dX10_isTrueOf_88 : decode cX10_isTrueOf 88 = .ok (.iload_n 3, 1) := by decide +kernel
theorem dX10_isTrueOf_89 : decode cX10_isTrueOf 89 = .ok (.iload 4, 2) := by decide +kernel
theorem dX10_isTrueOf_91 : decode cX10_isTrueOf 91 = .ok (.iload 5, 2) := by decide +kernel
theorem dX10_isTrueOf_93 : decode cX10_isTrueOf 93 = .ok (.invokestatic 108, 3) := by decide +kernel
theorem dX10_isTrueOf_96 : decode cX10_isTrueOf 96 = .ok (.ifCond .eq 7, 3) := by decide +kernel
theorem dX10_isTrueOf_99 : decode cX10_isTrueOf 99 = .ok (.iconst 1, 1) := by decide +kernel
theorem dX10_isTrueOf_100 : decode cX10_isTrueOf 100 = .ok (.goto 4, 3) := by decide +kernel
theorem dX10_isTrueOf_103 : decode cX10_isTrueOf 103 = .ok (.iconst 0, 1) := by decide +kernel
theorem dX10_isTrueOf_104 : decode cX10_isTrueOf 104 = .ok (.ireturn, 1) := by decide +kernel
theorem dX10_isBoth_0 : decode cX10_isBoth 0 = .ok (.iload_n 0, 1) := by decide +kernel
theorem dX10_isBoth_1 : decode cX10_isBoth 1 = .ok (.sipush 4096, 3) := by decide +kernel
theorem dX10_isBoth_4 : decode cX10_isBoth 4 = .ok (.if_icmp .ge 23, 3) := by decide +kernel
theorem dX10_isBoth_7 : decode cX10_isBoth 7 = .ok (.iload_n 0, 1) := by decide +kernel
theorem dX10_isBoth_8 : decode cX10_isBoth 8 = .ok (.iload_n 1, 1) := by decide +kernel
theorem dX10_isBoth_9 : decode cX10_isBoth 9 = .ok (.invokestatic 112, 3) := by decide +kernel
theorem dX10_isBoth_12 : decode cX10_isBoth 12 = .ok (.ifCond .eq 15, 3) := by decide +kernel
theorem dX10_isBoth_15 : decode cX10_isBoth 15 = .ok (.iload_n 0, 1) := by decide +kernel
theorem dX10_isBoth_16 : decode cX10_isBoth 16 = .ok (.iload_n 2, 1) := by decide +kernel
theorem dX10_isBoth_17 : decode cX10_isBoth 17 = .ok (.invokestatic 112, 3) := by decide +kernel
theorem dX10_isBoth_20 : decode cX10_isBoth 20 = .ok (.ifCond .eq 7, 3) := by decide +kernel
theorem dX10_isBoth_23 : decode cX10_isBoth 23 = .ok (.iconst 1, 1) := by decide +kernel
theorem dX10_isBoth_24 : decode cX10_isBoth 24 = .ok (.goto 4, 3) := by decide +kernel
theorem dX10_isBoth_27 : decode cX10_isBoth 27 = .ok (.iconst 0, 1) := by decide +kernel
theorem dX10_isBoth_28 : decode cX10_isBoth 28 = .ok (.ireturn, 1) := by decide +kernel
theorem dX11_init_0 : decode cX11_init 0 = .ok (.aload_n 0, 1) := by decide +kernel
theorem dX11_init_1 : decode cX11_init 1 = .ok (.invokespecial 1, 3) := by decide +kernel
theorem dX11_init_4 : decode cX11_init 4 = .ok (.new 7, 3) := by decide +kernel
theorem dX11_init_7 : decode cX11_init 7 = .ok (.dup, 1) := by decide +kernel
theorem dX11_init_8 : decode cX11_init 8 = .ok (.invokespecial 9, 3) := by decide +kernel
theorem dX11_init_11 : decode cX11_init 11 = .ok (.astore_n 1, 1) := by decide +kernel
theorem dX11_init_12 : decode cX11_init 12 = .ok (.new 10, 3) := by decide +kernel
theorem dX11_init_15 : decode cX11_init 15 = .ok (.dup, 1) := by decide +kernel
theorem dX11_init_16 : decode cX11_init 16 = .ok (.aload_n 1, 1) := by decide +kernel
theorem dX11_init_17 : decode cX11_init 17 = .ok (.invokespecial 12, 3) := by decide +kernel
theorem dX11_init_20 : decode cX11_init 20 = .ok (.astore_n 2, 1) := by decide +kernel
theorem dX11_init_21 : decode cX11_init 21 = .ok (.new 15, 3) := by decide +kernel
theorem dX11_init_24 : decode cX11_init 24 = .ok (.dup, 1) := by decide +kernel
theorem dX11_init_25 : decode cX11_init 25 = .ok (.aload_n 1, 1) := by decide +kernel
theorem dX11_init_26 : decode cX11_init 26 = .ok (.invokespecial 17, 3) := by decide +kernel
theorem dX11_init_29 : decode cX11_init 29 = .ok (.astore_n 3, 1) := by decide +kernel
theorem dX11_init_30 : decode cX11_init 30 = .ok (.aload_n 0, 1) := by decide +kernel
theorem dX11_init_31 : decode cX11_init 31 = .ok (.new 18, 3) := by decide +kernel
theorem dX11_init_34 : decode cX11_init 34 = .ok (.dup, 1) := by decide +kernel
theorem dX11_init_35 : decode cX11_init 35 = .ok (.invokespecial 20, 3) := by decide +kernel
theorem dX11_init_38 : decode cX11_init 38 = .ok (.putfield 21, 3) := by decide +kernel
theorem dX11_init_41 : decode cX11_init 41 = .ok (.aload_n 0, 1) := by decide +kernel
theorem dX11_init_42 : decode cX11_init 42 = .ok (.aload_n 1, 1) := by decide +kernel
theorem dX11_init_43 : decode cX11_init 43 = .ok (.putfield 27, 3) := by decide +kernel
theorem dX11_init_46 : decode cX11_init 46 = .ok (.aload_n 0, 1) := by decide +kernel
theorem dX11_init_47 : decode cX11_init 47 = .ok (.aload_n 2, 1) := by decide +kernel
theorem dX11_init_48 : decode cX11_init 48 = .ok (.putfield 31, 3) := by decide +kernel
theorem dX11_init_51 : decode cX11_init 51 = .ok (.aload_n 0, 1) := by decide +kernel
theorem dX11_init_52 : decode cX11_init 52 = .ok (.new 35, 3) := by decide +kernel
theorem dX11_init_55 : decode cX11_init 55 = .ok (.dup, 1) := by decide +kernel
theorem dX11_init_56 : decode cX11_init 56 = .ok (.aload_n 1, 1) := by decide +kernel
theorem dX11_init_57 : decode cX11_init 57 = .ok (.aload_n 2, 1) := by decide +kernel
theorem dX11_init_58 : decode cX11_init 58 = .ok (.invokespecial 37, 3) := by decide +kernel
theorem dX11_init_61 : decode cX11_init 61 = .ok (.putfield 40, 3) := by decide +kernel
theorem dX11_init_64 : decode cX11_init 64 = .ok (.aload_n 0, 1) := by decide +kernel
theorem dX11_init_65 : decode cX11_init 65 = .ok (.aload_n 3, 1) := by decide +kernel
theorem dX11_init_66 : decode cX11_init 66 = .ok (.putfield 44, 3) := by decide +kernel
theorem dX11_init_69 : decode cX11_init 69 = .ok (.aload_n 0, 1) := by decide +kernel
theorem dX11_init_70 : decode cX11_init 70 = .ok (.new 48, 3) := by decide +kernel
theorem dX11_init_73 : decode cX11_init 73 = .ok (.dup, 1) := by decide +kernel
theorem dX11_init_74 : decode cX11_init 74 = .ok (.aload_n 1, 1) := by decide +kernel
theorem dX11_init_75 : decode cX11_init 75 = .ok (.aload_n 2, 1) := by decide +kernel
theorem dX11_init_76 : decode cX11_init 76 = .ok (.aload_n 3, 1) := by decide +kernel
theorem dX11_init_77 : decode cX11_init 77 = .ok (.invokespecial 50, 3) := by decide +kernel
theorem dX11_init_80 : decode cX11_init 80 = .ok (.putfield 53, 3) := by decide +kernel
theorem dX11_init_83 : decode cX11_init 83 = .ok (.aload_n 0, 1) := by decide +kernel
theorem dX11_init_84 : decode cX11_init 84 = .ok (.new 57, 3) := by decide +kernel
theorem dX11_init_87 : decode cX11_init 87 = .ok (.dup, 1) := by decide +kernel
theorem dX11_init_88 : decode cX11_init 88 = .ok (.invokespecial 59, 3) := by decide +kernel
theorem dX11_init_91 : decode cX11_init 91 = .ok (.putfield 60, 3) := by decide +kernel
theorem dX11_init_94 : decode cX11_init 94 = .ok (.aload_n 0, 1) := by decide +kernel
theorem dX11_init_95 : decode cX11_init 95 = .ok (.new 64, 3) := by decide +kernel
theorem dX11_init_98 : decode cX11_init 98 = .ok (.dup, 1) := by decide +kernel
theorem dX11_init_99 : decode cX11_init 99 = .ok (.aload_n 1, 1) := by decide +kernel
theorem dX11_init_100 : decode cX11_init 100 = .ok (.invokespecial 66, 3) := by decide +kernel
theorem dX11_init_103 : decode cX11_init 103 = .ok (.putfield 67, 3) := by decide +kernel
theorem dX11_init_106 : decode cX11_init 106 = .ok (.aload_n 0, 1) := by decide +kernel
theorem dX11_init_107 : decode cX11_init 107 = .ok (.new 71, 3) := by decide +kernel
theorem dX11_init_110 : decode cX11_init 110 = .ok (.dup, 1) := by decide +kernel
theorem dX11_init_111 : decode cX11_init 111 = .ok (.aload_n 1, 1) := by decide +kernel
theorem dX11_init_112 : decode cX11_init 112 = .ok (.invokespecial 73, 3) := by decide +kernel
theorem dX11_init_115 : decode cX11_init 115 = .ok (.putfield 74, 3) := by decide +kernel
theorem dX11_init_118 : decode cX11_init 118 = .ok (.aload_n 0, 1) := by decide +kernel
theorem dX11_init_119 : decode cX11_init 119 = .ok (.bipush 24, 2) := by decide +kernel
theorem dX11_init_121 : decode cX11_init 121 = .ok (.newarray .int, 2) := by decide +kernel
theorem dX11_init_123 : decode cX11_init 123 = .ok (.putfield 78, 3) := by decide +kernel
theorem dX11_init_126 : decode cX11_init 126 = .ok (.aload_n 0, 1) := by decide +kernel
theorem dX11_init_127 : decode cX11_init 127 = .ok (.iconst 0, 1) := by decide +kernel
theorem dX11_init_128 : decode cX11_init 128 = .ok (.putfield 82, 3) := by decide +kernel
theorem dX11_init_131 : decode cX11_init 131 = .ok (.return_, 1) := by decide +kernel
theorem dX11_sign_0 : decode cX11_sign 0 = .ok (.aload_n 0, 1) := by decide +kernel
theorem dX11_sign_1 : decode cX11_sign 1 = .ok (.getfield 21, 3) := by decide +kernel
theorem dX11_sign_4 : decode cX11_sign 4 = .ok (.iload_n 1, 1) := by decide +kernel
theorem dX11_sign_5 : decode cX11_sign 5 = .ok (.invokevirtual 86, 3) := by decide +kernel
theorem dX11_sign_8 : decode cX11_sign 8 = .ok (.ireturn, 1) := by decide +kernel
theorem dX11_end_0 : decode cX11_end 0 = .ok (.aload_n 0, 1) := by decide +kernel
theorem dX11_end_1 : decode cX11_end 1 = .ok (.getfield 21, 3) := by decide +kernel
theorem dX11_end_4 : decode cX11_end 4 = .ok (.iload_n 1, 1) := by decide +kernel
theorem dX11_end_5 : decode cX11_end 5 = .ok (.invokevirtual 90, 3) := by decide +kernel
theorem dX11_end_8 : decode cX11_end 8 = .ok (.ireturn, 1) := by decide +kernel
theorem dX11_told_0 : decode cX11_told 0 = .ok (.aload_n 0, 1) := by decide +kernel
theorem dX11_told_1 : decode cX11_told 1 = .ok (.getfield 27, 3) := by decide +kernel
theorem dX11_told_4 : decode cX11_told 4 = .ok (.aload_n 0, 1) := by decide +kernel
theorem dX11_told_5 : decode cX11_told 5 = .ok (.getfield 21, 3) := by decide +kernel
theorem dX11_told_8 : decode cX11_told 8 = .ok (.invokevirtual 94, 3) := by decide +kernel
theorem dX11_told_11 : decode cX11_told 11 = .ok (.istore_n 1, 1) := by decide +kernel
theorem dX11_told_12 : decode cX11_told 12 = .ok (.aload_n 0, 1) := by decide +kernel
theorem dX11_told_13 : decode cX11_told 13 = .ok (.getfield 21, 3) := by decide +kernel
theorem dX11_told_16 : decode cX11_told 16 = .ok (.invokevirtual 98, 3) := by decide +kernel
theorem dX11_told_19 : decode cX11_told 19 = .ok (.iload_n 1, 1) := by decide +kernel
theorem dX11_told_20 : decode cX11_told 20 = .ok (.ireturn, 1) := by decide +kernel
theorem dX11_saying_0 : decode cX11_saying 0 = .ok (.iload_n 1, 1) := by decide +kernel
theorem dX11_saying_1 : decode cX11_saying 1 = .ok (.ifCond .lt 23, 3) := by decide +kernel
theorem dX11_saying_4 : decode cX11_saying 4 = .ok (.iload_n 1, 1) := by decide +kernel
theorem dX11_saying_5 : decode cX11_saying 5 = .ok (.aload_n 0, 1) := by decide +kernel
theorem dX11_saying_6 : decode cX11_saying 6 = .ok (.getfield 27, 3) := by decide +kernel
theorem dX11_saying_9 : decode cX11_saying 9 = .ok (.getfield 101, 3) := by decide +kernel
theorem dX11_saying_12 : decode cX11_saying 12 = .ok (.if_icmp .ge 12, 3) := by decide +kernel
theorem dX11_saying_15 : decode cX11_saying 15 = .ok (.iload_n 2, 1) := by decide +kernel
theorem dX11_saying_16 : decode cX11_saying 16 = .ok (.ifCond .lt 8, 3) := by decide +kernel
theorem dX11_saying_19 : decode cX11_saying 19 = .ok (.iload_n 2, 1) := by decide +kernel
theorem dX11_saying_20 : decode cX11_saying 20 = .ok (.iconst 3, 1) := by decide +kernel
theorem dX11_saying_21 : decode cX11_saying 21 = .ok (.if_icmp .le 11, 3) := by decide +kernel
theorem dX11_saying_24 : decode cX11_saying 24 = .ok (.new 104, 3) := by decide +kernel
theorem dX11_saying_27 : decode cX11_saying 27 = .ok (.dup, 1) := by decide +kernel
theorem dX11_saying_28 : decode cX11_saying 28 = .ok (.invokespecial 106, 3) := by decide +kernel
theorem dX11_saying_31 : decode cX11_saying 31 = .ok (.athrow, 1) := by decide +kernel
theorem dX11_saying_32 : decode cX11_saying 32 = .ok (.aload_n 0, 1) := by decide +kernel
theorem dX11_saying_33 : decode cX11_saying 33 = .ok (.getfield 27, 3) := by decide +kernel
theorem dX11_saying_36 : decode cX11_saying 36 = .ok (.iload_n 1, 1) := by decide +kernel
theorem dX11_saying_37 : decode cX11_saying 37 = .ok (.iload_n 2, 1) := by decide +kernel
theorem dX11_saying_38 : decode cX11_saying 38 = .ok (.invokevirtual 107, 3) := by decide +kernel
theorem dX11_saying_41 : decode cX11_saying 41 = .ok (.ireturn, 1) := by decide +kernel
theorem dX11_mark_0 : decode cX11_mark 0 = .ok (.iload_n 1, 1) := by decide +kernel
theorem dX11_mark_1 : decode cX11_mark 1 = .ok (.ifCond .lt 23, 3) := by decide +kernel
theorem dX11_mark_4 : decode cX11_mark 4 = .ok (.iload_n 1, 1) := by decide +kernel
theorem dX11_mark_5 : decode cX11_mark 5 = .ok (.aload_n 0, 1) := by decide +kernel
theorem dX11_mark_6 : decode cX11_mark 6 = .ok (.getfield 27, 3) := by decide +kernel
theorem dX11_mark_9 : decode cX11_mark 9 = .ok (.getfield 101, 3) := by decide +kernel
theorem dX11_mark_12 : decode cX11_mark 12 = .ok (.if_icmp .ge 12, 3) := by decide +kernel
theorem dX11_mark_15 : decode cX11_mark 15 = .ok (.iload_n 2, 1) := by decide +kernel
theorem dX11_mark_16 : decode cX11_mark 16 = .ok (.ifCond .lt 8, 3) := by decide +kernel
theorem dX11_mark_19 : decode cX11_mark 19 = .ok (.iload_n 2, 1) := by decide +kernel
theorem dX11_mark_20 : decode cX11_mark 20 = .ok (.iconst 1, 1) := by decide +kernel
theorem dX11_mark_21 : decode cX11_mark 21 = .ok (.if_icmp .le 5, 3) := by decide +kernel
theorem dX11_mark_24 : decode cX11_mark 24 = .ok (.iconst 0, 1) := by decide +kernel
theorem dX11_mark_25 : decode cX11_mark 25 = .ok (.ireturn, 1) := by decide +kernel
theorem dX11_mark_26 : decode cX11_mark 26 = .ok (.iload_n 2, 1) := by decide +kernel
theorem dX11_mark_27 : decode cX11_mark 27 = .ok (.ifCond .ne 25, 3) := by decide +kernel
theorem dX11_mark_30 : decode cX11_mark 30 = .ok (.aload_n 0, 1) := by decide +kernel
theorem dX11_mark_31 : decode cX11_mark 31 = .ok (.getfield 27, 3) := by decide +kernel
theorem dX11_mark_34 : decode cX11_mark 34 = .ok (.aload_n 0, 1) := by decide +kernel
theorem dX11_mark_35 : decode cX11_mark 35 = .ok (.getfield 27, 3) := by decide +kernel
theorem dX11_mark_38 : decode cX11_mark 38 = .ok (.getfield 111, 3) := by decide +kernel
theorem dX11_mark_41 : decode cX11_mark 41 = .ok (.iload_n 1, 1) := by decide +kernel
theorem dX11_mark_42 : decode cX11_mark 42 = .ok (.iload_n 3, 1) := by decide +kernel
theorem dX11_mark_43 : decode cX11_mark 43 = .ok (.invokestatic 114, 3) := by decide +kernel
theorem dX11_mark_46 : decode cX11_mark 46 = .ok (.putfield 111, 3) := by decide +kernel
theorem dX11_mark_49 : decode cX11_mark 49 = .ok (.goto 22, 3) := by decide +kernel
theorem dX11_mark_52 : decode cX11_mark 52 = .ok (.aload_n 0, 1) := by decide +kernel
theorem dX11_mark_53 : decode cX11_mark 53 = .ok (.getfield 27, 3) := by decide +kernel
theorem dX11_mark_56 : decode cX11_mark 56 = .ok (.aload_n 0, 1) := by decide +kernel
theorem dX11_mark_57 : decode cX11_mark 57 = .ok (.getfield 27, 3) := by decide +kernel
theorem dX11_mark_60 : decode cX11_mark 60 = .ok (.getfield 120, 3) := by decide +kernel
theorem dX11_mark_63 : decode cX11_mark 63 = .ok (.iload_n 1, 1) := by decide +kernel
theorem dX11_mark_64 : decode cX11_mark 64 = .ok (.iload_n 3, 1) := by decide +kernel
theorem dX11_mark_65 : decode cX11_mark 65 = .ok (.invokestatic 114, 3) := by decide +kernel
theorem dX11_mark_68 : decode cX11_mark 68 = .ok (.putfield 120, 3) := by decide +kernel
theorem dX11_mark_71 : decode cX11_mark 71 = .ok (.iconst 1, 1) := by decide +kernel
theorem dX11_mark_72 : decode cX11_mark 72 = .ok (.ireturn, 1) := by decide +kernel
theorem dX11_lives_0 : decode cX11_lives 0 = .ok (.iload_n 1, 1) := by decide +kernel
theorem dX11_lives_1 : decode cX11_lives 1 = .ok (.ifCond .lt 9, 3) := by decide +kernel
theorem dX11_lives_4 : decode cX11_lives 4 = .ok (.iload_n 1, 1) := by decide +kernel
theorem dX11_lives_5 : decode cX11_lives 5 = .ok (.bipush 12, 2) := by decide +kernel
theorem dX11_lives_7 : decode cX11_lives 7 = .ok (.if_icmp .lt 5, 3) := by decide +kernel
theorem dX11_lives_10 : decode cX11_lives 10 = .ok (.iconst 0, 1) := by decide +kernel
theorem dX11_lives_11 : decode cX11_lives 11 = .ok (.ireturn, 1) := by decide +kernel
theorem dX11_lives_12 : decode cX11_lives 12 = .ok (.aload_n 0, 1) := by decide +kernel
theorem dX11_lives_13 : decode cX11_lives 13 = .ok (.getfield 27, 3) := by decide +kernel
theorem dX11_lives_16 : decode cX11_lives 16 = .ok (.aload_n 0, 1) := by decide +kernel
theorem dX11_lives_17 : decode cX11_lives 17 = .ok (.getfield 27, 3) := by decide +kernel
theorem dX11_lives_20 : decode cX11_lives 20 = .ok (.getfield 123, 3) := by decide +kernel
theorem dX11_lives_23 : decode cX11_lives 23 = .ok (.iload_n 1, 1) := by decide +kernel
theorem dX11_lives_24 : decode cX11_lives 24 = .ok (.iload_n 2, 1) := by decide +kernel
theorem dX11_lives_25 : decode cX11_lives 25 = .ok (.invokestatic 114, 3) := by decide +kernel
theorem dX11_lives_28 : decode cX11_lives 28 = .ok (.putfield 123, 3) := by decide +kernel
theorem dX11_lives_31 : decode cX11_lives 31 = .ok (.iconst 1, 1) := by decide +kernel
theorem dX11_lives_32 : decode cX11_lives 32 = .ok (.ireturn, 1) := by decide +kernel
theorem dX11_want_0 : decode cX11_want 0 = .ok (.iload_n 1, 1) := by decide +kernel
theorem dX11_want_1 : decode cX11_want 1 = .ok (.invokestatic 126, 3) := by decide +kernel
theorem dX11_want_4 : decode cX11_want 4 = .ok (.ifCond .eq 14, 3) := by decide +kernel
theorem dX11_want_7 : decode cX11_want 7 = .ok (.aload_n 0, 1) := by decide +kernel
theorem dX11_want_8 : decode cX11_want 8 = .ok (.getfield 27, 3) := by decide +kernel
theorem dX11_want_11 : decode cX11_want 11 = .ok (.iload_n 1, 1) := by decide +kernel
theorem dX11_want_12 : decode cX11_want 12 = .ok (.invokevirtual 129, 3) := by decide +kernel
theorem dX11_want_15 : decode cX11_want 15 = .ok (.goto 4, 3) := by decide +kernel
theorem dX11_want_18 : decode cX11_want 18 = .ok (.iconst (-1), 1) := by decide +kernel
theorem dX11_want_19 : decode cX11_want 19 = .ok (.ireturn, 1) := by decide +kernel
theorem dX11_forget_0 : decode cX11_forget 0 = .ok (.aload_n 0, 1) := by decide +kernel
theorem dX11_forget_1 : decode cX11_forget 1 = .ok (.getfield 27, 3) := by decide +kernel
theorem dX11_forget_4 : decode cX11_forget 4 = .ok (.getfield 132, 3) := by decide +kernel
theorem dX11_forget_7 : decode cX11_forget 7 = .ok (.istore_n 1, 1) := by decide +kernel
theorem dX11_forget_8 : decode cX11_forget 8 = .ok (.aload_n 0, 1) := by decide +kernel
theorem dX11_forget_9 : decode cX11_forget 9 = .ok (.getfield 27, 3) := by decide +kernel
theorem dX11_forget_12 : decode cX11_forget 12 = .ok (.iconst 0, 1) := by decide +kernel
theorem dX11_forget_13 : decode cX11_forget 13 = .ok (.putfield 132, 3) := by decide +kernel
theorem dX11_forget_16 : decode cX11_forget 16 = .ok (.iload_n 1, 1) := by decide +kernel
theorem dX11_forget_17 : decode cX11_forget 17 = .ok (.ireturn, 1) := by decide +kernel
theorem dX11_sheet_0 : decode cX11_sheet 0 = .ok (.iload_n 1, 1) := by decide +kernel
theorem dX11_sheet_1 : decode cX11_sheet 1 = .ok (.ifCond .lt 14, 3) := by decide +kernel
theorem dX11_sheet_4 : decode cX11_sheet 4 = .ok (.iload_n 1, 1) := by decide +kernel
theorem dX11_sheet_5 : decode cX11_sheet 5 = .ok (.iconst 3, 1) := by decide +kernel
theorem dX11_sheet_6 : decode cX11_sheet 6 = .ok (.if_icmp .gt 9, 3) := by decide +kernel
theorem dX11_sheet_9 : decode cX11_sheet 9 = .ok (.iload_n 2, 1) := by decide +kernel
theorem dX11_sheet_10 : decode cX11_sheet 10 = .ok (.bipush 12, 2) := by decide +kernel
theorem dX11_sheet_12 : decode cX11_sheet 12 = .ok (.if_icmp .le 5, 3) := by decide +kernel
theorem dX11_sheet_15 : decode cX11_sheet 15 = .ok (.iconst (-1), 1) := by decide +kernel
theorem dX11_sheet_16 : decode cX11_sheet 16 = .ok (.ireturn, 1) := by decide +kernel
theorem dX11_sheet_17 : decode cX11_sheet 17 = .ok (.iload_n 1, 1) := by decide +kernel
theorem dX11_sheet_18 : decode cX11_sheet 18 = .ok (.iconst 3, 1) := by decide +kernel
theorem dX11_sheet_19 : decode cX11_sheet 19 = .ok (.if_icmp .ne 14, 3) := by decide +kernel
theorem dX11_sheet_22 : decode cX11_sheet 22 = .ok (.aload_n 0, 1) := by decide +kernel
theorem dX11_sheet_23 : decode cX11_sheet 23 = .ok (.getfield 27, 3) := by decide +kernel
theorem dX11_sheet_26 : decode cX11_sheet 26 = .ok (.iconst 0, 1) := by decide +kernel
theorem dX11_sheet_27 : decode cX11_sheet 27 = .ok (.putfield 123, 3) := by decide +kernel
theorem dX11_sheet_30 : decode cX11_sheet 30 = .ok (.bipush (-3), 2) := by decide +kernel
theorem dX11_sheet_32 : decode cX11_sheet 32 = .ok (.ireturn, 1) := by decide +kernel
theorem dX11_sheet_33 : decode cX11_sheet 33 = .ok (.iload_n 2, 1) := by decide +kernel
theorem dX11_sheet_34 : decode cX11_sheet 34 = .ok (.ifCond .ge 6, 3) := by decide +kernel
theorem dX11_sheet_37 : decode cX11_sheet 37 = .ok (.bipush (-2), 2) := by decide +kernel
theorem dX11_sheet_39 : decode cX11_sheet 39 = .ok (.ireturn, 1) := by decide +kernel
theorem dX11_sheet_40 : decode cX11_sheet 40 = .ok (.aload_n 0, 1) := by decide +kernel
theorem dX11_sheet_41 : decode cX11_sheet 41 = .ok (.getfield 27, 3) := by decide +kernel
theorem dX11_sheet_44 : decode cX11_sheet 44 = .ok (.iload_n 1, 1) := by decide +kernel
theorem dX11_sheet_45 : decode cX11_sheet 45 = .ok (.iload_n 2, 1) := by decide +kernel
theorem dX11_sheet_46 : decode cX11_sheet 46 = .ok (.iload_n 3, 1) := by decide +kernel
theorem dX11_sheet_47 : decode cX11_sheet 47 = .ok (.iload 4, 2) := by decide +kernel
theorem dX11_sheet_49 : decode cX11_sheet 49 = .ok (.invokestatic 135, 3) := by decide +kernel
theorem dX11_sheet_52 : decode cX11_sheet 52 = .ok (.putfield 123, 3) := by decide +kernel
theorem dX11_sheet_55 : decode cX11_sheet 55 = .ok (.aload_n 0, 1) := by decide +kernel
theorem dX11_sheet_56 : decode cX11_sheet 56 = .ok (.getfield 27, 3) := by decide +kernel
theorem dX11_sheet_59 : decode cX11_sheet 59 = .ok (.getfield 123, 3) := by decide +kernel
theorem dX11_sheet_62 : decode cX11_sheet 62 = .ok (.invokestatic 139, 3) := by decide +kernel
theorem dX11_sheet_65 : decode cX11_sheet 65 = .ok (.ireturn, 1) := by decide +kernel
theorem dX11_holds_0 : decode cX11_holds 0 = .ok (.aload_n 0, 1) := by decide +kernel
theorem dX11_holds_1 : decode cX11_holds 1 = .ok (.getfield 31, 3) := by decide +kernel
theorem dX11_holds_4 : decode cX11_holds 4 = .ok (.aload_n 0, 1) := by decide +kernel
theorem dX11_holds_5 : decode cX11_holds 5 = .ok (.getfield 27, 3) := by decide +kernel
theorem dX11_holds_8 : decode cX11_holds 8 = .ok (.invokevirtual 144, 3) := by decide +kernel
theorem dX11_holds_11 : decode cX11_holds 11 = .ok (.invokevirtual 148, 3) := by decide +kernel
theorem dX11_holds_14 : decode cX11_holds 14 = .ok (.ifCond .eq 7, 3) := by decide +kernel
theorem dX11_holds_17 : decode cX11_holds 17 = .ok (.iconst 1, 1) := by decide +kernel
theorem dX11_holds_18 : decode cX11_holds 18 = .ok (.goto 4, 3) := by decide +kernel
theorem dX11_holds_21 : decode cX11_holds 21 = .ok (.iconst 0, 1) := by decide +kernel
theorem dX11_holds_22 : decode cX11_holds 22 = .ok (.ireturn, 1) := by decide +kernel
theorem dX11_follows_0 : decode cX11_follows 0 = .ok (.iload_n 1, 1) := by decide +kernel
theorem dX11_follows_1 : decode cX11_follows 1 = .ok (.invokestatic 126, 3) := by decide +kernel
theorem dX11_follows_4 : decode cX11_follows 4 = .ok (.ifCond .ne 5, 3) := by decide +kernel
theorem dX11_follows_7 : decode cX11_follows 7 = .ok (.iconst (-1), 1) := by decide +kernel
theorem dX11_follows_8 : decode cX11_follows 8 = .ok (.ireturn, 1) := by decide +kernel
theorem dX11_follows_9 : decode cX11_follows 9 = .ok (.aload_n 0, 1) := by decide +kernel
theorem dX11_follows_10 : decode cX11_follows 10 = .ok (.getfield 27, 3) := by decide +kernel
theorem dX11_follows_13 : decode cX11_follows 13 = .ok (.invokevirtual 144, 3) := by decide +kernel
theorem dX11_follows_16 : decode cX11_follows 16 = .ok (.istore_n 2, 1) := by decide +kernel
theorem dX11_follows_17 : decode cX11_follows 17 = .ok (.aload_n 0, 1) := by decide +kernel
theorem dX11_follows_18 : decode cX11_follows 18 = .ok (.getfield 31, 3) := by decide +kernel
theorem dX11_follows_21 : decode cX11_follows 21 = .ok (.iload_n 2, 1) := by decide +kernel
theorem dX11_follows_22 : decode cX11_follows 22 = .ok (.aload_n 0, 1) := by decide +kernel
theorem dX11_follows_23 : decode cX11_follows 23 = .ok (.getfield 27, 3) := by decide +kernel
theorem dX11_follows_26 : decode cX11_follows 26 = .ok (.getfield 111, 3) := by decide +kernel
theorem dX11_follows_29 : decode cX11_follows 29 = .ok (.iconst (-1), 1) := by decide +kernel
theorem dX11_follows_30 : decode cX11_follows 30 = .ok (.ixor, 1) := by decide +kernel
theorem dX11_follows_31 : decode cX11_follows 31 = .ok (.iand, 1) := by decide +kernel
theorem dX11_follows_32 : decode cX11_follows 32 = .ok (.iload_n 1, 1) := by decide +kernel
theorem dX11_follows_33 : decode cX11_follows 33 = .ok (.invokevirtual 151, 3) := by decide +kernel
theorem dX11_follows_36 : decode cX11_follows 36 = .ok (.ifCond .eq 5, 3) := by decide +kernel
theorem dX11_follows_39 : decode cX11_follows 39 = .ok (.iconst 2, 1) := by decide +kernel
theorem dX11_follows_40 : decode cX11_follows 40 = .ok (.ireturn, 1) := by decide +kernel
theorem dX11_follows_41 : decode cX11_follows 41 = .ok (.aload_n 0, 1) := by decide +kernel
theorem dX11_follows_42 : decode cX11_follows 42 = .ok (.getfield 31, 3) := by decide +kernel
theorem dX11_follows_45 : decode cX11_follows 45 = .ok (.iload_n 2, 1) := by decide +kernel
theorem dX11_follows_46 : decode cX11_follows 46 = .ok (.iload_n 1, 1) := by decide +kernel
theorem dX11_follows_47 : decode cX11_follows 47 = .ok (.invokevirtual 151, 3) := by decide +kernel
theorem dX11_follows_50 : decode cX11_follows 50 = .ok (.ifCond .eq 7, 3) := by decide +kernel
theorem dX11_follows_53 : decode cX11_follows 53 = .ok (.iconst 1, 1) := by decide +kernel
theorem dX11_follows_54 : decode cX11_follows 54 = .ok (.goto 4, 3) := by decide +kernel
theorem dX11_follows_57 : decode cX11_follows 57 = .ok (.iconst 0, 1) := by decide +kernel
theorem dX11_follows_58 : decode cX11_follows 58 = .ok (.ireturn, 1) := by decide +kernel
theorem dX11_decided_0 : decode cX11_decided 0 = .ok (.iload_n 1, 1) := by decide +kernel
theorem dX11_decided_1 : decode cX11_decided 1 = .ok (.invokestatic 126, 3) := by decide +kernel
theorem dX11_decided_4 : decode cX11_decided 4 = .ok (.ifCond .ne 5, 3) := by decide +kernel
theorem dX11_decided_7 : decode cX11_decided 7 = .ok (.iconst (-1), 1) := by decide +kernel
theorem dX11_decided_8 : decode cX11_decided 8 = .ok (.ireturn, 1) := by decide +kernel
theorem dX11_decided_9 : decode cX11_decided 9 = .ok (.aload_n 0, 1) := by decide +kernel
theorem dX11_decided_10 : decode cX11_decided 10 = .ok (.getfield 27, 3) := by decide +kernel
theorem dX11_decided_13 : decode cX11_decided 13 = .ok (.invokevirtual 144, 3) := by decide +kernel
theorem dX11_decided_16 : decode cX11_decided 16 = .ok (.istore_n 2, 1) := by decide +kernel
theorem dX11_decided_17 : decode cX11_decided 17 = .ok (.aload_n 0, 1) := by decide +kernel
theorem dX11_decided_18 : decode cX11_decided 18 = .ok (.getfield 31, 3) := by decide +kernel
theorem dX11_decided_21 : decode cX11_decided 21 = .ok (.iload_n 2, 1) := by decide +kernel
theorem dX11_decided_22 : decode cX11_decided 22 = .ok (.iload_n 1, 1) := by decide +kernel
theorem dX11_decided_23 : decode cX11_decided 23 = .ok (.invokevirtual 151, 3) := by decide +kernel
theorem dX11_decided_26 : decode cX11_decided 26 = .ok (.ifCond .eq 7, 3) := by decide +kernel
theorem dX11_decided_29 : decode cX11_decided 29 = .ok (.iconst 1, 1) := by decide +kernel
theorem dX11_decided_30 : decode cX11_decided 30 = .ok (.goto 4, 3) := by decide +kernel
theorem dX11_decided_33 : decode cX11_decided 33 = .ok (.iconst 0, 1) := by decide +kernel
theorem dX11_decided_34 : decode cX11_decided 34 = .ok (.istore_n 3, 1) := by decide +kernel
theorem dX11_decided_35 : decode cX11_decided 35 = .ok (.aload_n 0, 1) := by decide +kernel
theorem dX11_decided_36 : decode cX11_decided 36 = .ok (.getfield 31, 3) := by decide +kernel
theorem dX11_decided_39 : decode cX11_decided 39 = .ok (.iload_n 2, 1) := by decide +kernel
theorem dX11_decided_40 : decode cX11_decided 40 = .ok (.iload_n 1, 1) := by decide +kernel
theorem dX11_decided_41 : decode cX11_decided 41 = .ok (.invokestatic 155, 3) := by decide +kernel
theorem dX11_decided_44 : decode cX11_decided 44 = .ok (.invokevirtual 151, 3) := by decide +kernel
theorem dX11_decided_47 : decode cX11_decided 47 = .ok (.ifCond .eq 9, 3) := by decide +kernel
theorem dX11_decided_50 : decode cX11_decided 50 = .ok (.iload_n 3, 1) := by decide +kernel
theorem dX11_decided_51 : decode cX11_decided 51 = .ok (.iconst 2, 1) := by decide +kernel
theorem dX11_decided_52 : decode cX11_decided 52 = .ok (.iadd, 1) := by decide +kernel
theorem dX11_decided_53 : decode cX11_decided 53 = .ok (.goto 4, 3) := by decide +kernel
theorem dX11_decided_56 : decode cX11_decided 56 = .ok (.iload_n 3, 1) := by decide +kernel
theorem dX11_decided_57 : decode cX11_decided 57 = .ok (.ireturn, 1) := by decide +kernel
theorem dX11_from_0 : decode cX11_from 0 = .ok (.iload_n 2, 1) := by decide +kernel
theorem dX11_from_1 : decode cX11_from 1 = .ok (.invokestatic 126, 3) := by decide +kernel
theorem dX11_from_4 : decode cX11_from 4 = .ok (.ifCond .eq 17, 3) := by decide +kernel
theorem dX11_from_7 : decode cX11_from 7 = .ok (.iload_n 1, 1) := by decide +kernel
theorem dX11_from_8 : decode cX11_from 8 = .ok (.aload_n 0, 1) := by decide +kernel
theorem dX11_from_9 : decode cX11_from 9 = .ok (.getfield 27, 3) := by decide +kernel
theorem dX11_from_12 : decode cX11_from 12 = .ok (.invokevirtual 158, 3) := by decide +kernel
theorem dX11_from_15 : decode cX11_from 15 = .ok (.iconst (-1), 1) := by decide +kernel
theorem dX11_from_16 : decode cX11_from 16 = .ok (.ixor, 1) := by decide +kernel
theorem dX11_from_17 : decode cX11_from 17 = .ok (.iand, 1) := by decide +kernel
theorem dX11_from_18 : decode cX11_from 18 = .ok (.ifCond .eq 5, 3) := by decide +kernel
theorem dX11_from_21 : decode cX11_from 21 = .ok (.iconst (-1), 1) := by decide +kernel
theorem dX11_from_22 : decode cX11_from 22 = .ok (.ireturn, 1) := by decide +kernel
theorem dX11_from_23 : decode cX11_from 23 = .ok (.aload_n 0, 1) := by decide +kernel
theorem dX11_from_24 : decode cX11_from 24 = .ok (.getfield 31, 3) := by decide +kernel
theorem dX11_from_27 : decode cX11_from 27 = .ok (.iload_n 1, 1) := by decide +kernel
theorem dX11_from_28 : decode cX11_from 28 = .ok (.iload_n 2, 1) := by decide +kernel
theorem dX11_from_29 : decode cX11_from 29 = .ok (.invokevirtual 151, 3) := by decide +kernel
theorem dX11_from_32 : decode cX11_from 32 = .ok (.ifCond .eq 7, 3) := by decide +kernel
theorem dX11_from_35 : decode cX11_from 35 = .ok (.iconst 1, 1) := by decide +kernel
theorem dX11_from_36 : decode cX11_from 36 = .ok (.goto 4, 3) := by decide +kernel
theorem dX11_from_39 : decode cX11_from 39 = .ok (.iconst 0, 1) := by decide +kernel
theorem dX11_from_40 : decode cX11_from 40 = .ok (.ireturn, 1) := by decide +kernel
theorem dX11_needs_0 : decode cX11_needs 0 = .ok (.iload_n 1, 1) := by decide +kernel
theorem dX11_needs_1 : decode cX11_needs 1 = .ok (.invokestatic 126, 3) := by decide +kernel
theorem dX11_needs_4 : decode cX11_needs 4 = .ok (.ifCond .ne 5, 3) := by decide +kernel
theorem dX11_needs_7 : decode cX11_needs 7 = .ok (.iconst (-1), 1) := by decide +kernel
theorem dX11_needs_8 : decode cX11_needs 8 = .ok (.ireturn, 1) := by decide +kernel
theorem dX11_needs_9 : decode cX11_needs 9 = .ok (.aload_n 0, 1) := by decide +kernel
theorem dX11_needs_10 : decode cX11_needs 10 = .ok (.getfield 31, 3) := by decide +kernel
theorem dX11_needs_13 : decode cX11_needs 13 = .ok (.aload_n 0, 1) := by decide +kernel
theorem dX11_needs_14 : decode cX11_needs 14 = .ok (.getfield 27, 3) := by decide +kernel
theorem dX11_needs_17 : decode cX11_needs 17 = .ok (.invokevirtual 144, 3) := by decide +kernel
theorem dX11_needs_20 : decode cX11_needs 20 = .ok (.iload_n 1, 1) := by decide +kernel
theorem dX11_needs_21 : decode cX11_needs 21 = .ok (.invokevirtual 151, 3) := by decide +kernel
theorem dX11_needs_24 : decode cX11_needs 24 = .ok (.ifCond .eq 14, 3) := by decide +kernel
theorem dX11_needs_27 : decode cX11_needs 27 = .ok (.aload_n 0, 1) := by decide +kernel
theorem dX11_needs_28 : decode cX11_needs 28 = .ok (.getfield 31, 3) := by decide +kernel
theorem dX11_needs_31 : decode cX11_needs 31 = .ok (.iload_n 1, 1) := by decide +kernel
theorem dX11_needs_32 : decode cX11_needs 32 = .ok (.invokevirtual 161, 3) := by decide +kernel
theorem dX11_needs_35 : decode cX11_needs 35 = .ok (.goto 5, 3) := by decide +kernel
theorem dX11_needs_38 : decode cX11_needs 38 = .ok (.bipush (-2), 2) := by decide +kernel
theorem dX11_needs_40 : decode cX11_needs 40 = .ok (.ireturn, 1) := by decide +kernel
theorem dX11_fewest_0 : decode cX11_fewest 0 = .ok (.aload_n 0, 1) := by decide +kernel
theorem dX11_fewest_1 : decode cX11_fewest 1 = .ok (.aload_n 0, 1) := by decide +kernel
theorem dX11_fewest_2 : decode cX11_fewest 2 = .ok (.getfield 40, 3) := by decide +kernel
theorem dX11_fewest_5 : decode cX11_fewest 5 = .ok (.iconst 0, 1) := by decide +kernel
theorem dX11_fewest_6 : decode cX11_fewest 6 = .ok (.iconst (-1), 1) := by decide +kernel
theorem dX11_fewest_7 : decode cX11_fewest 7 = .ok (.aload_n 0, 1) := by decide +kernel
theorem dX11_fewest_8 : decode cX11_fewest 8 = .ok (.getfield 27, 3) := by decide +kernel
theorem dX11_fewest_11 : decode cX11_fewest 11 = .ok (.invokevirtual 144, 3) := by decide +kernel
theorem dX11_fewest_14 : decode cX11_fewest 14 = .ok (.iconst 0, 1) := by decide +kernel
theorem dX11_fewest_15 : decode cX11_fewest 15 = .ok (.invokevirtual 164, 3) := by decide +kernel
theorem dX11_fewest_18 : decode cX11_fewest 18 = .ok (.invokevirtual 167, 3) := by decide +kernel
theorem dX11_fewest_21 : decode cX11_fewest 21 = .ok (.ireturn, 1) := by decide +kernel
theorem dX11_idle_0 : decode cX11_idle 0 = .ok (.aload_n 0, 1) := by decide +kernel
theorem dX11_idle_1 : decode cX11_idle 1 = .ok (.getfield 31, 3) := by decide +kernel
theorem dX11_idle_4 : decode cX11_idle 4 = .ok (.invokevirtual 170, 3) := by decide +kernel
theorem dX11_idle_7 : decode cX11_idle 7 = .ok (.ireturn, 1) := by decide +kernel
theorem dX11_alike_0 : decode cX11_alike 0 = .ok (.iload_n 1, 1) := by decide +kernel
theorem dX11_alike_1 : decode cX11_alike 1 = .ok (.invokestatic 126, 3) := by decide +kernel
theorem dX11_alike_4 : decode cX11_alike 4 = .ok (.ifCond .eq 10, 3) := by decide +kernel
theorem dX11_alike_7 : decode cX11_alike 7 = .ok (.iload_n 2, 1) := by decide +kernel
theorem dX11_alike_8 : decode cX11_alike 8 = .ok (.invokestatic 126, 3) := by decide +kernel
theorem dX11_alike_11 : decode cX11_alike 11 = .ok (.ifCond .ne 5, 3) := by decide +kernel
theorem dX11_alike_14 : decode cX11_alike 14 = .ok (.iconst (-1), 1) := by decide +kernel
theorem dX11_alike_15 : decode cX11_alike 15 = .ok (.ireturn, 1) := by decide +kernel
theorem dX11_alike_16 : decode cX11_alike 16 = .ok (.aload_n 0, 1) := by decide +kernel
theorem dX11_alike_17 : decode cX11_alike 17 = .ok (.getfield 31, 3) := by decide +kernel
theorem dX11_alike_20 : decode cX11_alike 20 = .ok (.iload_n 1, 1) := by decide +kernel
theorem dX11_alike_21 : decode cX11_alike 21 = .ok (.iload_n 2, 1) := by decide +kernel
theorem dX11_alike_22 : decode cX11_alike 22 = .ok (.invokevirtual 173, 3) := by decide +kernel
theorem dX11_alike_25 : decode cX11_alike 25 = .ok (.istore_n 3, 1) := by decide +kernel
theorem dX11_alike_26 : decode cX11_alike 26 = .ok (.aload_n 0, 1) := by decide +kernel
theorem dX11_alike_27 : decode cX11_alike 27 = .ok (.getfield 31, 3) := by decide +kernel
theorem dX11_alike_30 : decode cX11_alike 30 = .ok (.iload_n 2, 1) := by decide +kernel
theorem dX11_alike_31 : decode cX11_alike 31 = .ok (.iload_n 1, 1) := by decide +kernel
theorem dX11_alike_32 : decode cX11_alike 32 = .ok (.invokevirtual 173, 3) := by decide +kernel
theorem dX11_alike_35 : decode cX11_alike 35 = .ok (.istore 4, 2) := by decide +kernel
theorem dX11_alike_37 : decode cX11_alike 37 = .ok (.iload_n 3, 1) := by decide +kernel
theorem dX11_alike_38 : decode cX11_alike 38 = .ok (.ifCond .eq 10, 3) := by decide +kernel
theorem dX11_alike_41 : decode cX11_alike 41 = .ok (.iload 4, 2) := by decide +kernel
theorem dX11_alike_43 : decode cX11_alike 43 = .ok (.ifCond .eq 5, 3) := by decide +kernel
theorem dX11_alike_46 : decode cX11_alike 46 = .ok (.iconst 1, 1) := by decide +kernel
theorem dX11_alike_47 : decode cX11_alike 47 = .ok (.ireturn, 1) := by decide +kernel
theorem dX11_alike_48 : decode cX11_alike 48 = .ok (.iload_n 3, 1) := by decide +kernel
theorem dX11_alike_49 : decode cX11_alike 49 = .ok (.ifCond .eq 7, 3) := by decide +kernel
theorem dX11_alike_52 : decode cX11_alike 52 = .ok (.iconst 2, 1) := by decide +kernel
theorem dX11_alike_53 : decode cX11_alike 53 = .ok (.goto 13, 3) := by decide +kernel
theorem dX11_alike_56 : decode cX11_alike 56 = .ok (.iload 4, 2) := by decide +kernel
theorem dX11_alike_58 : decode cX11_alike 58 = .ok (.ifCond .eq 7, 3) := by decide +kernel
theorem dX11_alike_61 : decode cX11_alike 61 = .ok (.iconst 3, 1) := by decide +kernel
theorem dX11_alike_62 : decode cX11_alike 62 = .ok (.goto 4, 3) := by decide +kernel
theorem dX11_alike_65 : decode cX11_alike 65 = .ok (.iconst 0, 1) := by decide +kernel
theorem dX11_alike_66 : decode cX11_alike 66 = .ok (.ireturn, 1) := by decide +kernel
theorem dX11_clash_0 : decode cX11_clash 0 = .ok (.aload_n 0, 1) := by decide +kernel
theorem dX11_clash_1 : decode cX11_clash 1 = .ok (.aload_n 0, 1) := by decide +kernel
theorem dX11_clash_2 : decode cX11_clash 2 = .ok (.getfield 40, 3) := by decide +kernel
theorem dX11_clash_5 : decode cX11_clash 5 = .ok (.iconst 1, 1) := by decide +kernel
theorem dX11_clash_6 : decode cX11_clash 6 = .ok (.iconst (-1), 1) := by decide +kernel
theorem dX11_clash_7 : decode cX11_clash 7 = .ok (.aload_n 0, 1) := by decide +kernel
theorem dX11_clash_8 : decode cX11_clash 8 = .ok (.getfield 27, 3) := by decide +kernel
theorem dX11_clash_11 : decode cX11_clash 11 = .ok (.invokevirtual 144, 3) := by decide +kernel
theorem dX11_clash_14 : decode cX11_clash 14 = .ok (.aload_n 0, 1) := by decide +kernel
theorem dX11_clash_15 : decode cX11_clash 15 = .ok (.getfield 27, 3) := by decide +kernel
theorem dX11_clash_18 : decode cX11_clash 18 = .ok (.getfield 111, 3) := by decide +kernel
theorem dX11_clash_21 : decode cX11_clash 21 = .ok (.iconst (-1), 1) := by decide +kernel
theorem dX11_clash_22 : decode cX11_clash 22 = .ok (.ixor, 1) := by decide +kernel
theorem dX11_clash_23 : decode cX11_clash 23 = .ok (.invokevirtual 164, 3) := by decide +kernel
theorem dX11_clash_26 : decode cX11_clash 26 = .ok (.invokevirtual 167, 3) := by decide +kernel
theorem dX11_clash_29 : decode cX11_clash 29 = .ok (.ireturn, 1) := by decide +kernel
theorem dX11_liars_0 : decode cX11_liars 0 = .ok (.aload_n 0, 1) := by decide +kernel
theorem dX11_liars_1 : decode cX11_liars 1 = .ok (.aload_n 0, 1) := by decide +kernel
theorem dX11_liars_2 : decode cX11_liars 2 = .ok (.getfield 40, 3) := by decide +kernel
theorem dX11_liars_5 : decode cX11_liars 5 = .ok (.iconst 2, 1) := by decide +kernel
theorem dX11_liars_6 : decode cX11_liars 6 = .ok (.iconst (-1), 1) := by decide +kernel
theorem dX11_liars_7 : decode cX11_liars 7 = .ok (.sipush 255, 3) := by decide +kernel
theorem dX11_liars_10 : decode cX11_liars 10 = .ok (.iconst 0, 1) := by decide +kernel
theorem dX11_liars_11 : decode cX11_liars 11 = .ok (.invokevirtual 164, 3) := by decide +kernel
theorem dX11_liars_14 : decode cX11_liars 14 = .ok (.invokevirtual 167, 3) := by decide +kernel
theorem dX11_liars_17 : decode cX11_liars 17 = .ok (.ireturn, 1) := by decide +kernel
theorem dX11_truth_0 : decode cX11_truth 0 = .ok (.iload_n 1, 1) := by decide +kernel
theorem dX11_truth_1 : decode cX11_truth 1 = .ok (.ifCond .lt 9, 3) := by decide +kernel
theorem dX11_truth_4 : decode cX11_truth 4 = .ok (.iload_n 1, 1) := by decide +kernel
theorem dX11_truth_5 : decode cX11_truth 5 = .ok (.bipush 8, 2) := by decide +kernel
theorem dX11_truth_7 : decode cX11_truth 7 = .ok (.if_icmp .lt 5, 3) := by decide +kernel
theorem dX11_truth_10 : decode cX11_truth 10 = .ok (.iconst (-1), 1) := by decide +kernel
theorem dX11_truth_11 : decode cX11_truth 11 = .ok (.ireturn, 1) := by decide +kernel
theorem dX11_truth_12 : decode cX11_truth 12 = .ok (.aload_n 0, 1) := by decide +kernel
theorem dX11_truth_13 : decode cX11_truth 13 = .ok (.getfield 27, 3) := by decide +kernel
theorem dX11_truth_16 : decode cX11_truth 16 = .ok (.iconst 1, 1) := by decide +kernel
theorem dX11_truth_17 : decode cX11_truth 17 = .ok (.iload_n 1, 1) := by decide +kernel
theorem dX11_truth_18 : decode cX11_truth 18 = .ok (.ishl, 1) := by decide +kernel
theorem dX11_truth_19 : decode cX11_truth 19 = .ok (.invokevirtual 176, 3) := by decide +kernel
theorem dX11_truth_22 : decode cX11_truth 22 = .ok (.istore_n 2, 1) := by decide +kernel
theorem dX11_truth_23 : decode cX11_truth 23 = .ok (.aload_n 0, 1) := by decide +kernel
theorem dX11_truth_24 : decode cX11_truth 24 = .ok (.getfield 27, 3) := by decide +kernel
theorem dX11_truth_27 : decode cX11_truth 27 = .ok (.invokevirtual 144, 3) := by decide +kernel
theorem dX11_truth_30 : decode cX11_truth 30 = .ok (.iload_n 2, 1) := by decide +kernel
theorem dX11_truth_31 : decode cX11_truth 31 = .ok (.iconst (-1), 1) := by decide +kernel
theorem dX11_truth_32 : decode cX11_truth 32 = .ok (.ixor, 1) := by decide +kernel
theorem dX11_truth_33 : decode cX11_truth 33 = .ok (.iand, 1) := by decide +kernel
theorem dX11_truth_34 : decode cX11_truth 34 = .ok (.istore_n 3, 1) := by decide +kernel
theorem dX11_truth_35 : decode cX11_truth 35 = .ok (.aload_n 0, 1) := by decide +kernel
theorem dX11_truth_36 : decode cX11_truth 36 = .ok (.aload_n 0, 1) := by decide +kernel
theorem dX11_truth_37 : decode cX11_truth 37 = .ok (.getfield 31, 3) := by decide +kernel
theorem dX11_truth_40 : decode cX11_truth 40 = .ok (.iload_n 3, 1) := by decide +kernel
theorem dX11_truth_41 : decode cX11_truth 41 = .ok (.iload_n 2, 1) := by decide +kernel
theorem dX11_truth_42 : decode cX11_truth 42 = .ok (.iconst 1, 1) := by decide +kernel
theorem dX11_truth_43 : decode cX11_truth 43 = .ok (.invokevirtual 179, 3) := by decide +kernel
theorem dX11_truth_46 : decode cX11_truth 46 = .ok (.invokevirtual 182, 3) := by decide +kernel
theorem dX11_truth_49 : decode cX11_truth 49 = .ok (.aload_n 0, 1) := by decide +kernel
theorem dX11_truth_50 : decode cX11_truth 50 = .ok (.getfield 31, 3) := by decide +kernel
theorem dX11_truth_53 : decode cX11_truth 53 = .ok (.iload_n 3, 1) := by decide +kernel
theorem dX11_truth_54 : decode cX11_truth 54 = .ok (.iload_n 2, 1) := by decide +kernel
theorem dX11_truth_55 : decode cX11_truth 55 = .ok (.iconst 0, 1) := by decide +kernel
theorem dX11_truth_56 : decode cX11_truth 56 = .ok (.invokevirtual 179, 3) := by decide +kernel
theorem dX11_truth_59 : decode cX11_truth 59 = .ok (.ireturn, 1) := by decide +kernel
theorem dX11_trusts_0 : decode cX11_trusts 0 = .ok (.iload_n 1, 1) := by decide +kernel
theorem dX11_trusts_1 : decode cX11_trusts 1 = .ok (.ifCond .lt 17, 3) := by decide +kernel
theorem dX11_trusts_4 : decode cX11_trusts 4 = .ok (.iload_n 1, 1) := by decide +kernel
theorem dX11_trusts_5 : decode cX11_trusts 5 = .ok (.sipush 255, 3) := by decide +kernel
theorem dX11_trusts_8 : decode cX11_trusts 8 = .ok (.if_icmp .gt 10, 3) := by decide +kernel
theorem dX11_trusts_11 : decode cX11_trusts 11 = .ok (.iload_n 2, 1) := by decide +kernel
theorem dX11_trusts_12 : decode cX11_trusts 12 = .ok (.invokestatic 126, 3) := by decide +kernel
theorem dX11_trusts_15 : decode cX11_trusts 15 = .ok (.ifCond .ne 5, 3) := by decide +kernel
theorem dX11_trusts_18 : decode cX11_trusts 18 = .ok (.iconst (-1), 1) := by decide +kernel
theorem dX11_trusts_19 : decode cX11_trusts 19 = .ok (.ireturn, 1) := by decide +kernel
theorem dX11_trusts_20 : decode cX11_trusts 20 = .ok (.aload_n 0, 1) := by decide +kernel
theorem dX11_trusts_21 : decode cX11_trusts 21 = .ok (.getfield 31, 3) := by decide +kernel
theorem dX11_trusts_24 : decode cX11_trusts 24 = .ok (.aload_n 0, 1) := by decide +kernel
theorem dX11_trusts_25 : decode cX11_trusts 25 = .ok (.getfield 27, 3) := by decide +kernel
theorem dX11_trusts_28 : decode cX11_trusts 28 = .ok (.iload_n 1, 1) := by decide +kernel
theorem dX11_trusts_29 : decode cX11_trusts 29 = .ok (.invokevirtual 176, 3) := by decide +kernel
theorem dX11_trusts_32 : decode cX11_trusts 32 = .ok (.iload_n 2, 1) := by decide +kernel
theorem dX11_trusts_33 : decode cX11_trusts 33 = .ok (.invokevirtual 151, 3) := by decide +kernel
theorem dX11_trusts_36 : decode cX11_trusts 36 = .ok (.ifCond .eq 7, 3) := by decide +kernel
theorem dX11_trusts_39 : decode cX11_trusts 39 = .ok (.iconst 1, 1) := by decide +kernel
theorem dX11_trusts_40 : decode cX11_trusts 40 = .ok (.goto 4, 3) := by decide +kernel
theorem dX11_trusts_43 : decode cX11_trusts 43 = .ok (.iconst 0, 1) := by decide +kernel
theorem dX11_trusts_44 : decode cX11_trusts 44 = .ok (.ireturn, 1) := by decide +kernel
theorem dX11_convicts_0 : decode cX11_convicts 0 = .ok (.iload_n 1, 1) := by decide +kernel
theorem dX11_convicts_1 : decode cX11_convicts 1 = .ok (.invokestatic 126, 3) := by decide +kernel
theorem dX11_convicts_4 : decode cX11_convicts 4 = .ok (.ifCond .ne 5, 3) := by decide +kernel
theorem dX11_convicts_7 : decode cX11_convicts 7 = .ok (.iconst (-1), 1) := by decide +kernel
theorem dX11_convicts_8 : decode cX11_convicts 8 = .ok (.ireturn, 1) := by decide +kernel
theorem dX11_convicts_9 : decode cX11_convicts 9 = .ok (.aload_n 0, 1) := by decide +kernel
theorem dX11_convicts_10 : decode cX11_convicts 10 = .ok (.aload_n 0, 1) := by decide +kernel
theorem dX11_convicts_11 : decode cX11_convicts 11 = .ok (.getfield 40, 3) := by decide +kernel
theorem dX11_convicts_14 : decode cX11_convicts 14 = .ok (.iconst 3, 1) := by decide +kernel
theorem dX11_convicts_15 : decode cX11_convicts 15 = .ok (.iload_n 1, 1) := by decide +kernel
theorem dX11_convicts_16 : decode cX11_convicts 16 = .ok (.sipush 255, 3) := by decide +kernel
theorem dX11_convicts_19 : decode cX11_convicts 19 = .ok (.iconst 0, 1) := by decide +kernel
theorem dX11_convicts_20 : decode cX11_convicts 20 = .ok (.invokevirtual 164, 3) := by decide +kernel
theorem dX11_convicts_23 : decode cX11_convicts 23 = .ok (.invokevirtual 167, 3) := by decide +kernel
theorem dX11_convicts_26 : decode cX11_convicts 26 = .ok (.ireturn, 1) := by decide +kernel
theorem dX11_all_0 : decode cX11_all 0 = .ok (.iload_n 1, 1) := by decide +kernel
theorem dX11_all_1 : decode cX11_all 1 = .ok (.invokestatic 186, 3) := by decide +kernel
theorem dX11_all_4 : decode cX11_all 4 = .ok (.ifCond .eq 14, 3) := by decide +kernel
theorem dX11_all_7 : decode cX11_all 7 = .ok (.aload_n 0, 1) := by decide +kernel
theorem dX11_all_8 : decode cX11_all 8 = .ok (.getfield 31, 3) := by decide +kernel
theorem dX11_all_11 : decode cX11_all 11 = .ok (.iload_n 1, 1) := by decide +kernel
theorem dX11_all_12 : decode cX11_all 12 = .ok (.invokevirtual 189, 3) := by decide +kernel
theorem dX11_all_15 : decode cX11_all 15 = .ok (.goto 4, 3) := by decide +kernel
theorem dX11_all_18 : decode cX11_all 18 = .ok (.iconst (-1), 1) := by decide +kernel
theorem dX11_all_19 : decode cX11_all 19 = .ok (.ireturn, 1) := by decide +kernel
theorem dX11_empty_0 : decode cX11_empty 0 = .ok (.aload_n 0, 1) := by decide +kernel
theorem dX11_empty_1 : decode cX11_empty 1 = .ok (.getfield 31, 3) := by decide +kernel
theorem dX11_empty_4 : decode cX11_empty 4 = .ok (.invokevirtual 192, 3) := by decide +kernel
theorem dX11_empty_7 : decode cX11_empty 7 = .ok (.ireturn, 1) := by decide +kernel
theorem dX11_chain_0 : decode cX11_chain 0 = .ok (.iload_n 1, 1) := by decide +kernel
theorem dX11_chain_1 : decode cX11_chain 1 = .ok (.invokestatic 186, 3) := by decide +kernel
theorem dX11_chain_4 : decode cX11_chain 4 = .ok (.ifCond .eq 10, 3) := by decide +kernel
theorem dX11_chain_7 : decode cX11_chain 7 = .ok (.iload_n 2, 1) := by decide +kernel
theorem dX11_chain_8 : decode cX11_chain 8 = .ok (.invokestatic 186, 3) := by decide +kernel
theorem dX11_chain_11 : decode cX11_chain 11 = .ok (.ifCond .ne 5, 3) := by decide +kernel
theorem dX11_chain_14 : decode cX11_chain 14 = .ok (.iconst (-1), 1) := by decide +kernel
theorem dX11_chain_15 : decode cX11_chain 15 = .ok (.ireturn, 1) := by decide +kernel
theorem dX11_chain_16 : decode cX11_chain 16 = .ok (.aload_n 0, 1) := by decide +kernel
theorem dX11_chain_17 : decode cX11_chain 17 = .ok (.getfield 31, 3) := by decide +kernel
theorem dX11_chain_20 : decode cX11_chain 20 = .ok (.iload_n 1, 1) := by decide +kernel
theorem dX11_chain_21 : decode cX11_chain 21 = .ok (.iload_n 2, 1) := by decide +kernel
theorem dX11_chain_22 : decode cX11_chain 22 = .ok (.aload_n 0, 1) := by decide +kernel
theorem dX11_chain_23 : decode cX11_chain 23 = .ok (.getfield 78, 3) := by decide +kernel
theorem dX11_chain_26 : decode cX11_chain 26 = .ok (.invokevirtual 195, 3) := by decide +kernel
theorem dX11_chain_29 : decode cX11_chain 29 = .ok (.istore_n 3, 1) := by decide +kernel
theorem dX11_chain_30 : decode cX11_chain 30 = .ok (.iload_n 3, 1) := by decide +kernel
theorem dX11_chain_31 : decode cX11_chain 31 = .ok (.ifCond .lt 8, 3) := by decide +kernel
theorem dX11_chain_34 : decode cX11_chain 34 = .ok (.aload_n 0, 1) := by decide +kernel
theorem dX11_chain_35 : decode cX11_chain 35 = .ok (.iload_n 3, 1) := by decide +kernel
theorem dX11_chain_36 : decode cX11_chain 36 = .ok (.putfield 82, 3) := by decide +kernel
theorem dX11_chain_39 : decode cX11_chain 39 = .ok (.iload_n 3, 1) := by decide +kernel
theorem dX11_chain_40 : decode cX11_chain 40 = .ok (.ireturn, 1) := by decide +kernel
theorem dX11_sorts_0 : decode cX11_sorts 0 = .ok (.aload_n 0, 1) := by decide +kernel
theorem dX11_sorts_1 : decode cX11_sorts 1 = .ok (.getfield 44, 3) := by decide +kernel
theorem dX11_sorts_4 : decode cX11_sorts 4 = .ok (.aload_n 0, 1) := by decide +kernel
theorem dX11_sorts_5 : decode cX11_sorts 5 = .ok (.getfield 27, 3) := by decide +kernel
theorem dX11_sorts_8 : decode cX11_sorts 8 = .ok (.invokevirtual 144, 3) := by decide +kernel
theorem dX11_sorts_11 : decode cX11_sorts 11 = .ok (.iconst (-1), 1) := by decide +kernel
theorem dX11_sorts_12 : decode cX11_sorts 12 = .ok (.invokevirtual 199, 3) := by decide +kernel
theorem dX11_sorts_15 : decode cX11_sorts 15 = .ok (.aload_n 0, 1) := by decide +kernel
theorem dX11_sorts_16 : decode cX11_sorts 16 = .ok (.getfield 44, 3) := by decide +kernel
theorem dX11_sorts_19 : decode cX11_sorts 19 = .ok (.getfield 203, 3) := by decide +kernel
theorem dX11_sorts_22 : decode cX11_sorts 22 = .ok (.ireturn, 1) := by decide +kernel
theorem dX11_sort_0 : decode cX11_sort 0 = .ok (.iload_n 1, 1) := by decide +kernel
theorem dX11_sort_1 : decode cX11_sort 1 = .ok (.ifCond .ge 5, 3) := by decide +kernel
theorem dX11_sort_4 : decode cX11_sort 4 = .ok (.iconst (-1), 1) := by decide +kernel
theorem dX11_sort_5 : decode cX11_sort 5 = .ok (.ireturn, 1) := by decide +kernel
theorem dX11_sort_6 : decode cX11_sort 6 = .ok (.aload_n 0, 1) := by decide +kernel
theorem dX11_sort_7 : decode cX11_sort 7 = .ok (.getfield 44, 3) := by decide +kernel
theorem dX11_sort_10 : decode cX11_sort 10 = .ok (.aload_n 0, 1) := by decide +kernel
theorem dX11_sort_11 : decode cX11_sort 11 = .ok (.getfield 27, 3) := by decide +kernel
theorem dX11_sort_14 : decode cX11_sort 14 = .ok (.invokevirtual 144, 3) := by decide +kernel
theorem dX11_sort_17 : decode cX11_sort 17 = .ok (.iconst (-1), 1) := by decide +kernel
theorem dX11_sort_18 : decode cX11_sort 18 = .ok (.invokevirtual 199, 3) := by decide +kernel
theorem dX11_sort_21 : decode cX11_sort 21 = .ok (.aload_n 0, 1) := by decide +kernel
theorem dX11_sort_22 : decode cX11_sort 22 = .ok (.getfield 44, 3) := by decide +kernel
theorem dX11_sort_25 : decode cX11_sort 25 = .ok (.iload_n 1, 1) := by decide +kernel
theorem dX11_sort_26 : decode cX11_sort 26 = .ok (.invokevirtual 206, 3) := by decide +kernel
theorem dX11_sort_29 : decode cX11_sort 29 = .ok (.ireturn, 1) := by decide +kernel
theorem dX11_both_0 : decode cX11_both 0 = .ok (.iload_n 1, 1) := by decide +kernel
theorem dX11_both_1 : decode cX11_both 1 = .ok (.invokestatic 186, 3) := by decide +kernel
theorem dX11_both_4 : decode cX11_both 4 = .ok (.ifCond .eq 10, 3) := by decide +kernel
theorem dX11_both_7 : decode cX11_both 7 = .ok (.iload_n 2, 1) := by decide +kernel
theorem dX11_both_8 : decode cX11_both 8 = .ok (.invokestatic 186, 3) := by decide +kernel
theorem dX11_both_11 : decode cX11_both 11 = .ok (.ifCond .ne 5, 3) := by decide +kernel
theorem dX11_both_14 : decode cX11_both 14 = .ok (.iconst (-1), 1) := by decide +kernel
theorem dX11_both_15 : decode cX11_both 15 = .ok (.ireturn, 1) := by decide +kernel
theorem dX11_both_16 : decode cX11_both 16 = .ok (.aload_n 0, 1) := by decide +kernel
theorem dX11_both_17 : decode cX11_both 17 = .ok (.getfield 44, 3) := by decide +kernel
theorem dX11_both_20 : decode cX11_both 20 = .ok (.aload_n 0, 1) := by decide +kernel
theorem dX11_both_21 : decode cX11_both 21 = .ok (.getfield 27, 3) := by decide +kernel
theorem dX11_both_24 : decode cX11_both 24 = .ok (.invokevirtual 144, 3) := by decide +kernel
theorem dX11_both_27 : decode cX11_both 27 = .ok (.iconst (-1), 1) := by decide +kernel
theorem dX11_both_28 : decode cX11_both 28 = .ok (.invokevirtual 199, 3) := by decide +kernel
theorem dX11_both_31 : decode cX11_both 31 = .ok (.aload_n 0, 1) := by decide +kernel
theorem dX11_both_32 : decode cX11_both 32 = .ok (.getfield 44, 3) := by decide +kernel
theorem dX11_both_35 : decode cX11_both 35 = .ok (.iload_n 1, 1) := by decide +kernel
theorem dX11_both_36 : decode cX11_both 36 = .ok (.iload_n 2, 1) := by decide +kernel
theorem dX11_both_37 : decode cX11_both 37 = .ok (.invokevirtual 209, 3) := by decide +kernel
theorem dX11_both_40 : decode cX11_both 40 = .ok (.ireturn, 1) := by decide +kernel
theorem dX11_town_0 : decode cX11_town 0 = .ok (.aload_n 0, 1) := by decide +kernel
theorem dX11_town_1 : decode cX11_town 1 = .ok (.aload_n 0, 1) := by decide +kernel
theorem dX11_town_2 : decode cX11_town 2 = .ok (.getfield 53, 3) := by decide +kernel
theorem dX11_town_5 : decode cX11_town 5 = .ok (.iconst (-1), 1) := by decide +kernel
theorem dX11_town_6 : decode cX11_town 6 = .ok (.invokevirtual 212, 3) := by decide +kernel
theorem dX11_town_9 : decode cX11_town 9 = .ok (.invokevirtual 215, 3) := by decide +kernel
theorem dX11_town_12 : decode cX11_town 12 = .ok (.ireturn, 1) := by decide +kernel
theorem dX11_refute_0 : decode cX11_refute 0 = .ok (.iload_n 1, 1) := by decide +kernel
theorem dX11_refute_1 : decode cX11_refute 1 = .ok (.invokestatic 126, 3) := by decide +kernel
theorem dX11_refute_4 : decode cX11_refute 4 = .ok (.ifCond .eq 21, 3) := by decide +kernel
theorem dX11_refute_7 : decode cX11_refute 7 = .ok (.aload_n 0, 1) := by decide +kernel
theorem dX11_refute_8 : decode cX11_refute 8 = .ok (.aload_n 0, 1) := by decide +kernel
theorem dX11_refute_9 : decode cX11_refute 9 = .ok (.getfield 53, 3) := by decide +kernel
theorem dX11_refute_12 : decode cX11_refute 12 = .ok (.iload_n 1, 1) := by decide +kernel
theorem dX11_refute_13 : decode cX11_refute 13 = .ok (.invokestatic 155, 3) := by decide +kernel
theorem dX11_refute_16 : decode cX11_refute 16 = .ok (.invokevirtual 212, 3) := by decide +kernel
theorem dX11_refute_19 : decode cX11_refute 19 = .ok (.invokevirtual 215, 3) := by decide +kernel
theorem dX11_refute_22 : decode cX11_refute 22 = .ok (.goto 4, 3) := by decide +kernel
theorem dX11_refute_25 : decode cX11_refute 25 = .ok (.iconst (-1), 1) := by decide +kernel
theorem dX11_refute_26 : decode cX11_refute 26 = .ok (.ireturn, 1) := by decide +kernel
theorem dX11_judge_0 : decode cX11_judge 0 = .ok (.iload_n 1, 1) := by decide +kernel
theorem dX11_judge_1 : decode cX11_judge 1 = .ok (.ifCond .lt 32, 3) := by decide +kernel
theorem dX11_judge_4 : decode cX11_judge 4 = .ok (.iload_n 1, 1) := by decide +kernel
theorem dX11_judge_5 : decode cX11_judge 5 = .ok (.sipush 4096, 3) := by decide +kernel
theorem dX11_judge_8 : decode cX11_judge 8 = .ok (.if_icmp .gt 25, 3) := by decide +kernel
theorem dX11_judge_11 : decode cX11_judge 11 = .ok (.iload_n 2, 1) := by decide +kernel
theorem dX11_judge_12 : decode cX11_judge 12 = .ok (.ifCond .lt 21, 3) := by decide +kernel
theorem dX11_judge_15 : decode cX11_judge 15 = .ok (.iload_n 2, 1) := by decide +kernel
theorem dX11_judge_16 : decode cX11_judge 16 = .ok (.sipush 4096, 3) := by decide +kernel
theorem dX11_judge_19 : decode cX11_judge 19 = .ok (.if_icmp .gt 14, 3) := by decide +kernel
theorem dX11_judge_22 : decode cX11_judge 22 = .ok (.iload_n 3, 1) := by decide +kernel
theorem dX11_judge_23 : decode cX11_judge 23 = .ok (.ifCond .lt 10, 3) := by decide +kernel
theorem dX11_judge_26 : decode cX11_judge 26 = .ok (.iload_n 3, 1) := by decide +kernel
theorem dX11_judge_27 : decode cX11_judge 27 = .ok (.sipush 4096, 3) := by decide +kernel
theorem dX11_judge_30 : decode cX11_judge 30 = .ok (.if_icmp .le 5, 3) := by decide +kernel
theorem dX11_judge_33 : decode cX11_judge 33 = .ok (.iconst (-1), 1) := by decide +kernel
theorem dX11_judge_34 : decode cX11_judge 34 = .ok (.ireturn, 1) := by decide +kernel
theorem dX11_judge_35 : decode cX11_judge 35 = .ok (.iconst 0, 1) := by decide +kernel
theorem dX11_judge_36 : decode cX11_judge 36 = .ok (.istore 4, 2) := by decide +kernel
theorem dX11_judge_38 : decode cX11_judge 38 = .ok (.iconst 0, 1) := by decide +kernel
theorem dX11_judge_39 : decode cX11_judge 39 = .ok (.istore 5, 2) := by decide +kernel
theorem dX11_judge_41 : decode cX11_judge 41 = .ok (.iload 5, 2) := by decide +kernel
theorem dX11_judge_43 : decode cX11_judge 43 = .ok (.aload_n 0, 1) := by decide +kernel
theorem dX11_judge_44 : decode cX11_judge 44 = .ok (.getfield 27, 3) := by decide +kernel
theorem dX11_judge_47 : decode cX11_judge 47 = .ok (.getfield 101, 3) := by decide +kernel
theorem dX11_judge_50 : decode cX11_judge 50 = .ok (.if_icmp .ge 52, 3) := by decide +kernel
theorem dX11_judge_53 : decode cX11_judge 53 = .ok (.aload_n 0, 1) := by decide +kernel
theorem dX11_judge_54 : decode cX11_judge 54 = .ok (.getfield 27, 3) := by decide +kernel
theorem dX11_judge_57 : decode cX11_judge 57 = .ok (.invokevirtual 144, 3) := by decide +kernel
theorem dX11_judge_60 : decode cX11_judge 60 = .ok (.iload 5, 2) := by decide +kernel
theorem dX11_judge_62 : decode cX11_judge 62 = .ok (.ishr, 1) := by decide +kernel
theorem dX11_judge_63 : decode cX11_judge 63 = .ok (.iconst 1, 1) := by decide +kernel
theorem dX11_judge_64 : decode cX11_judge 64 = .ok (.iand, 1) := by decide +kernel
theorem dX11_judge_65 : decode cX11_judge 65 = .ok (.ifCond .eq 31, 3) := by decide +kernel
theorem dX11_judge_68 : decode cX11_judge 68 = .ok (.aload_n 0, 1) := by decide +kernel
theorem dX11_judge_69 : decode cX11_judge 69 = .ok (.getfield 27, 3) := by decide +kernel
theorem dX11_judge_72 : decode cX11_judge 72 = .ok (.getfield 218, 3) := by decide +kernel
theorem dX11_judge_75 : decode cX11_judge 75 = .ok (.iload 5, 2) := by decide +kernel
theorem dX11_judge_77 : decode cX11_judge 77 = .ok (.iaload, 1) := by decide +kernel
theorem dX11_judge_78 : decode cX11_judge 78 = .ok (.iload_n 1, 1) := by decide +kernel
theorem dX11_judge_79 : decode cX11_judge 79 = .ok (.iload_n 2, 1) := by decide +kernel
theorem dX11_judge_80 : decode cX11_judge 80 = .ok (.iload_n 3, 1) := by decide +kernel
theorem dX11_judge_81 : decode cX11_judge 81 = .ok (.invokestatic 221, 3) := by decide +kernel
theorem dX11_judge_84 : decode cX11_judge 84 = .ok (.ifCond .ne 12, 3) := by decide +kernel
theorem dX11_judge_87 : decode cX11_judge 87 = .ok (.iload 4, 2) := by decide +kernel
theorem dX11_judge_89 : decode cX11_judge 89 = .ok (.iconst 1, 1) := by decide +kernel
theorem dX11_judge_90 : decode cX11_judge 90 = .ok (.iload 5, 2) := by decide +kernel
theorem dX11_judge_92 : decode cX11_judge 92 = .ok (.ishl, 1) := by decide +kernel
theorem dX11_judge_93 : decode cX11_judge 93 = .ok (.ior, 1) := by decide +kernel
theorem dX11_judge_94 : decode cX11_judge 94 = .ok (.istore 4, 2) := by decide +kernel
theorem dX11_judge_96 : decode cX11_judge 96 = .ok (.iinc 5 1, 3) := by decide +kernel
theorem dX11_judge_99 : decode cX11_judge 99 = .ok (.goto (-58), 3) := by decide +kernel
theorem dX11_judge_102 : decode cX11_judge 102 = .ok (.iconst 0, 1) := by decide +kernel
theorem dX11_judge_103 : decode cX11_judge 103 = .ok (.istore 5, 2) := by decide +kernel
theorem dX11_judge_105 : decode cX11_judge 105 = .ok (.iconst 0, 1) := by decide +kernel
theorem dX11_judge_106 : decode cX11_judge 106 = .ok (.istore 6, 2) := by decide +kernel
theorem dX11_judge_108 : decode cX11_judge 108 = .ok (.iload 6, 2) := by decide +kernel
theorem dX11_judge_110 : decode cX11_judge 110 = .ok (.bipush 12, 2) := by decide +kernel
theorem dX11_judge_112 : decode cX11_judge 112 = .ok (.if_icmp .ge 58, 3) := by decide +kernel
theorem dX11_judge_115 : decode cX11_judge 115 = .ok (.iconst 2, 1) := by decide +kernel
theorem dX11_judge_116 : decode cX11_judge 116 = .ok (.iconst 2, 1) := by decide +kernel
theorem dX11_judge_117 : decode cX11_judge 117 = .ok (.iload 6, 2) := by decide +kernel
theorem dX11_judge_119 : decode cX11_judge 119 = .ok (.imul, 1) := by decide +kernel
theorem dX11_judge_120 : decode cX11_judge 120 = .ok (.iconst 2, 1) := by decide +kernel
theorem dX11_judge_121 : decode cX11_judge 121 = .ok (.iload 6, 2) := by decide +kernel
theorem dX11_judge_123 : decode cX11_judge 123 = .ok (.imul, 1) := by decide +kernel
theorem dX11_judge_124 : decode cX11_judge 124 = .ok (.invokestatic 225, 3) := by decide +kernel
theorem dX11_judge_127 : decode cX11_judge 127 = .ok (.istore 7, 2) := by decide +kernel
theorem dX11_judge_129 : decode cX11_judge 129 = .ok (.aload_n 0, 1) := by decide +kernel
theorem dX11_judge_130 : decode cX11_judge 130 = .ok (.getfield 27, 3) := by decide +kernel
theorem dX11_judge_133 : decode cX11_judge 133 = .ok (.getfield 123, 3) := by decide +kernel
theorem dX11_judge_136 : decode cX11_judge 136 = .ok (.iload 6, 2) := by decide +kernel
theorem dX11_judge_138 : decode cX11_judge 138 = .ok (.ishr, 1) := by decide +kernel
theorem dX11_judge_139 : decode cX11_judge 139 = .ok (.iconst 1, 1) := by decide +kernel
theorem dX11_judge_140 : decode cX11_judge 140 = .ok (.iand, 1) := by decide +kernel
theorem dX11_judge_141 : decode cX11_judge 141 = .ok (.ifCond .eq 23, 3) := by decide +kernel
theorem dX11_judge_144 : decode cX11_judge 144 = .ok (.iload 7, 2) := by decide +kernel
theorem dX11_judge_146 : decode cX11_judge 146 = .ok (.iload_n 1, 1) := by decide +kernel
theorem dX11_judge_147 : decode cX11_judge 147 = .ok (.iload_n 2, 1) := by decide +kernel
theorem dX11_judge_148 : decode cX11_judge 148 = .ok (.iload_n 3, 1) := by decide +kernel
theorem dX11_judge_149 : decode cX11_judge 149 = .ok (.invokestatic 221, 3) := by decide +kernel
theorem dX11_judge_152 : decode cX11_judge 152 = .ok (.ifCond .ne 12, 3) := by decide +kernel
theorem dX11_judge_155 : decode cX11_judge 155 = .ok (.iload 5, 2) := by decide +kernel
theorem dX11_judge_157 : decode cX11_judge 157 = .ok (.iconst 1, 1) := by decide +kernel
theorem dX11_judge_158 : decode cX11_judge 158 = .ok (.iload 6, 2) := by decide +kernel
theorem dX11_judge_160 : decode cX11_judge 160 = .ok (.ishl, 1) := by decide +kernel
theorem dX11_judge_161 : decode cX11_judge 161 = .ok (.ior, 1) := by decide +kernel
theorem dX11_judge_162 : decode cX11_judge 162 = .ok (.istore 5, 2) := by decide +kernel
theorem dX11_judge_164 : decode cX11_judge 164 = .ok (.iinc 6 1, 3) := by decide +kernel
theorem dX11_judge_167 : decode cX11_judge 167 = .ok (.goto (-59), 3) := by decide +kernel
theorem dX11_judge_170 : decode cX11_judge 170 = .ok (.aload_n 0, 1) := by decide +kernel
theorem dX11_judge_171 : decode cX11_judge 171 = .ok (.iload 4, 2) := by decide +kernel
theorem dX11_judge_173 : decode cX11_judge 173 = .ok (.iload 5, 2) := by decide +kernel
theorem dX11_judge_175 : decode cX11_judge 175 = .ok (.invokevirtual 229, 3) := by decide +kernel
theorem dX11_judge_178 : decode cX11_judge 178 = .ok (.iload 4, 2) := by decide +kernel
theorem dX11_judge_180 : decode cX11_judge 180 = .ok (.ifCond .ne 12, 3) := by decide +kernel
theorem dX11_judge_183 : decode cX11_judge 183 = .ok (.iload 5, 2) := by decide +kernel
theorem dX11_judge_185 : decode cX11_judge 185 = .ok (.ifCond .ne 7, 3) := by decide +kernel
theorem dX11_judge_188 : decode cX11_judge 188 = .ok (.iconst 1, 1) := by decide +kernel
theorem dX11_judge_189 : decode cX11_judge 189 = .ok (.goto 4, 3) := by decide +kernel
theorem dX11_judge_192 : decode cX11_judge 192 = .ok (.iconst 0, 1) := by decide +kernel
theorem dX11_judge_193 : decode cX11_judge 193 = .ok (.ireturn, 1) := by decide +kernel
theorem dX11_mood_0 : decode cX11_mood 0 = .ok (.iload_n 1, 1) := by decide +kernel
theorem dX11_mood_1 : decode cX11_mood 1 = .ok (.invokestatic 232, 3) := by decide +kernel
theorem dX11_mood_4 : decode cX11_mood 4 = .ok (.ifCond .eq 29, 3) := by decide +kernel
theorem dX11_mood_7 : decode cX11_mood 7 = .ok (.iload_n 2, 1) := by decide +kernel
theorem dX11_mood_8 : decode cX11_mood 8 = .ok (.invokestatic 232, 3) := by decide +kernel
theorem dX11_mood_11 : decode cX11_mood 11 = .ok (.ifCond .eq 22, 3) := by decide +kernel
theorem dX11_mood_14 : decode cX11_mood 14 = .ok (.iload_n 3, 1) := by decide +kernel
theorem dX11_mood_15 : decode cX11_mood 15 = .ok (.invokestatic 232, 3) := by decide +kernel
theorem dX11_mood_18 : decode cX11_mood 18 = .ok (.ifCond .eq 15, 3) := by decide +kernel
theorem dX11_mood_21 : decode cX11_mood 21 = .ok (.iload 4, 2) := by decide +kernel
theorem dX11_mood_23 : decode cX11_mood 23 = .ok (.iconst 1, 1) := by decide +kernel
theorem dX11_mood_24 : decode cX11_mood 24 = .ok (.if_icmp .lt 9, 3) := by decide +kernel
theorem dX11_mood_27 : decode cX11_mood 27 = .ok (.iload 4, 2) := by decide +kernel
theorem dX11_mood_29 : decode cX11_mood 29 = .ok (.iconst 4, 1) := by decide +kernel
theorem dX11_mood_30 : decode cX11_mood 30 = .ok (.if_icmp .le 5, 3) := by decide +kernel
theorem dX11_mood_33 : decode cX11_mood 33 = .ok (.iconst (-1), 1) := by decide +kernel
theorem dX11_mood_34 : decode cX11_mood 34 = .ok (.ireturn, 1) := by decide +kernel
theorem dX11_mood_35 : decode cX11_mood 35 = .ok (.aload_n 0, 1) := by decide +kernel
theorem dX11_mood_36 : decode cX11_mood 36 = .ok (.getfield 60, 3) := by decide +kernel
theorem dX11_mood_39 : decode cX11_mood 39 = .ok (.iload_n 1, 1) := by decide +kernel
theorem dX11_mood_40 : decode cX11_mood 40 = .ok (.iload_n 2, 1) := by decide +kernel
theorem dX11_mood_41 : decode cX11_mood 41 = .ok (.iload_n 3, 1) := by decide +kernel
theorem dX11_mood_42 : decode cX11_mood 42 = .ok (.iload 4, 2) := by decide +kernel
theorem dX11_mood_44 : decode cX11_mood 44 = .ok (.invokevirtual 235, 3) := by decide +kernel
theorem dX11_mood_47 : decode cX11_mood 47 = .ok (.istore 5, 2) := by decide +kernel
theorem dX11_mood_49 : decode cX11_mood 49 = .ok (.iload 5, 2) := by decide +kernel
theorem dX11_mood_51 : decode cX11_mood 51 = .ok (.ifCond .ne 10, 3) := by decide +kernel
theorem dX11_mood_54 : decode cX11_mood 54 = .ok (.aload_n 0, 1) := by decide +kernel
theorem dX11_mood_55 : decode cX11_mood 55 = .ok (.iconst 0, 1) := by decide +kernel
theorem dX11_mood_56 : decode cX11_mood 56 = .ok (.putfield 82, 3) := by decide +kernel
theorem dX11_mood_59 : decode cX11_mood 59 = .ok (.iconst 2, 1) := by decide +kernel
theorem dX11_mood_60 : decode cX11_mood 60 = .ok (.ireturn, 1) := by decide +kernel
theorem dX11_mood_61 : decode cX11_mood 61 = .ok (.aload_n 0, 1) := by decide +kernel
theorem dX11_mood_62 : decode cX11_mood 62 = .ok (.iload 5, 2) := by decide +kernel
theorem dX11_mood_64 : decode cX11_mood 64 = .ok (.ifCond .le 8, 3) := by decide +kernel
theorem dX11_mood_67 : decode cX11_mood 67 = .ok (.iload 5, 2) := by decide +kernel
theorem dX11_mood_69 : decode cX11_mood 69 = .ok (.goto 11, 3) := by decide +kernel
theorem dX11_mood_72 : decode cX11_mood 72 = .ok (.iload_n 1, 1) := by decide +kernel
theorem dX11_mood_73 : decode cX11_mood 73 = .ok (.iload_n 2, 1) := by decide +kernel
theorem dX11_mood_74 : decode cX11_mood 74 = .ok (.iload_n 3, 1) := by decide +kernel
theorem dX11_mood_75 : decode cX11_mood 75 = .ok (.iload 4, 2) := by decide +kernel
theorem dX11_mood_77 : decode cX11_mood 77 = .ok (.invokestatic 238, 3) := by decide +kernel
theorem dX11_mood_80 : decode cX11_mood 80 = .ok (.invokevirtual 182, 3) := by decide +kernel
theorem dX11_mood_83 : decode cX11_mood 83 = .ok (.iload 5, 2) := by decide +kernel
theorem dX11_mood_85 : decode cX11_mood 85 = .ok (.ifCond .le 7, 3) := by decide +kernel
theorem dX11_mood_88 : decode cX11_mood 88 = .ok (.iconst 1, 1) := by decide +kernel
theorem dX11_mood_89 : decode cX11_mood 89 = .ok (.goto 4, 3) := by decide +kernel
theorem dX11_mood_92 : decode cX11_mood 92 = .ok (.iconst 0, 1) := by decide +kernel
theorem dX11_mood_93 : decode cX11_mood 93 = .ok (.ireturn, 1) := by decide +kernel
theorem dX11_figure_0 : decode cX11_figure 0 = .ok (.iload_n 1, 1) := by decide +kernel
theorem dX11_figure_1 : decode cX11_figure 1 = .ok (.iconst 1, 1) := by decide +kernel
theorem dX11_figure_2 : decode cX11_figure 2 = .ok (.if_icmp .lt 8, 3) := by decide +kernel
theorem dX11_figure_5 : decode cX11_figure 5 = .ok (.iload_n 1, 1) := by decide +kernel
theorem dX11_figure_6 : decode cX11_figure 6 = .ok (.iconst 4, 1) := by decide +kernel
theorem dX11_figure_7 : decode cX11_figure 7 = .ok (.if_icmp .le 5, 3) := by decide +kernel
theorem dX11_figure_10 : decode cX11_figure 10 = .ok (.iconst (-1), 1) := by decide +kernel
theorem dX11_figure_11 : decode cX11_figure 11 = .ok (.ireturn, 1) := by decide +kernel
theorem dX11_figure_12 : decode cX11_figure 12 = .ok (.iconst 0, 1) := by decide +kernel
theorem dX11_figure_13 : decode cX11_figure 13 = .ok (.istore_n 2, 1) := by decide +kernel
theorem dX11_figure_14 : decode cX11_figure 14 = .ok (.iconst 0, 1) := by decide +kernel
theorem dX11_figure_15 : decode cX11_figure 15 = .ok (.istore_n 3, 1) := by decide +kernel
theorem dX11_figure_16 : decode cX11_figure 16 = .ok (.iconst 0, 1) := by decide +kernel
theorem dX11_figure_17 : decode cX11_figure 17 = .ok (.istore 4, 2) := by decide +kernel
theorem dX11_figure_19 : decode cX11_figure 19 = .ok (.iload 4, 2) := by decide +kernel
theorem dX11_figure_21 : decode cX11_figure 21 = .ok (.bipush 64, 2) := by decide +kernel
theorem dX11_figure_23 : decode cX11_figure 23 = .ok (.if_icmp .ge 59, 3) := by decide +kernel
theorem dX11_figure_26 : decode cX11_figure 26 = .ok (.aload_n 0, 1) := by decide +kernel
theorem dX11_figure_27 : decode cX11_figure 27 = .ok (.getfield 60, 3) := by decide +kernel
theorem dX11_figure_30 : decode cX11_figure 30 = .ok (.iload 4, 2) := by decide +kernel
theorem dX11_figure_32 : decode cX11_figure 32 = .ok (.iconst 4, 1) := by decide +kernel
theorem dX11_figure_33 : decode cX11_figure 33 = .ok (.ishr, 1) := by decide +kernel
theorem dX11_figure_34 : decode cX11_figure 34 = .ok (.iload 4, 2) := by decide +kernel
theorem dX11_figure_36 : decode cX11_figure 36 = .ok (.iconst 2, 1) := by decide +kernel
theorem dX11_figure_37 : decode cX11_figure 37 = .ok (.ishr, 1) := by decide +kernel
theorem dX11_figure_38 : decode cX11_figure 38 = .ok (.iconst 3, 1) := by decide +kernel
theorem dX11_figure_39 : decode cX11_figure 39 = .ok (.iand, 1) := by decide +kernel
theorem dX11_figure_40 : decode cX11_figure 40 = .ok (.iload 4, 2) := by decide +kernel
theorem dX11_figure_42 : decode cX11_figure 42 = .ok (.iconst 3, 1) := by decide +kernel
theorem dX11_figure_43 : decode cX11_figure 43 = .ok (.iand, 1) := by decide +kernel
theorem dX11_figure_44 : decode cX11_figure 44 = .ok (.iload_n 1, 1) := by decide +kernel
theorem dX11_figure_45 : decode cX11_figure 45 = .ok (.invokevirtual 235, 3) := by decide +kernel
theorem dX11_figure_48 : decode cX11_figure 48 = .ok (.istore 5, 2) := by decide +kernel
theorem dX11_figure_50 : decode cX11_figure 50 = .ok (.iload_n 2, 1) := by decide +kernel
theorem dX11_figure_51 : decode cX11_figure 51 = .ok (.iload 5, 2) := by decide +kernel
theorem dX11_figure_53 : decode cX11_figure 53 = .ok (.ifCond .ne 7, 3) := by decide +kernel
theorem dX11_figure_56 : decode cX11_figure 56 = .ok (.iconst 1, 1) := by decide +kernel
theorem dX11_figure_57 : decode cX11_figure 57 = .ok (.goto 4, 3) := by decide +kernel
theorem dX11_figure_60 : decode cX11_figure 60 = .ok (.iconst 0, 1) := by decide +kernel
theorem dX11_figure_61 : decode cX11_figure 61 = .ok (.iadd, 1) := by decide +kernel
theorem dX11_figure_62 : decode cX11_figure 62 = .ok (.istore_n 2, 1) := by decide +kernel
theorem dX11_figure_63 : decode cX11_figure 63 = .ok (.iload_n 3, 1) := by decide +kernel
theorem dX11_figure_64 : decode cX11_figure 64 = .ok (.iload 5, 2) := by decide +kernel
theorem dX11_figure_66 : decode cX11_figure 66 = .ok (.ifCond .le 7, 3) := by decide +kernel
theorem dX11_figure_69 : decode cX11_figure 69 = .ok (.iconst 1, 1) := by decide +kernel
theorem dX11_figure_70 : decode cX11_figure 70 = .ok (.goto 4, 3) := by decide +kernel
theorem dX11_figure_73 : decode cX11_figure 73 = .ok (.iconst 0, 1) := by decide +kernel
theorem dX11_figure_74 : decode cX11_figure 74 = .ok (.iadd, 1) := by decide +kernel
theorem dX11_figure_75 : decode cX11_figure 75 = .ok (.istore_n 3, 1) := by decide +kernel
theorem dX11_figure_76 : decode cX11_figure 76 = .ok (.iinc 4 1, 3) := by decide +kernel
theorem dX11_figure_79 : decode cX11_figure 79 = .ok (.goto (-60), 3) := by decide +kernel
theorem dX11_figure_82 : decode cX11_figure 82 = .ok (.aload_n 0, 1) := by decide +kernel
theorem dX11_figure_83 : decode cX11_figure 83 = .ok (.iload_n 3, 1) := by decide +kernel
theorem dX11_figure_84 : decode cX11_figure 84 = .ok (.invokevirtual 182, 3) := by decide +kernel
theorem dX11_figure_87 : decode cX11_figure 87 = .ok (.iload_n 2, 1) := by decide +kernel
theorem dX11_figure_88 : decode cX11_figure 88 = .ok (.ireturn, 1) := by decide +kernel
theorem dX11_forms_0 : decode cX11_forms 0 = .ok (.iload_n 1, 1) := by decide +kernel
theorem dX11_forms_1 : decode cX11_forms 1 = .ok (.invokestatic 186, 3) := by decide +kernel
theorem dX11_forms_4 : decode cX11_forms 4 = .ok (.ifCond .eq 10, 3) := by decide +kernel
theorem dX11_forms_7 : decode cX11_forms 7 = .ok (.iload_n 2, 1) := by decide +kernel
theorem dX11_forms_8 : decode cX11_forms 8 = .ok (.invokestatic 186, 3) := by decide +kernel
theorem dX11_forms_11 : decode cX11_forms 11 = .ok (.ifCond .ne 5, 3) := by decide +kernel
theorem dX11_forms_14 : decode cX11_forms 14 = .ok (.iconst (-1), 1) := by decide +kernel
theorem dX11_forms_15 : decode cX11_forms 15 = .ok (.ireturn, 1) := by decide +kernel
theorem dX11_forms_16 : decode cX11_forms 16 = .ok (.iconst 0, 1) := by decide +kernel
theorem dX11_forms_17 : decode cX11_forms 17 = .ok (.istore_n 3, 1) := by decide +kernel
theorem dX11_forms_18 : decode cX11_forms 18 = .ok (.iconst 0, 1) := by decide +kernel
theorem dX11_forms_19 : decode cX11_forms 19 = .ok (.istore 4, 2) := by decide +kernel
theorem dX11_forms_21 : decode cX11_forms 21 = .ok (.iload 4, 2) := by decide +kernel
theorem dX11_forms_23 : decode cX11_forms 23 = .ok (.iconst 4, 1) := by decide +kernel
theorem dX11_forms_24 : decode cX11_forms 24 = .ok (.if_icmp .ge 40, 3) := by decide +kernel
theorem dX11_forms_27 : decode cX11_forms 27 = .ok (.aload_n 0, 1) := by decide +kernel
theorem dX11_forms_28 : decode cX11_forms 28 = .ok (.getfield 31, 3) := by decide +kernel
theorem dX11_forms_31 : decode cX11_forms 31 = .ok (.aload_n 0, 1) := by decide +kernel
theorem dX11_forms_32 : decode cX11_forms 32 = .ok (.getfield 27, 3) := by decide +kernel
theorem dX11_forms_35 : decode cX11_forms 35 = .ok (.invokevirtual 144, 3) := by decide +kernel
theorem dX11_forms_38 : decode cX11_forms 38 = .ok (.iload 4, 2) := by decide +kernel
theorem dX11_forms_40 : decode cX11_forms 40 = .ok (.iload_n 1, 1) := by decide +kernel
theorem dX11_forms_41 : decode cX11_forms 41 = .ok (.iload_n 2, 1) := by decide +kernel
theorem dX11_forms_42 : decode cX11_forms 42 = .ok (.invokestatic 225, 3) := by decide +kernel
theorem dX11_forms_45 : decode cX11_forms 45 = .ok (.invokevirtual 151, 3) := by decide +kernel
theorem dX11_forms_48 : decode cX11_forms 48 = .ok (.ifCond .eq 10, 3) := by decide +kernel
theorem dX11_forms_51 : decode cX11_forms 51 = .ok (.iload_n 3, 1) := by decide +kernel
theorem dX11_forms_52 : decode cX11_forms 52 = .ok (.iconst 1, 1) := by decide +kernel
theorem dX11_forms_53 : decode cX11_forms 53 = .ok (.iload 4, 2) := by decide +kernel
theorem dX11_forms_55 : decode cX11_forms 55 = .ok (.ishl, 1) := by decide +kernel
theorem dX11_forms_56 : decode cX11_forms 56 = .ok (.ior, 1) := by decide +kernel
theorem dX11_forms_57 : decode cX11_forms 57 = .ok (.istore_n 3, 1) := by decide +kernel
theorem dX11_forms_58 : decode cX11_forms 58 = .ok (.iinc 4 1, 3) := by decide +kernel
theorem dX11_forms_61 : decode cX11_forms 61 = .ok (.goto (-40), 3) := by decide +kernel
theorem dX11_forms_64 : decode cX11_forms 64 = .ok (.aload_n 0, 1) := by decide +kernel
theorem dX11_forms_65 : decode cX11_forms 65 = .ok (.getfield 44, 3) := by decide +kernel
theorem dX11_forms_68 : decode cX11_forms 68 = .ok (.aload_n 0, 1) := by decide +kernel
theorem dX11_forms_69 : decode cX11_forms 69 = .ok (.getfield 27, 3) := by decide +kernel
theorem dX11_forms_72 : decode cX11_forms 72 = .ok (.invokevirtual 144, 3) := by decide +kernel
theorem dX11_forms_75 : decode cX11_forms 75 = .ok (.iconst (-1), 1) := by decide +kernel
theorem dX11_forms_76 : decode cX11_forms 76 = .ok (.invokevirtual 199, 3) := by decide +kernel
theorem dX11_forms_79 : decode cX11_forms 79 = .ok (.aload_n 0, 1) := by decide +kernel
theorem dX11_forms_80 : decode cX11_forms 80 = .ok (.aload_n 0, 1) := by decide +kernel
theorem dX11_forms_81 : decode cX11_forms 81 = .ok (.getfield 44, 3) := by decide +kernel
theorem dX11_forms_84 : decode cX11_forms 84 = .ok (.iload_n 1, 1) := by decide +kernel
theorem dX11_forms_85 : decode cX11_forms 85 = .ok (.iload_n 2, 1) := by decide +kernel
theorem dX11_forms_86 : decode cX11_forms 86 = .ok (.invokevirtual 209, 3) := by decide +kernel
theorem dX11_forms_89 : decode cX11_forms 89 = .ok (.aload_n 0, 1) := by decide +kernel
theorem dX11_forms_90 : decode cX11_forms 90 = .ok (.getfield 44, 3) := by decide +kernel
theorem dX11_forms_93 : decode cX11_forms 93 = .ok (.iload_n 1, 1) := by decide +kernel
theorem dX11_forms_94 : decode cX11_forms 94 = .ok (.iload_n 2, 1) := by decide +kernel
theorem dX11_forms_95 : decode cX11_forms 95 = .ok (.iconst 1, 1) := by decide +kernel
theorem dX11_forms_96 : decode cX11_forms 96 = .ok (.ixor, 1) := by decide +kernel
theorem dX11_forms_97 : decode cX11_forms 97 = .ok (.invokevirtual 209, 3) := by decide +kernel
theorem dX11_forms_100 : decode cX11_forms 100 = .ok (.invokevirtual 229, 3) := by decide +kernel
theorem dX11_forms_103 : decode cX11_forms 103 = .ok (.iload_n 3, 1) := by decide +kernel
theorem dX11_forms_104 : decode cX11_forms 104 = .ok (.ireturn, 1) := by decide +kernel
theorem dX11_allow_0 : decode cX11_allow 0 = .ok (.iload_n 1, 1) := by decide +kernel
theorem dX11_allow_1 : decode cX11_allow 1 = .ok (.ifCond .lt 9, 3) := by decide +kernel
theorem dX11_allow_4 : decode cX11_allow 4 = .ok (.iload_n 1, 1) := by decide +kernel
theorem dX11_allow_5 : decode cX11_allow 5 = .ok (.ldc 241, 2) := by decide +kernel
theorem dX11_allow_7 : decode cX11_allow 7 = .ok (.if_icmp .le 5, 3) := by decide +kernel
theorem dX11_allow_10 : decode cX11_allow 10 = .ok (.iconst (-1), 1) := by decide +kernel
theorem dX11_allow_11 : decode cX11_allow 11 = .ok (.ireturn, 1) := by decide +kernel
theorem dX11_allow_12 : decode cX11_allow 12 = .ok (.aload_n 0, 1) := by decide +kernel
theorem dX11_allow_13 : decode cX11_allow 13 = .ok (.getfield 27, 3) := by decide +kernel
theorem dX11_allow_16 : decode cX11_allow 16 = .ok (.getfield 242, 3) := by decide +kernel
theorem dX11_allow_19 : decode cX11_allow 19 = .ok (.istore_n 2, 1) := by decide +kernel
theorem dX11_allow_20 : decode cX11_allow 20 = .ok (.aload_n 0, 1) := by decide +kernel
theorem dX11_allow_21 : decode cX11_allow 21 = .ok (.getfield 27, 3) := by decide +kernel
theorem dX11_allow_24 : decode cX11_allow 24 = .ok (.iload_n 1, 1) := by decide +kernel
theorem dX11_allow_25 : decode cX11_allow 25 = .ok (.putfield 242, 3) := by decide +kernel
theorem dX11_allow_28 : decode cX11_allow 28 = .ok (.iload_n 2, 1) := by decide +kernel
theorem dX11_allow_29 : decode cX11_allow 29 = .ok (.ireturn, 1) := by decide +kernel
theorem dX11_step_0 : decode cX11_step 0 = .ok (.iload_n 1, 1) := by decide +kernel
theorem dX11_step_1 : decode cX11_step 1 = .ok (.ifCond .lt 16, 3) := by decide +kernel
theorem dX11_step_4 : decode cX11_step 4 = .ok (.iload_n 1, 1) := by decide +kernel
theorem dX11_step_5 : decode cX11_step 5 = .ok (.bipush 22, 2) := by decide +kernel
theorem dX11_step_7 : decode cX11_step 7 = .ok (.if_icmp .ge 10, 3) := by decide +kernel
theorem dX11_step_10 : decode cX11_step 10 = .ok (.iload_n 2, 1) := by decide +kernel
theorem dX11_step_11 : decode cX11_step 11 = .ok (.invokestatic 126, 3) := by decide +kernel
theorem dX11_step_14 : decode cX11_step 14 = .ok (.ifCond .ne 5, 3) := by decide +kernel
theorem dX11_step_17 : decode cX11_step 17 = .ok (.iconst (-1), 1) := by decide +kernel
theorem dX11_step_18 : decode cX11_step 18 = .ok (.ireturn, 1) := by decide +kernel
theorem dX11_step_19 : decode cX11_step 19 = .ok (.iload_n 1, 1) := by decide +kernel
theorem dX11_step_20 : decode cX11_step 20 = .ok (.bipush 19, 2) := by decide +kernel
theorem dX11_step_22 : decode cX11_step 22 = .ok (.if_icmp .lt 7, 3) := by decide +kernel
theorem dX11_step_25 : decode cX11_step 25 = .ok (.iconst 1, 1) := by decide +kernel
theorem dX11_step_26 : decode cX11_step 26 = .ok (.goto 4, 3) := by decide +kernel
theorem dX11_step_29 : decode cX11_step 29 = .ok (.iconst 0, 1) := by decide +kernel
theorem dX11_step_30 : decode cX11_step 30 = .ok (.istore 4, 2) := by decide +kernel
theorem dX11_step_32 : decode cX11_step 32 = .ok (.iload 4, 2) := by decide +kernel
theorem dX11_step_34 : decode cX11_step 34 = .ok (.ifCond .eq 11, 3) := by decide +kernel
theorem dX11_step_37 : decode cX11_step 37 = .ok (.iload_n 3, 1) := by decide +kernel
theorem dX11_step_38 : decode cX11_step 38 = .ok (.iconst (-1), 1) := by decide +kernel
theorem dX11_step_39 : decode cX11_step 39 = .ok (.if_icmp .eq 15, 3) := by decide +kernel
theorem dX11_step_42 : decode cX11_step 42 = .ok (.goto 10, 3) := by decide +kernel
theorem dX11_step_45 : decode cX11_step 45 = .ok (.iload_n 3, 1) := by decide +kernel
theorem dX11_step_46 : decode cX11_step 46 = .ok (.invokestatic 126, 3) := by decide +kernel
theorem dX11_step_49 : decode cX11_step 49 = .ok (.ifCond .ne 5, 3) := by decide +kernel
theorem dX11_step_52 : decode cX11_step 52 = .ok (.iconst (-1), 1) := by decide +kernel
theorem dX11_step_53 : decode cX11_step 53 = .ok (.ireturn, 1) := by decide +kernel
theorem dX11_step_54 : decode cX11_step 54 = .ok (.iload_n 1, 1) := by decide +kernel
theorem dX11_step_55 : decode cX11_step 55 = .ok (.iload_n 2, 1) := by decide +kernel
theorem dX11_step_56 : decode cX11_step 56 = .ok (.aload_n 0, 1) := by decide +kernel
theorem dX11_step_57 : decode cX11_step 57 = .ok (.getfield 27, 3) := by decide +kernel
theorem dX11_step_60 : decode cX11_step 60 = .ok (.getfield 123, 3) := by decide +kernel
theorem dX11_step_63 : decode cX11_step 63 = .ok (.invokestatic 245, 3) := by decide +kernel
theorem dX11_step_66 : decode cX11_step 66 = .ok (.ifCond .ne 6, 3) := by decide +kernel
theorem dX11_step_69 : decode cX11_step 69 = .ok (.bipush (-2), 2) := by decide +kernel
theorem dX11_step_71 : decode cX11_step 71 = .ok (.ireturn, 1) := by decide +kernel
theorem dX11_step_72 : decode cX11_step 72 = .ok (.iload_n 1, 1) := by decide +kernel
theorem dX11_step_73 : decode cX11_step 73 = .ok (.iload_n 2, 1) := by decide +kernel
theorem dX11_step_74 : decode cX11_step 74 = .ok (.iload_n 3, 1) := by decide +kernel
theorem dX11_step_75 : decode cX11_step 75 = .ok (.invokestatic 249, 3) := by decide +kernel
theorem dX11_step_78 : decode cX11_step 78 = .ok (.ireturn, 1) := by decide +kernel
theorem dX11_proof_0 : decode cX11_proof 0 = .ok (.iload_n 1, 1) := by decide +kernel
theorem dX11_proof_1 : decode cX11_proof 1 = .ok (.invokestatic 126, 3) := by decide +kernel
theorem dX11_proof_4 : decode cX11_proof 4 = .ok (.ifCond .ne 5, 3) := by decide +kernel
theorem dX11_proof_7 : decode cX11_proof 7 = .ok (.iconst (-1), 1) := by decide +kernel
theorem dX11_proof_8 : decode cX11_proof 8 = .ok (.ireturn, 1) := by decide +kernel
theorem dX11_proof_9 : decode cX11_proof 9 = .ok (.aload_n 0, 1) := by decide +kernel
theorem dX11_proof_10 : decode cX11_proof 10 = .ok (.getfield 67, 3) := by decide +kernel
theorem dX11_proof_13 : decode cX11_proof 13 = .ok (.iload_n 1, 1) := by decide +kernel
theorem dX11_proof_14 : decode cX11_proof 14 = .ok (.invokevirtual 252, 3) := by decide +kernel
theorem dX11_proof_17 : decode cX11_proof 17 = .ok (.istore_n 2, 1) := by decide +kernel
theorem dX11_proof_18 : decode cX11_proof 18 = .ok (.iload_n 2, 1) := by decide +kernel
theorem dX11_proof_19 : decode cX11_proof 19 = .ok (.ifCond .lt 47, 3) := by decide +kernel
theorem dX11_proof_22 : decode cX11_proof 22 = .ok (.aload_n 0, 1) := by decide +kernel
theorem dX11_proof_23 : decode cX11_proof 23 = .ok (.getfield 67, 3) := by decide +kernel
theorem dX11_proof_26 : decode cX11_proof 26 = .ok (.iload_n 1, 1) := by decide +kernel
theorem dX11_proof_27 : decode cX11_proof 27 = .ok (.invokevirtual 255, 3) := by decide +kernel
theorem dX11_proof_30 : decode cX11_proof 30 = .ok (.aload_n 0, 1) := by decide +kernel
theorem dX11_proof_31 : decode cX11_proof 31 = .ok (.aload_n 0, 1) := by decide +kernel
theorem dX11_proof_32 : decode cX11_proof 32 = .ok (.getfield 67, 3) := by decide +kernel
theorem dX11_proof_35 : decode cX11_proof 35 = .ok (.getfield 258, 3) := by decide +kernel
theorem dX11_proof_38 : decode cX11_proof 38 = .ok (.aload_n 0, 1) := by decide +kernel
theorem dX11_proof_39 : decode cX11_proof 39 = .ok (.getfield 67, 3) := by decide +kernel
theorem dX11_proof_42 : decode cX11_proof 42 = .ok (.getfield 261, 3) := by decide +kernel
theorem dX11_proof_45 : decode cX11_proof 45 = .ok (.invokevirtual 229, 3) := by decide +kernel
theorem dX11_proof_48 : decode cX11_proof 48 = .ok (.aload_n 0, 1) := by decide +kernel
theorem dX11_proof_49 : decode cX11_proof 49 = .ok (.getfield 78, 3) := by decide +kernel
theorem dX11_proof_52 : decode cX11_proof 52 = .ok (.iconst 2, 1) := by decide +kernel
theorem dX11_proof_53 : decode cX11_proof 53 = .ok (.aload_n 0, 1) := by decide +kernel
theorem dX11_proof_54 : decode cX11_proof 54 = .ok (.getfield 67, 3) := by decide +kernel
theorem dX11_proof_57 : decode cX11_proof 57 = .ok (.getfield 264, 3) := by decide +kernel
theorem dX11_proof_60 : decode cX11_proof 60 = .ok (.iastore, 1) := by decide +kernel
theorem dX11_proof_61 : decode cX11_proof 61 = .ok (.aload_n 0, 1) := by decide +kernel
theorem dX11_proof_62 : decode cX11_proof 62 = .ok (.iconst 3, 1) := by decide +kernel
theorem dX11_proof_63 : decode cX11_proof 63 = .ok (.putfield 82, 3) := by decide +kernel
theorem dX11_proof_66 : decode cX11_proof 66 = .ok (.iload_n 2, 1) := by decide +kernel
theorem dX11_proof_67 : decode cX11_proof 67 = .ok (.ireturn, 1) := by decide +kernel
theorem dX11_rests_0 : decode cX11_rests 0 = .ok (.iload_n 1, 1) := by decide +kernel
theorem dX11_rests_1 : decode cX11_rests 1 = .ok (.invokestatic 126, 3) := by decide +kernel
theorem dX11_rests_4 : decode cX11_rests 4 = .ok (.ifCond .ne 5, 3) := by decide +kernel
theorem dX11_rests_7 : decode cX11_rests 7 = .ok (.iconst (-1), 1) := by decide +kernel
theorem dX11_rests_8 : decode cX11_rests 8 = .ok (.ireturn, 1) := by decide +kernel
theorem dX11_rests_9 : decode cX11_rests 9 = .ok (.aload_n 0, 1) := by decide +kernel
theorem dX11_rests_10 : decode cX11_rests 10 = .ok (.getfield 67, 3) := by decide +kernel
theorem dX11_rests_13 : decode cX11_rests 13 = .ok (.iload_n 1, 1) := by decide +kernel
theorem dX11_rests_14 : decode cX11_rests 14 = .ok (.invokevirtual 252, 3) := by decide +kernel
theorem dX11_rests_17 : decode cX11_rests 17 = .ok (.ifCond .ge 6, 3) := by decide +kernel
theorem dX11_rests_20 : decode cX11_rests 20 = .ok (.bipush (-2), 2) := by decide +kernel
theorem dX11_rests_22 : decode cX11_rests 22 = .ok (.ireturn, 1) := by decide +kernel
theorem dX11_rests_23 : decode cX11_rests 23 = .ok (.aload_n 0, 1) := by decide +kernel
theorem dX11_rests_24 : decode cX11_rests 24 = .ok (.getfield 67, 3) := by decide +kernel
theorem dX11_rests_27 : decode cX11_rests 27 = .ok (.iload_n 1, 1) := by decide +kernel
theorem dX11_rests_28 : decode cX11_rests 28 = .ok (.invokevirtual 267, 3) := by decide +kernel
theorem dX11_rests_31 : decode cX11_rests 31 = .ok (.aload_n 0, 1) := by decide +kernel
theorem dX11_rests_32 : decode cX11_rests 32 = .ok (.aload_n 0, 1) := by decide +kernel
theorem dX11_rests_33 : decode cX11_rests 33 = .ok (.getfield 67, 3) := by decide +kernel
theorem dX11_rests_36 : decode cX11_rests 36 = .ok (.getfield 270, 3) := by decide +kernel
theorem dX11_rests_39 : decode cX11_rests 39 = .ok (.aload_n 0, 1) := by decide +kernel
theorem dX11_rests_40 : decode cX11_rests 40 = .ok (.getfield 67, 3) := by decide +kernel
theorem dX11_rests_43 : decode cX11_rests 43 = .ok (.getfield 273, 3) := by decide +kernel
theorem dX11_rests_46 : decode cX11_rests 46 = .ok (.invokevirtual 229, 3) := by decide +kernel
theorem dX11_rests_49 : decode cX11_rests 49 = .ok (.aload_n 0, 1) := by decide +kernel
theorem dX11_rests_50 : decode cX11_rests 50 = .ok (.getfield 67, 3) := by decide +kernel
theorem dX11_rests_53 : decode cX11_rests 53 = .ok (.getfield 276, 3) := by decide +kernel
theorem dX11_rests_56 : decode cX11_rests 56 = .ok (.ireturn, 1) := by decide +kernel
theorem dX11_proved_0 : decode cX11_proved 0 = .ok (.aload_n 0, 1) := by decide +kernel
theorem dX11_proved_1 : decode cX11_proved 1 = .ok (.getfield 67, 3) := by decide +kernel
theorem dX11_proved_4 : decode cX11_proved 4 = .ok (.invokevirtual 279, 3) := by decide +kernel
theorem dX11_proved_7 : decode cX11_proved 7 = .ok (.aload_n 0, 1) := by decide +kernel
theorem dX11_proved_8 : decode cX11_proved 8 = .ok (.aload_n 0, 1) := by decide +kernel
theorem dX11_proved_9 : decode cX11_proved 9 = .ok (.getfield 67, 3) := by decide +kernel
theorem dX11_proved_12 : decode cX11_proved 12 = .ok (.getfield 281, 3) := by decide +kernel
theorem dX11_proved_15 : decode cX11_proved 15 = .ok (.invokevirtual 182, 3) := by decide +kernel
theorem dX11_proved_18 : decode cX11_proved 18 = .ok (.aload_n 0, 1) := by decide +kernel
theorem dX11_proved_19 : decode cX11_proved 19 = .ok (.getfield 67, 3) := by decide +kernel
theorem dX11_proved_22 : decode cX11_proved 22 = .ok (.getfield 284, 3) := by decide +kernel
theorem dX11_proved_25 : decode cX11_proved 25 = .ok (.ireturn, 1) := by decide +kernel
theorem dX11_gap_0 : decode cX11_gap 0 = .ok (.iconst 0, 1) := by decide +kernel
theorem dX11_gap_1 : decode cX11_gap 1 = .ok (.istore_n 1, 1) := by decide +kernel
theorem dX11_gap_2 : decode cX11_gap 2 = .ok (.iconst 0, 1) := by decide +kernel
theorem dX11_gap_3 : decode cX11_gap 3 = .ok (.istore_n 2, 1) := by decide +kernel
theorem dX11_gap_4 : decode cX11_gap 4 = .ok (.iload_n 2, 1) := by decide +kernel
theorem dX11_gap_5 : decode cX11_gap 5 = .ok (.aload_n 0, 1) := by decide +kernel
theorem dX11_gap_6 : decode cX11_gap 6 = .ok (.getfield 27, 3) := by decide +kernel
theorem dX11_gap_9 : decode cX11_gap 9 = .ok (.getfield 132, 3) := by decide +kernel
theorem dX11_gap_12 : decode cX11_gap 12 = .ok (.if_icmp .ge 54, 3) := by decide +kernel
theorem dX11_gap_15 : decode cX11_gap 15 = .ok (.aload_n 0, 1) := by decide +kernel
theorem dX11_gap_16 : decode cX11_gap 16 = .ok (.getfield 27, 3) := by decide +kernel
theorem dX11_gap_19 : decode cX11_gap 19 = .ok (.getfield 287, 3) := by decide +kernel
theorem dX11_gap_22 : decode cX11_gap 22 = .ok (.iload_n 2, 1) := by decide +kernel
theorem dX11_gap_23 : decode cX11_gap 23 = .ok (.iaload, 1) := by decide +kernel
theorem dX11_gap_24 : decode cX11_gap 24 = .ok (.istore_n 3, 1) := by decide +kernel
theorem dX11_gap_25 : decode cX11_gap 25 = .ok (.aload_n 0, 1) := by decide +kernel
theorem dX11_gap_26 : decode cX11_gap 26 = .ok (.getfield 31, 3) := by decide +kernel
theorem dX11_gap_29 : decode cX11_gap 29 = .ok (.aload_n 0, 1) := by decide +kernel
theorem dX11_gap_30 : decode cX11_gap 30 = .ok (.getfield 27, 3) := by decide +kernel
theorem dX11_gap_33 : decode cX11_gap 33 = .ok (.invokevirtual 144, 3) := by decide +kernel
theorem dX11_gap_36 : decode cX11_gap 36 = .ok (.iload_n 3, 1) := by decide +kernel
theorem dX11_gap_37 : decode cX11_gap 37 = .ok (.invokevirtual 151, 3) := by decide +kernel
theorem dX11_gap_40 : decode cX11_gap 40 = .ok (.ifCond .eq 20, 3) := by decide +kernel
theorem dX11_gap_43 : decode cX11_gap 43 = .ok (.aload_n 0, 1) := by decide +kernel
theorem dX11_gap_44 : decode cX11_gap 44 = .ok (.getfield 67, 3) := by decide +kernel
theorem dX11_gap_47 : decode cX11_gap 47 = .ok (.iload_n 3, 1) := by decide +kernel
theorem dX11_gap_48 : decode cX11_gap 48 = .ok (.invokevirtual 252, 3) := by decide +kernel
theorem dX11_gap_51 : decode cX11_gap 51 = .ok (.ifCond .ge 9, 3) := by decide +kernel
theorem dX11_gap_54 : decode cX11_gap 54 = .ok (.iload_n 1, 1) := by decide +kernel
theorem dX11_gap_55 : decode cX11_gap 55 = .ok (.iconst 1, 1) := by decide +kernel
theorem dX11_gap_56 : decode cX11_gap 56 = .ok (.iload_n 2, 1) := by decide +kernel
theorem dX11_gap_57 : decode cX11_gap 57 = .ok (.ishl, 1) := by decide +kernel
theorem dX11_gap_58 : decode cX11_gap 58 = .ok (.ior, 1) := by decide +kernel
theorem dX11_gap_59 : decode cX11_gap 59 = .ok (.istore_n 1, 1) := by decide +kernel
theorem dX11_gap_60 : decode cX11_gap 60 = .ok (.iinc 2 1, 3) := by decide +kernel
theorem dX11_gap_63 : decode cX11_gap 63 = .ok (.goto (-59), 3) := by decide +kernel
theorem dX11_gap_66 : decode cX11_gap 66 = .ok (.iload_n 1, 1) := by decide +kernel
theorem dX11_gap_67 : decode cX11_gap 67 = .ok (.ireturn, 1) := by decide +kernel
theorem dX11_plead_0 : decode cX11_plead 0 = .ok (.aload_n 0, 1) := by decide +kernel
theorem dX11_plead_1 : decode cX11_plead 1 = .ok (.getfield 74, 3) := by decide +kernel
theorem dX11_plead_4 : decode cX11_plead 4 = .ok (.aload_n 0, 1) := by decide +kernel
theorem dX11_plead_5 : decode cX11_plead 5 = .ok (.getfield 21, 3) := by decide +kernel
theorem dX11_plead_8 : decode cX11_plead 8 = .ok (.invokevirtual 290, 3) := by decide +kernel
theorem dX11_plead_11 : decode cX11_plead 11 = .ok (.istore_n 1, 1) := by decide +kernel
theorem dX11_plead_12 : decode cX11_plead 12 = .ok (.aload_n 0, 1) := by decide +kernel
theorem dX11_plead_13 : decode cX11_plead 13 = .ok (.getfield 21, 3) := by decide +kernel
theorem dX11_plead_16 : decode cX11_plead 16 = .ok (.invokevirtual 98, 3) := by decide +kernel
theorem dX11_plead_19 : decode cX11_plead 19 = .ok (.iload_n 1, 1) := by decide +kernel
theorem dX11_plead_20 : decode cX11_plead 20 = .ok (.ireturn, 1) := by decide +kernel
theorem dX11_pleaded_0 : decode cX11_pleaded 0 = .ok (.iload_n 1, 1) := by decide +kernel
theorem dX11_pleaded_1 : decode cX11_pleaded 1 = .ok (.ifCond .lt 23, 3) := by decide +kernel
theorem dX11_pleaded_4 : decode cX11_pleaded 4 = .ok (.iload_n 1, 1) := by decide +kernel
theorem dX11_pleaded_5 : decode cX11_pleaded 5 = .ok (.aload_n 0, 1) := by decide +kernel
theorem dX11_pleaded_6 : decode cX11_pleaded 6 = .ok (.getfield 74, 3) := by decide +kernel
theorem dX11_pleaded_9 : decode cX11_pleaded 9 = .ok (.getfield 291, 3) := by decide +kernel
theorem dX11_pleaded_12 : decode cX11_pleaded 12 = .ok (.if_icmp .ge 12, 3) := by decide +kernel
theorem dX11_pleaded_15 : decode cX11_pleaded 15 = .ok (.iload_n 2, 1) := by decide +kernel
theorem dX11_pleaded_16 : decode cX11_pleaded 16 = .ok (.ifCond .lt 8, 3) := by decide +kernel
theorem dX11_pleaded_19 : decode cX11_pleaded 19 = .ok (.iload_n 2, 1) := by decide +kernel
theorem dX11_pleaded_20 : decode cX11_pleaded 20 = .ok (.iconst 4, 1) := by decide +kernel
theorem dX11_pleaded_21 : decode cX11_pleaded 21 = .ok (.if_icmp .le 11, 3) := by decide +kernel
theorem dX11_pleaded_24 : decode cX11_pleaded 24 = .ok (.new 104, 3) := by decide +kernel
theorem dX11_pleaded_27 : decode cX11_pleaded 27 = .ok (.dup, 1) := by decide +kernel
theorem dX11_pleaded_28 : decode cX11_pleaded 28 = .ok (.invokespecial 106, 3) := by decide +kernel
theorem dX11_pleaded_31 : decode cX11_pleaded 31 = .ok (.athrow, 1) := by decide +kernel
theorem dX11_pleaded_32 : decode cX11_pleaded 32 = .ok (.aload_n 0, 1) := by decide +kernel
theorem dX11_pleaded_33 : decode cX11_pleaded 33 = .ok (.getfield 74, 3) := by decide +kernel
theorem dX11_pleaded_36 : decode cX11_pleaded 36 = .ok (.iload_n 1, 1) := by decide +kernel
theorem dX11_pleaded_37 : decode cX11_pleaded 37 = .ok (.iload_n 2, 1) := by decide +kernel
theorem dX11_pleaded_38 : decode cX11_pleaded 38 = .ok (.invokevirtual 294, 3) := by decide +kernel
theorem dX11_pleaded_41 : decode cX11_pleaded 41 = .ok (.ireturn, 1) := by decide +kernel
theorem dX11_stands_0 : decode cX11_stands 0 = .ok (.aload_n 0, 1) := by decide +kernel
theorem dX11_stands_1 : decode cX11_stands 1 = .ok (.getfield 74, 3) := by decide +kernel
theorem dX11_stands_4 : decode cX11_stands 4 = .ok (.invokevirtual 295, 3) := by decide +kernel
theorem dX11_stands_7 : decode cX11_stands 7 = .ok (.ireturn, 1) := by decide +kernel
theorem dX11_marks_0 : decode cX11_marks 0 = .ok (.iload_n 1, 1) := by decide +kernel
theorem dX11_marks_1 : decode cX11_marks 1 = .ok (.ifCond .lt 8, 3) := by decide +kernel
theorem dX11_marks_4 : decode cX11_marks 4 = .ok (.iload_n 1, 1) := by decide +kernel
theorem dX11_marks_5 : decode cX11_marks 5 = .ok (.iconst 3, 1) := by decide +kernel
theorem dX11_marks_6 : decode cX11_marks 6 = .ok (.if_icmp .le 5, 3) := by decide +kernel
theorem dX11_marks_9 : decode cX11_marks 9 = .ok (.iconst (-1), 1) := by decide +kernel
theorem dX11_marks_10 : decode cX11_marks 10 = .ok (.ireturn, 1) := by decide +kernel
theorem dX11_marks_11 : decode cX11_marks 11 = .ok (.aload_n 0, 1) := by decide +kernel
theorem dX11_marks_12 : decode cX11_marks 12 = .ok (.getfield 74, 3) := by decide +kernel
theorem dX11_marks_15 : decode cX11_marks 15 = .ok (.invokevirtual 295, 3) := by decide +kernel
theorem dX11_marks_18 : decode cX11_marks 18 = .ok (.aload_n 0, 1) := by decide +kernel
theorem dX11_marks_19 : decode cX11_marks 19 = .ok (.getfield 74, 3) := by decide +kernel
theorem dX11_marks_22 : decode cX11_marks 22 = .ok (.iload_n 1, 1) := by decide +kernel
theorem dX11_marks_23 : decode cX11_marks 23 = .ok (.invokevirtual 298, 3) := by decide +kernel
theorem dX11_marks_26 : decode cX11_marks 26 = .ok (.iand, 1) := by decide +kernel
theorem dX11_marks_27 : decode cX11_marks 27 = .ok (.istore_n 2, 1) := by decide +kernel
theorem dX11_marks_28 : decode cX11_marks 28 = .ok (.aload_n 0, 1) := by decide +kernel
theorem dX11_marks_29 : decode cX11_marks 29 = .ok (.aload_n 0, 1) := by decide +kernel
theorem dX11_marks_30 : decode cX11_marks 30 = .ok (.getfield 74, 3) := by decide +kernel
theorem dX11_marks_33 : decode cX11_marks 33 = .ok (.iload_n 2, 1) := by decide +kernel
theorem dX11_marks_34 : decode cX11_marks 34 = .ok (.invokevirtual 301, 3) := by decide +kernel
theorem dX11_marks_37 : decode cX11_marks 37 = .ok (.aload_n 0, 1) := by decide +kernel
theorem dX11_marks_38 : decode cX11_marks 38 = .ok (.getfield 74, 3) := by decide +kernel
theorem dX11_marks_41 : decode cX11_marks 41 = .ok (.iload_n 2, 1) := by decide +kernel
theorem dX11_marks_42 : decode cX11_marks 42 = .ok (.invokevirtual 304, 3) := by decide +kernel
theorem dX11_marks_45 : decode cX11_marks 45 = .ok (.invokevirtual 229, 3) := by decide +kernel
theorem dX11_marks_48 : decode cX11_marks 48 = .ok (.iload_n 2, 1) := by decide +kernel
theorem dX11_marks_49 : decode cX11_marks 49 = .ok (.invokestatic 139, 3) := by decide +kernel
theorem dX11_marks_52 : decode cX11_marks 52 = .ok (.ireturn, 1) := by decide +kernel
theorem dX11_strike_0 : decode cX11_strike 0 = .ok (.aload_n 0, 1) := by decide +kernel
theorem dX11_strike_1 : decode cX11_strike 1 = .ok (.getfield 74, 3) := by decide +kernel
theorem dX11_strike_4 : decode cX11_strike 4 = .ok (.getfield 291, 3) := by decide +kernel
theorem dX11_strike_7 : decode cX11_strike 7 = .ok (.ifCond .ne 5, 3) := by decide +kernel
theorem dX11_strike_10 : decode cX11_strike 10 = .ok (.iconst (-1), 1) := by decide +kernel
theorem dX11_strike_11 : decode cX11_strike 11 = .ok (.ireturn, 1) := by decide +kernel
theorem dX11_strike_12 : decode cX11_strike 12 = .ok (.aload_n 0, 1) := by decide +kernel
theorem dX11_strike_13 : decode cX11_strike 13 = .ok (.getfield 74, 3) := by decide +kernel
theorem dX11_strike_16 : decode cX11_strike 16 = .ok (.dup, 1) := by decide +kernel
theorem dX11_strike_17 : decode cX11_strike 17 = .ok (.getfield 291, 3) := by decide +kernel
theorem dX11_strike_20 : decode cX11_strike 20 = .ok (.iconst 1, 1) := by decide +kernel
theorem dX11_strike_21 : decode cX11_strike 21 = .ok (.isub, 1) := by decide +kernel
theorem dX11_strike_22 : decode cX11_strike 22 = .ok (.putfield 291, 3) := by decide +kernel
theorem dX11_strike_25 : decode cX11_strike 25 = .ok (.aload_n 0, 1) := by decide +kernel
theorem dX11_strike_26 : decode cX11_strike 26 = .ok (.getfield 74, 3) := by decide +kernel
theorem dX11_strike_29 : decode cX11_strike 29 = .ok (.getfield 291, 3) := by decide +kernel
theorem dX11_strike_32 : decode cX11_strike 32 = .ok (.ireturn, 1) := by decide +kernel
theorem dX11_keep_0 : decode cX11_keep 0 = .ok (.aload_n 0, 1) := by decide +kernel
theorem dX11_keep_1 : decode cX11_keep 1 = .ok (.getfield 27, 3) := by decide +kernel
theorem dX11_keep_4 : decode cX11_keep 4 = .ok (.iload_n 1, 1) := by decide +kernel
theorem dX11_keep_5 : decode cX11_keep 5 = .ok (.invokevirtual 307, 3) := by decide +kernel
theorem dX11_keep_8 : decode cX11_keep 8 = .ok (.ireturn, 1) := by decide +kernel
theorem dX11_again_0 : decode cX11_again 0 = .ok (.aload_n 0, 1) := by decide +kernel
theorem dX11_again_1 : decode cX11_again 1 = .ok (.getfield 27, 3) := by decide +kernel
theorem dX11_again_4 : decode cX11_again 4 = .ok (.iload_n 1, 1) := by decide +kernel
theorem dX11_again_5 : decode cX11_again 5 = .ok (.invokevirtual 310, 3) := by decide +kernel
theorem dX11_again_8 : decode cX11_again 8 = .ok (.ireturn, 1) := by decide +kernel
theorem dX11_count_0 : decode cX11_count 0 = .ok (.iload_n 1, 1) := by decide +kernel
theorem dX11_count_1 : decode cX11_count 1 = .ok (.tableswitch 108 0 7 #[47, 55, 63, 71, 79, 87, 95, 100], 47) := by decide +kernel
theorem dX11_count_48 : decode cX11_count 48 = .ok (.aload_n 0, 1) := by decide +kernel
theorem dX11_count_49 : decode cX11_count 49 = .ok (.getfield 27, 3) := by decide +kernel
theorem dX11_count_52 : decode cX11_count 52 = .ok (.getfield 101, 3) := by decide +kernel
theorem dX11_count_55 : decode cX11_count 55 = .ok (.ireturn, 1) := by decide +kernel
theorem dX11_count_56 : decode cX11_count 56 = .ok (.aload_n 0, 1) := by decide +kernel
theorem dX11_count_57 : decode cX11_count 57 = .ok (.getfield 27, 3) := by decide +kernel
theorem dX11_count_60 : decode cX11_count 60 = .ok (.getfield 132, 3) := by decide +kernel
theorem dX11_count_63 : decode cX11_count 63 = .ok (.ireturn, 1) := by decide +kernel
theorem dX11_count_64 : decode cX11_count 64 = .ok (.aload_n 0, 1) := by decide +kernel
theorem dX11_count_65 : decode cX11_count 65 = .ok (.getfield 27, 3) := by decide +kernel
theorem dX11_count_68 : decode cX11_count 68 = .ok (.getfield 123, 3) := by decide +kernel
theorem dX11_count_71 : decode cX11_count 71 = .ok (.ireturn, 1) := by decide +kernel
theorem dX11_count_72 : decode cX11_count 72 = .ok (.aload_n 0, 1) := by decide +kernel
theorem dX11_count_73 : decode cX11_count 73 = .ok (.getfield 27, 3) := by decide +kernel
theorem dX11_count_76 : decode cX11_count 76 = .ok (.getfield 242, 3) := by decide +kernel
theorem dX11_count_79 : decode cX11_count 79 = .ok (.ireturn, 1) := by decide +kernel
theorem dX11_count_80 : decode cX11_count 80 = .ok (.aload_n 0, 1) := by decide +kernel
theorem dX11_count_81 : decode cX11_count 81 = .ok (.getfield 74, 3) := by decide +kernel
theorem dX11_count_84 : decode cX11_count 84 = .ok (.getfield 291, 3) := by decide +kernel
theorem dX11_count_87 : decode cX11_count 87 = .ok (.ireturn, 1) := by decide +kernel
theorem dX11_count_88 : decode cX11_count 88 = .ok (.aload_n 0, 1) := by decide +kernel
theorem dX11_count_89 : decode cX11_count 89 = .ok (.getfield 27, 3) := by decide +kernel
theorem dX11_count_92 : decode cX11_count 92 = .ok (.invokevirtual 144, 3) := by decide +kernel
theorem dX11_count_95 : decode cX11_count 95 = .ok (.ireturn, 1) := by decide +kernel
theorem dX11_count_96 : decode cX11_count 96 = .ok (.aload_n 0, 1) := by decide +kernel
theorem dX11_count_97 : decode cX11_count 97 = .ok (.getfield 82, 3) := by decide +kernel
theorem dX11_count_100 : decode cX11_count 100 = .ok (.ireturn, 1) := by decide +kernel
theorem dX11_count_101 : decode cX11_count 101 = .ok (.aload_n 0, 1) := by decide +kernel
theorem dX11_count_102 : decode cX11_count 102 = .ok (.getfield 21, 3) := by decide +kernel
theorem dX11_count_105 : decode cX11_count 105 = .ok (.getfield 313, 3) := by decide +kernel
theorem dX11_count_108 : decode cX11_count 108 = .ok (.ireturn, 1) := by decide +kernel
theorem dX11_count_109 : decode cX11_count 109 = .ok (.iconst (-1), 1) := by decide +kernel
theorem dX11_count_110 : decode cX11_count 110 = .ok (.ireturn, 1) := by decide +kernel
theorem dX11_row_0 : decode cX11_row 0 = .ok (.iload_n 1, 1) := by decide +kernel
theorem dX11_row_1 : decode cX11_row 1 = .ok (.ifCond .lt 11, 3) := by decide +kernel
theorem dX11_row_4 : decode cX11_row 4 = .ok (.iload_n 1, 1) := by decide +kernel
theorem dX11_row_5 : decode cX11_row 5 = .ok (.aload_n 0, 1) := by decide +kernel
theorem dX11_row_6 : decode cX11_row 6 = .ok (.getfield 82, 3) := by decide +kernel
theorem dX11_row_9 : decode cX11_row 9 = .ok (.if_icmp .lt 11, 3) := by decide +kernel
theorem dX11_row_12 : decode cX11_row 12 = .ok (.new 104, 3) := by decide +kernel
theorem dX11_row_15 : decode cX11_row 15 = .ok (.dup, 1) := by decide +kernel
theorem dX11_row_16 : decode cX11_row 16 = .ok (.invokespecial 106, 3) := by decide +kernel
theorem dX11_row_19 : decode cX11_row 19 = .ok (.athrow, 1) := by decide +kernel
theorem dX11_row_20 : decode cX11_row 20 = .ok (.aload_n 0, 1) := by decide +kernel
theorem dX11_row_21 : decode cX11_row 21 = .ok (.getfield 78, 3) := by decide +kernel
theorem dX11_row_24 : decode cX11_row 24 = .ok (.iload_n 1, 1) := by decide +kernel
theorem dX11_row_25 : decode cX11_row 25 = .ok (.iaload, 1) := by decide +kernel
theorem dX11_row_26 : decode cX11_row 26 = .ok (.ireturn, 1) := by decide +kernel
theorem dX11_tellOne_0 : decode cX11_tellOne 0 = .ok (.aload_n 0, 1) := by decide +kernel
theorem dX11_tellOne_1 : decode cX11_tellOne 1 = .ok (.getfield 78, 3) := by decide +kernel
theorem dX11_tellOne_4 : decode cX11_tellOne 4 = .ok (.iconst 0, 1) := by decide +kernel
theorem dX11_tellOne_5 : decode cX11_tellOne 5 = .ok (.iload_n 1, 1) := by decide +kernel
theorem dX11_tellOne_6 : decode cX11_tellOne 6 = .ok (.iastore, 1) := by decide +kernel
theorem dX11_tellOne_7 : decode cX11_tellOne 7 = .ok (.aload_n 0, 1) := by decide +kernel
theorem dX11_tellOne_8 : decode cX11_tellOne 8 = .ok (.iconst 1, 1) := by decide +kernel
theorem dX11_tellOne_9 : decode cX11_tellOne 9 = .ok (.putfield 82, 3) := by decide +kernel
theorem dX11_tellOne_12 : decode cX11_tellOne 12 = .ok (.return_, 1) := by decide +kernel
theorem dX11_tellTwo_0 : decode cX11_tellTwo 0 = .ok (.aload_n 0, 1) := by decide +kernel
theorem dX11_tellTwo_1 : decode cX11_tellTwo 1 = .ok (.getfield 78, 3) := by decide +kernel
theorem dX11_tellTwo_4 : decode cX11_tellTwo 4 = .ok (.iconst 0, 1) := by decide +kernel
theorem dX11_tellTwo_5 : decode cX11_tellTwo 5 = .ok (.iload_n 1, 1) := by decide +kernel
theorem dX11_tellTwo_6 : decode cX11_tellTwo 6 = .ok (.iastore, 1) := by decide +kernel
theorem dX11_tellTwo_7 : decode cX11_tellTwo 7 = .ok (.aload_n 0, 1) := by decide +kernel
theorem dX11_tellTwo_8 : decode cX11_tellTwo 8 = .ok (.getfield 78, 3) := by decide +kernel
theorem dX11_tellTwo_11 : decode cX11_tellTwo 11 = .ok (.iconst 1, 1) := by decide +kernel
theorem dX11_tellTwo_12 : decode cX11_tellTwo 12 = .ok (.iload_n 2, 1) := by decide +kernel
theorem dX11_tellTwo_13 : decode cX11_tellTwo 13 = .ok (.iastore, 1) := by decide +kernel
theorem dX11_tellTwo_14 : decode cX11_tellTwo 14 = .ok (.aload_n 0, 1) := by decide +kernel
theorem dX11_tellTwo_15 : decode cX11_tellTwo 15 = .ok (.iconst 2, 1) := by decide +kernel
theorem dX11_tellTwo_16 : decode cX11_tellTwo 16 = .ok (.putfield 82, 3) := by decide +kernel
theorem dX11_tellTwo_19 : decode cX11_tellTwo 19 = .ok (.return_, 1) := by decide +kernel
theorem dX11_tellSmallest_0 : decode cX11_tellSmallest 0 = .ok (.iload_n 1, 1) := by decide +kernel
theorem dX11_tellSmallest_1 : decode cX11_tellSmallest 1 = .ok (.ifCond .ge 5, 3) := by decide +kernel
theorem dX11_tellSmallest_4 : decode cX11_tellSmallest 4 = .ok (.iload_n 1, 1) := by decide +kernel
theorem dX11_tellSmallest_5 : decode cX11_tellSmallest 5 = .ok (.ireturn, 1) := by decide +kernel
theorem dX11_tellSmallest_6 : decode cX11_tellSmallest 6 = .ok (.aload_n 0, 1) := by decide +kernel
theorem dX11_tellSmallest_7 : decode cX11_tellSmallest 7 = .ok (.iload_n 1, 1) := by decide +kernel
theorem dX11_tellSmallest_8 : decode cX11_tellSmallest 8 = .ok (.invokevirtual 182, 3) := by decide +kernel
theorem dX11_tellSmallest_11 : decode cX11_tellSmallest 11 = .ok (.iload_n 1, 1) := by decide +kernel
theorem dX11_tellSmallest_12 : decode cX11_tellSmallest 12 = .ok (.invokestatic 139, 3) := by decide +kernel
theorem dX11_tellSmallest_15 : decode cX11_tellSmallest 15 = .ok (.ireturn, 1) := by decide +kernel
theorem dX11_tellTown_0 : decode cX11_tellTown 0 = .ok (.iconst 0, 1) := by decide +kernel
theorem dX11_tellTown_1 : decode cX11_tellTown 1 = .ok (.istore_n 2, 1) := by decide +kernel
theorem dX11_tellTown_2 : decode cX11_tellTown 2 = .ok (.iload_n 2, 1) := by decide +kernel
theorem dX11_tellTown_3 : decode cX11_tellTown 3 = .ok (.iload_n 1, 1) := by decide +kernel
theorem dX11_tellTown_4 : decode cX11_tellTown 4 = .ok (.if_icmp .ge 24, 3) := by decide +kernel
theorem dX11_tellTown_7 : decode cX11_tellTown 7 = .ok (.aload_n 0, 1) := by decide +kernel
theorem dX11_tellTown_8 : decode cX11_tellTown 8 = .ok (.getfield 78, 3) := by decide +kernel
theorem dX11_tellTown_11 : decode cX11_tellTown 11 = .ok (.iload_n 2, 1) := by decide +kernel
theorem dX11_tellTown_12 : decode cX11_tellTown 12 = .ok (.aload_n 0, 1) := by decide +kernel
theorem dX11_tellTown_13 : decode cX11_tellTown 13 = .ok (.getfield 53, 3) := by decide +kernel
theorem dX11_tellTown_16 : decode cX11_tellTown 16 = .ok (.getfield 316, 3) := by decide +kernel
theorem dX11_tellTown_19 : decode cX11_tellTown 19 = .ok (.iload_n 2, 1) := by decide +kernel
theorem dX11_tellTown_20 : decode cX11_tellTown 20 = .ok (.iaload, 1) := by decide +kernel
theorem dX11_tellTown_21 : decode cX11_tellTown 21 = .ok (.iastore, 1) := by decide +kernel
theorem dX11_tellTown_22 : decode cX11_tellTown 22 = .ok (.iinc 2 1, 3) := by decide +kernel
theorem dX11_tellTown_25 : decode cX11_tellTown 25 = .ok (.goto (-23), 3) := by decide +kernel
theorem dX11_tellTown_28 : decode cX11_tellTown 28 = .ok (.iload_n 1, 1) := by decide +kernel
theorem dX11_tellTown_29 : decode cX11_tellTown 29 = .ok (.ifCond .lt 8, 3) := by decide +kernel
theorem dX11_tellTown_32 : decode cX11_tellTown 32 = .ok (.aload_n 0, 1) := by decide +kernel
theorem dX11_tellTown_33 : decode cX11_tellTown 33 = .ok (.iload_n 1, 1) := by decide +kernel
theorem dX11_tellTown_34 : decode cX11_tellTown 34 = .ok (.putfield 82, 3) := by decide +kernel
theorem dX11_tellTown_37 : decode cX11_tellTown 37 = .ok (.iload_n 1, 1) := by decide +kernel
theorem dX11_tellTown_38 : decode cX11_tellTown 38 = .ok (.ireturn, 1) := by decide +kernel
theorem dX12_thrown_0 : decode cX12_thrown 0 = .ok (.aload_n 0, 1) := by decide +kernel
theorem dX12_thrown_1 : decode cX12_thrown 1 = .ok (.getfield 3, 3) := by decide +kernel
theorem dX12_thrown_4 : decode cX12_thrown 4 = .ok (.ireturn, 1) := by decide +kernel
theorem dX12_refuse_0 : decode cX12_refuse 0 = .ok (.aload_n 0, 1) := by decide +kernel
theorem dX12_refuse_1 : decode cX12_refuse 1 = .ok (.iconst 1, 1) := by decide +kernel
theorem dX12_refuse_2 : decode cX12_refuse 2 = .ok (.putfield 3, 3) := by decide +kernel
theorem dX12_refuse_5 : decode cX12_refuse 5 = .ok (.iconst 0, 1) := by decide +kernel
theorem dX12_refuse_6 : decode cX12_refuse 6 = .ok (.ireturn, 1) := by decide +kernel
theorem dX12_in_0 : decode cX12_in 0 = .ok (.lload_n 0, 1) := by decide +kernel
theorem dX12_in_1 : decode cX12_in 1 = .ok (.lload_n 2, 1) := by decide +kernel
theorem dX12_in_2 : decode cX12_in 2 = .ok (.lcmp, 1) := by decide +kernel
theorem dX12_in_3 : decode cX12_in 3 = .ok (.ifCond .lt 14, 3) := by decide +kernel
theorem dX12_in_6 : decode cX12_in 6 = .ok (.lload_n 0, 1) := by decide +kernel
theorem dX12_in_7 : decode cX12_in 7 = .ok (.lload 4, 2) := by decide +kernel
theorem dX12_in_9 : decode cX12_in 9 = .ok (.lcmp, 1) := by decide +kernel
theorem dX12_in_10 : decode cX12_in 10 = .ok (.ifCond .gt 7, 3) := by decide +kernel
theorem dX12_in_13 : decode cX12_in 13 = .ok (.iconst 1, 1) := by decide +kernel
theorem dX12_in_14 : decode cX12_in 14 = .ok (.goto 4, 3) := by decide +kernel
theorem dX12_in_17 : decode cX12_in 17 = .ok (.iconst 0, 1) := by decide +kernel
theorem dX12_in_18 : decode cX12_in 18 = .ok (.ireturn, 1) := by decide +kernel
theorem dX12_has_0 : decode cX12_has 0 = .ok (.iload_n 0, 1) := by decide +kernel
theorem dX12_has_1 : decode cX12_has 1 = .ok (.iload_n 1, 1) := by decide +kernel
theorem dX12_has_2 : decode cX12_has 2 = .ok (.ishr, 1) := by decide +kernel
theorem dX12_has_3 : decode cX12_has 3 = .ok (.iconst 1, 1) := by decide +kernel
theorem dX12_has_4 : decode cX12_has 4 = .ok (.iand, 1) := by decide +kernel
theorem dX12_has_5 : decode cX12_has 5 = .ok (.iconst 1, 1) := by decide +kernel
theorem dX12_has_6 : decode cX12_has 6 = .ok (.if_icmp .ne 7, 3) := by decide +kernel
theorem dX12_has_9 : decode cX12_has 9 = .ok (.iconst 1, 1) := by decide +kernel
theorem dX12_has_10 : decode cX12_has 10 = .ok (.goto 4, 3) := by decide +kernel
theorem dX12_has_13 : decode cX12_has 13 = .ok (.iconst 0, 1) := by decide +kernel
theorem dX12_has_14 : decode cX12_has 14 = .ok (.ireturn, 1) := by decide +kernel
theorem dX12_flag_0 : decode cX12_flag 0 = .ok (.iload_n 0, 1) := by decide +kernel
theorem dX12_flag_1 : decode cX12_flag 1 = .ok (.ifCond .eq 7, 3) := by decide +kernel
theorem dX12_flag_4 : decode cX12_flag 4 = .ok (.iconst 1, 1) := by decide +kernel
theorem dX12_flag_5 : decode cX12_flag 5 = .ok (.goto 4, 3) := by decide +kernel
theorem dX12_flag_8 : decode cX12_flag 8 = .ok (.iconst 0, 1) := by decide +kernel
theorem dX12_flag_9 : decode cX12_flag 9 = .ok (.ireturn, 1) := by decide +kernel
theorem dX12_enters_0 : decode cX12_enters 0 = .ok (.aload_n 0, 1) := by decide +kernel
theorem dX12_enters_1 : decode cX12_enters 1 = .ok (.getfield 7, 3) := by decide +kernel
theorem dX12_enters_4 : decode cX12_enters 4 = .ok (.aload_n 0, 1) := by decide +kernel
theorem dX12_enters_5 : decode cX12_enters 5 = .ok (.getfield 11, 3) := by decide +kernel
theorem dX12_enters_8 : decode cX12_enters 8 = .ok (.iload_n 1, 1) := by decide +kernel
theorem dX12_enters_9 : decode cX12_enters 9 = .ok (.iastore, 1) := by decide +kernel
theorem dX12_enters_10 : decode cX12_enters 10 = .ok (.aload_n 0, 1) := by decide +kernel
theorem dX12_enters_11 : decode cX12_enters 11 = .ok (.dup, 1) := by decide +kernel
theorem dX12_enters_12 : decode cX12_enters 12 = .ok (.getfield 11, 3) := by decide +kernel
theorem dX12_enters_15 : decode cX12_enters 15 = .ok (.iconst 1, 1) := by decide +kernel
theorem dX12_enters_16 : decode cX12_enters 16 = .ok (.iadd, 1) := by decide +kernel
theorem dX12_enters_17 : decode cX12_enters 17 = .ok (.putfield 11, 3) := by decide +kernel
theorem dX12_enters_20 : decode cX12_enters 20 = .ok (.return_, 1) := by decide +kernel
theorem dX12_formOf_0 : decode cX12_formOf 0 = .ok (.iload_n 0, 1) := by decide +kernel
theorem dX12_formOf_1 : decode cX12_formOf 1 = .ok (.sipush 576, 3) := by decide +kernel
theorem dX12_formOf_4 : decode cX12_formOf 4 = .ok (.idiv, 1) := by decide +kernel
theorem dX12_formOf_5 : decode cX12_formOf 5 = .ok (.ireturn, 1) := by decide +kernel
theorem dX12_firstOf_0 : decode cX12_firstOf 0 = .ok (.iload_n 0, 1) := by decide +kernel
theorem dX12_firstOf_1 : decode cX12_firstOf 1 = .ok (.bipush 24, 2) := by decide +kernel
theorem dX12_firstOf_3 : decode cX12_firstOf 3 = .ok (.idiv, 1) := by decide +kernel
theorem dX12_firstOf_4 : decode cX12_firstOf 4 = .ok (.bipush 24, 2) := by decide +kernel
theorem dX12_firstOf_6 : decode cX12_firstOf 6 = .ok (.irem, 1) := by decide +kernel
theorem dX12_firstOf_7 : decode cX12_firstOf 7 = .ok (.ireturn, 1) := by decide +kernel
theorem dX12_secondOf_0 : decode cX12_secondOf 0 = .ok (.iload_n 0, 1) := by decide +kernel
theorem dX12_secondOf_1 : decode cX12_secondOf 1 = .ok (.bipush 24, 2) := by decide +kernel
theorem dX12_secondOf_3 : decode cX12_secondOf 3 = .ok (.irem, 1) := by decide +kernel
theorem dX12_secondOf_4 : decode cX12_secondOf 4 = .ok (.ireturn, 1) := by decide +kernel
theorem dX12_codeOf_0 : decode cX12_codeOf 0 = .ok (.sipush 576, 3) := by decide +kernel
theorem dX12_codeOf_3 : decode cX12_codeOf 3 = .ok (.iload_n 0, 1) := by decide +kernel
theorem dX12_codeOf_4 : decode cX12_codeOf 4 = .ok (.imul, 1) := by decide +kernel
theorem dX12_codeOf_5 : decode cX12_codeOf 5 = .ok (.bipush 24, 2) := by decide +kernel
theorem dX12_codeOf_7 : decode cX12_codeOf 7 = .ok (.iload_n 1, 1) := by decide +kernel
theorem dX12_codeOf_8 : decode cX12_codeOf 8 = .ok (.imul, 1) := by decide +kernel
theorem dX12_codeOf_9 : decode cX12_codeOf 9 = .ok (.iadd, 1) := by decide +kernel
theorem dX12_codeOf_10 : decode cX12_codeOf 10 = .ok (.iload_n 2, 1) := by decide +kernel
theorem dX12_codeOf_11 : decode cX12_codeOf 11 = .ok (.iadd, 1) := by decide +kernel
theorem dX12_codeOf_12 : decode cX12_codeOf 12 = .ok (.ireturn, 1) := by decide +kernel
theorem dX12_isCode_0 : decode cX12_isCode 0 = .ok (.iload_n 0, 1) := by decide +kernel
theorem dX12_isCode_1 : decode cX12_isCode 1 = .ok (.i2l, 1) := by decide +kernel
theorem dX12_isCode_2 : decode cX12_isCode 2 = .ok (.lconst 0, 1) := by decide +kernel
theorem dX12_isCode_3 : decode cX12_isCode 3 = .ok (.ldc2_w 14, 3) := by decide +kernel
theorem dX12_isCode_6 : decode cX12_isCode 6 = .ok (.invokestatic 16, 3) := by decide +kernel
theorem dX12_isCode_9 : decode cX12_isCode 9 = .ok (.ireturn, 1) := by decide +kernel
theorem dX12_contraryOf_0 : decode cX12_contraryOf 0 = .ok (.iconst 3, 1) := by decide +kernel
theorem dX12_contraryOf_1 : decode cX12_contraryOf 1 = .ok (.iload_n 0, 1) := by decide +kernel
theorem dX12_contraryOf_2 : decode cX12_contraryOf 2 = .ok (.invokestatic 20, 3) := by decide +kernel
theorem dX12_contraryOf_5 : decode cX12_contraryOf 5 = .ok (.isub, 1) := by decide +kernel
theorem dX12_contraryOf_6 : decode cX12_contraryOf 6 = .ok (.iload_n 0, 1) := by decide +kernel
theorem dX12_contraryOf_7 : decode cX12_contraryOf 7 = .ok (.invokestatic 24, 3) := by decide +kernel
theorem dX12_contraryOf_10 : decode cX12_contraryOf 10 = .ok (.iload_n 0, 1) := by decide +kernel
theorem dX12_contraryOf_11 : decode cX12_contraryOf 11 = .ok (.invokestatic 27, 3) := by decide +kernel
theorem dX12_contraryOf_14 : decode cX12_contraryOf 14 = .ok (.invokestatic 30, 3) := by decide +kernel
theorem dX12_contraryOf_17 : decode cX12_contraryOf 17 = .ok (.ireturn, 1) := by decide +kernel
theorem dX12_sign_0 : decode cX12_sign 0 = .ok (.aload_n 0, 1) := by decide +kernel
theorem dX12_sign_1 : decode cX12_sign 1 = .ok (.iconst 0, 1) := by decide +kernel
theorem dX12_sign_2 : decode cX12_sign 2 = .ok (.putfield 3, 3) := by decide +kernel
theorem dX12_sign_5 : decode cX12_sign 5 = .ok (.aload_n 0, 1) := by decide +kernel
theorem dX12_sign_6 : decode cX12_sign 6 = .ok (.getfield 34, 3) := by decide +kernel
theorem dX12_sign_9 : decode cX12_sign 9 = .ok (.bipush 76, 2) := by decide +kernel
theorem dX12_sign_11 : decode cX12_sign 11 = .ok (.if_icmp .le 5, 3) := by decide +kernel
theorem dX12_sign_14 : decode cX12_sign 14 = .ok (.iconst (-1), 1) := by decide +kernel
theorem dX12_sign_15 : decode cX12_sign 15 = .ok (.ireturn, 1) := by decide +kernel
theorem dX12_sign_16 : decode cX12_sign 16 = .ok (.iconst 0, 1) := by decide +kernel
theorem dX12_sign_17 : decode cX12_sign 17 = .ok (.istore_n 2, 1) := by decide +kernel
theorem dX12_sign_18 : decode cX12_sign 18 = .ok (.iload_n 2, 1) := by decide +kernel
theorem dX12_sign_19 : decode cX12_sign 19 = .ok (.iconst 4, 1) := by decide +kernel
theorem dX12_sign_20 : decode cX12_sign 20 = .ok (.if_icmp .ge 33, 3) := by decide +kernel
theorem dX12_sign_23 : decode cX12_sign 23 = .ok (.aload_n 0, 1) := by decide +kernel
theorem dX12_sign_24 : decode cX12_sign 24 = .ok (.getfield 37, 3) := by decide +kernel
theorem dX12_sign_27 : decode cX12_sign 27 = .ok (.aload_n 0, 1) := by decide +kernel
theorem dX12_sign_28 : decode cX12_sign 28 = .ok (.getfield 34, 3) := by decide +kernel
theorem dX12_sign_31 : decode cX12_sign 31 = .ok (.iload_n 2, 1) := by decide +kernel
theorem dX12_sign_32 : decode cX12_sign 32 = .ok (.iadd, 1) := by decide +kernel
theorem dX12_sign_33 : decode cX12_sign 33 = .ok (.iload_n 1, 1) := by decide +kernel
theorem dX12_sign_34 : decode cX12_sign 34 = .ok (.bipush 24, 2) := by decide +kernel
theorem dX12_sign_36 : decode cX12_sign 36 = .ok (.bipush 8, 2) := by decide +kernel
theorem dX12_sign_38 : decode cX12_sign 38 = .ok (.iload_n 2, 1) := by decide +kernel
theorem dX12_sign_39 : decode cX12_sign 39 = .ok (.imul, 1) := by decide +kernel
theorem dX12_sign_40 : decode cX12_sign 40 = .ok (.isub, 1) := by decide +kernel
theorem dX12_sign_41 : decode cX12_sign 41 = .ok (.ishr, 1) := by decide +kernel
theorem dX12_sign_42 : decode cX12_sign 42 = .ok (.sipush 255, 3) := by decide +kernel
theorem dX12_sign_45 : decode cX12_sign 45 = .ok (.iand, 1) := by decide +kernel
theorem dX12_sign_46 : decode cX12_sign 46 = .ok (.iastore, 1) := by decide +kernel
theorem dX12_sign_47 : decode cX12_sign 47 = .ok (.iinc 2 1, 3) := by decide +kernel
theorem dX12_sign_50 : decode cX12_sign 50 = .ok (.goto (-32), 3) := by decide +kernel
theorem dX12_sign_53 : decode cX12_sign 53 = .ok (.aload_n 0, 1) := by decide +kernel
theorem dX12_sign_54 : decode cX12_sign 54 = .ok (.dup, 1) := by decide +kernel
theorem dX12_sign_55 : decode cX12_sign 55 = .ok (.getfield 34, 3) := by decide +kernel
theorem dX12_sign_58 : decode cX12_sign 58 = .ok (.iconst 4, 1) := by decide +kernel
theorem dX12_sign_59 : decode cX12_sign 59 = .ok (.iadd, 1) := by decide +kernel
theorem dX12_sign_60 : decode cX12_sign 60 = .ok (.putfield 34, 3) := by decide +kernel
theorem dX12_sign_63 : decode cX12_sign 63 = .ok (.aload_n 0, 1) := by decide +kernel
theorem dX12_sign_64 : decode cX12_sign 64 = .ok (.getfield 34, 3) := by decide +kernel
theorem dX12_sign_67 : decode cX12_sign 67 = .ok (.ireturn, 1) := by decide +kernel
theorem dX12_end_0 : decode cX12_end 0 = .ok (.aload_n 0, 1) := by decide +kernel
theorem dX12_end_1 : decode cX12_end 1 = .ok (.iconst 0, 1) := by decide +kernel
theorem dX12_end_2 : decode cX12_end 2 = .ok (.putfield 3, 3) := by decide +kernel
theorem dX12_end_5 : decode cX12_end 5 = .ok (.iload_n 1, 1) := by decide +kernel
theorem dX12_end_6 : decode cX12_end 6 = .ok (.i2l, 1) := by decide +kernel
theorem dX12_end_7 : decode cX12_end 7 = .ok (.lconst 0, 1) := by decide +kernel
theorem dX12_end_8 : decode cX12_end 8 = .ok (.aload_n 0, 1) := by decide +kernel
theorem dX12_end_9 : decode cX12_end 9 = .ok (.getfield 34, 3) := by decide +kernel
theorem dX12_end_12 : decode cX12_end 12 = .ok (.i2l, 1) := by decide +kernel
theorem dX12_end_13 : decode cX12_end 13 = .ok (.invokestatic 16, 3) := by decide +kernel
theorem dX12_end_16 : decode cX12_end 16 = .ok (.ifCond .ne 5, 3) := by decide +kernel
theorem dX12_end_19 : decode cX12_end 19 = .ok (.iconst 0, 1) := by decide +kernel
theorem dX12_end_20 : decode cX12_end 20 = .ok (.ireturn, 1) := by decide +kernel
theorem dX12_end_21 : decode cX12_end 21 = .ok (.aload_n 0, 1) := by decide +kernel
theorem dX12_end_22 : decode cX12_end 22 = .ok (.iload_n 1, 1) := by decide +kernel
theorem dX12_end_23 : decode cX12_end 23 = .ok (.putfield 34, 3) := by decide +kernel
theorem dX12_end_26 : decode cX12_end 26 = .ok (.iconst 1, 1) := by decide +kernel
theorem dX12_end_27 : decode cX12_end 27 = .ok (.ireturn, 1) := by decide +kernel
theorem dX12_begins_0 : decode cX12_begins 0 = .ok (.aload_n 0, 1) := by decide +kernel
theorem dX12_begins_1 : decode cX12_begins 1 = .ok (.getfield 34, 3) := by decide +kernel
theorem dX12_begins_4 : decode cX12_begins 4 = .ok (.istore_n 1, 1) := by decide +kernel
theorem dX12_begins_5 : decode cX12_begins 5 = .ok (.aload_n 0, 1) := by decide +kernel
theorem dX12_begins_6 : decode cX12_begins 6 = .ok (.iconst 0, 1) := by decide +kernel
theorem dX12_begins_7 : decode cX12_begins 7 = .ok (.putfield 34, 3) := by decide +kernel
theorem dX12_begins_10 : decode cX12_begins 10 = .ok (.aload_n 0, 1) := by decide +kernel
theorem dX12_begins_11 : decode cX12_begins 11 = .ok (.iconst 0, 1) := by decide +kernel
theorem dX12_begins_12 : decode cX12_begins 12 = .ok (.putfield 40, 3) := by decide +kernel
theorem dX12_begins_15 : decode cX12_begins 15 = .ok (.aload_n 0, 1) := by decide +kernel
theorem dX12_begins_16 : decode cX12_begins 16 = .ok (.iload_n 1, 1) := by decide +kernel
theorem dX12_begins_17 : decode cX12_begins 17 = .ok (.bipush 76, 2) := by decide +kernel
theorem dX12_begins_19 : decode cX12_begins 19 = .ok (.invokestatic 43, 3) := by decide +kernel
theorem dX12_begins_22 : decode cX12_begins 22 = .ok (.putfield 49, 3) := by decide +kernel
theorem dX12_begins_25 : decode cX12_begins 25 = .ok (.iload_n 1, 1) := by decide +kernel
theorem dX12_begins_26 : decode cX12_begins 26 = .ok (.ireturn, 1) := by decide +kernel
theorem dX12_takes_0 : decode cX12_takes 0 = .ok (.aload_n 0, 1) := by decide +kernel
theorem dX12_takes_1 : decode cX12_takes 1 = .ok (.getfield 40, 3) := by decide +kernel
theorem dX12_takes_4 : decode cX12_takes 4 = .ok (.aload_n 0, 1) := by decide +kernel
theorem dX12_takes_5 : decode cX12_takes 5 = .ok (.getfield 49, 3) := by decide +kernel
theorem dX12_takes_8 : decode cX12_takes 8 = .ok (.if_icmp .ge 20, 3) := by decide +kernel
theorem dX12_takes_11 : decode cX12_takes 11 = .ok (.aload_n 0, 1) := by decide +kernel
theorem dX12_takes_12 : decode cX12_takes 12 = .ok (.getfield 37, 3) := by decide +kernel
theorem dX12_takes_15 : decode cX12_takes 15 = .ok (.aload_n 0, 1) := by decide +kernel
theorem dX12_takes_16 : decode cX12_takes 16 = .ok (.getfield 40, 3) := by decide +kernel
theorem dX12_takes_19 : decode cX12_takes 19 = .ok (.iaload, 1) := by decide +kernel
theorem dX12_takes_20 : decode cX12_takes 20 = .ok (.iload_n 1, 1) := by decide +kernel
