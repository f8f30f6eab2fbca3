theorem dX12_takes_21 : decode cX12_takes 21 = .ok (.if_icmp .ne 7, 3) := by decide +kernel
theorem dX12_takes_24 : decode cX12_takes 24 = .ok (.iconst 1, 1) := by decide +kernel
theorem dX12_takes_25 : decode cX12_takes 25 = .ok (.goto 4, 3) := by decide +kernel
theorem dX12_takes_28 : decode cX12_takes 28 = .ok (.iconst 0, 1) := by decide +kernel
theorem dX12_takes_29 : decode cX12_takes 29 = .ok (.istore_n 2, 1) := by decide +kernel
theorem dX12_takes_30 : decode cX12_takes 30 = .ok (.aload_n 0, 1) := by decide +kernel
theorem dX12_takes_31 : decode cX12_takes 31 = .ok (.dup, 1) := by decide +kernel
theorem dX12_takes_32 : decode cX12_takes 32 = .ok (.getfield 40, 3) := by decide +kernel
theorem dX12_takes_35 : decode cX12_takes 35 = .ok (.iload_n 2, 1) := by decide +kernel
theorem dX12_takes_36 : decode cX12_takes 36 = .ok (.invokestatic 52, 3) := by decide +kernel
theorem dX12_takes_39 : decode cX12_takes 39 = .ok (.iadd, 1) := by decide +kernel
theorem dX12_takes_40 : decode cX12_takes 40 = .ok (.putfield 40, 3) := by decide +kernel
theorem dX12_takes_43 : decode cX12_takes 43 = .ok (.iload_n 2, 1) := by decide +kernel
theorem dX12_takes_44 : decode cX12_takes 44 = .ok (.ireturn, 1) := by decide +kernel
theorem dX12_isDigit_0 : decode cX12_isDigit 0 = .ok (.aload_n 0, 1) := by decide +kernel
theorem dX12_isDigit_1 : decode cX12_isDigit 1 = .ok (.getfield 40, 3) := by decide +kernel
theorem dX12_isDigit_4 : decode cX12_isDigit 4 = .ok (.aload_n 0, 1) := by decide +kernel
theorem dX12_isDigit_5 : decode cX12_isDigit 5 = .ok (.getfield 49, 3) := by decide +kernel
theorem dX12_isDigit_8 : decode cX12_isDigit 8 = .ok (.if_icmp .ge 29, 3) := by decide +kernel
theorem dX12_isDigit_11 : decode cX12_isDigit 11 = .ok (.aload_n 0, 1) := by decide +kernel
theorem dX12_isDigit_12 : decode cX12_isDigit 12 = .ok (.getfield 37, 3) := by decide +kernel
theorem dX12_isDigit_15 : decode cX12_isDigit 15 = .ok (.aload_n 0, 1) := by decide +kernel
theorem dX12_isDigit_16 : decode cX12_isDigit 16 = .ok (.getfield 40, 3) := by decide +kernel
theorem dX12_isDigit_19 : decode cX12_isDigit 19 = .ok (.iaload, 1) := by decide +kernel
theorem dX12_isDigit_20 : decode cX12_isDigit 20 = .ok (.i2l, 1) := by decide +kernel
theorem dX12_isDigit_21 : decode cX12_isDigit 21 = .ok (.ldc2_w 56, 3) := by decide +kernel
theorem dX12_isDigit_24 : decode cX12_isDigit 24 = .ok (.ldc2_w 58, 3) := by decide +kernel
theorem dX12_isDigit_27 : decode cX12_isDigit 27 = .ok (.invokestatic 16, 3) := by decide +kernel
theorem dX12_isDigit_30 : decode cX12_isDigit 30 = .ok (.ifCond .eq 7, 3) := by decide +kernel
theorem dX12_isDigit_33 : decode cX12_isDigit 33 = .ok (.iconst 1, 1) := by decide +kernel
theorem dX12_isDigit_34 : decode cX12_isDigit 34 = .ok (.goto 4, 3) := by decide +kernel
theorem dX12_isDigit_37 : decode cX12_isDigit 37 = .ok (.iconst 0, 1) := by decide +kernel
theorem dX12_isDigit_38 : decode cX12_isDigit 38 = .ok (.ireturn, 1) := by decide +kernel
theorem dX12_digit_0 : decode cX12_digit 0 = .ok (.aload_n 0, 1) := by decide +kernel
theorem dX12_digit_1 : decode cX12_digit 1 = .ok (.invokevirtual 60, 3) := by decide +kernel
theorem dX12_digit_4 : decode cX12_digit 4 = .ok (.ifCond .eq 19, 3) := by decide +kernel
theorem dX12_digit_7 : decode cX12_digit 7 = .ok (.aload_n 0, 1) := by decide +kernel
theorem dX12_digit_8 : decode cX12_digit 8 = .ok (.getfield 37, 3) := by decide +kernel
theorem dX12_digit_11 : decode cX12_digit 11 = .ok (.aload_n 0, 1) := by decide +kernel
theorem dX12_digit_12 : decode cX12_digit 12 = .ok (.getfield 40, 3) := by decide +kernel
theorem dX12_digit_15 : decode cX12_digit 15 = .ok (.iaload, 1) := by decide +kernel
theorem dX12_digit_16 : decode cX12_digit 16 = .ok (.bipush 48, 2) := by decide +kernel
theorem dX12_digit_18 : decode cX12_digit 18 = .ok (.isub, 1) := by decide +kernel
theorem dX12_digit_19 : decode cX12_digit 19 = .ok (.iload_n 1, 1) := by decide +kernel
theorem dX12_digit_20 : decode cX12_digit 20 = .ok (.if_icmp .le 5, 3) := by decide +kernel
theorem dX12_digit_23 : decode cX12_digit 23 = .ok (.iconst (-1), 1) := by decide +kernel
theorem dX12_digit_24 : decode cX12_digit 24 = .ok (.ireturn, 1) := by decide +kernel
theorem dX12_digit_25 : decode cX12_digit 25 = .ok (.aload_n 0, 1) := by decide +kernel
theorem dX12_digit_26 : decode cX12_digit 26 = .ok (.dup, 1) := by decide +kernel
theorem dX12_digit_27 : decode cX12_digit 27 = .ok (.getfield 40, 3) := by decide +kernel
theorem dX12_digit_30 : decode cX12_digit 30 = .ok (.iconst 1, 1) := by decide +kernel
theorem dX12_digit_31 : decode cX12_digit 31 = .ok (.iadd, 1) := by decide +kernel
theorem dX12_digit_32 : decode cX12_digit 32 = .ok (.putfield 40, 3) := by decide +kernel
theorem dX12_digit_35 : decode cX12_digit 35 = .ok (.aload_n 0, 1) := by decide +kernel
theorem dX12_digit_36 : decode cX12_digit 36 = .ok (.getfield 37, 3) := by decide +kernel
theorem dX12_digit_39 : decode cX12_digit 39 = .ok (.aload_n 0, 1) := by decide +kernel
theorem dX12_digit_40 : decode cX12_digit 40 = .ok (.getfield 40, 3) := by decide +kernel
theorem dX12_digit_43 : decode cX12_digit 43 = .ok (.iconst 1, 1) := by decide +kernel
theorem dX12_digit_44 : decode cX12_digit 44 = .ok (.isub, 1) := by decide +kernel
theorem dX12_digit_45 : decode cX12_digit 45 = .ok (.iaload, 1) := by decide +kernel
theorem dX12_digit_46 : decode cX12_digit 46 = .ok (.bipush 48, 2) := by decide +kernel
theorem dX12_digit_48 : decode cX12_digit 48 = .ok (.isub, 1) := by decide +kernel
theorem dX12_digit_49 : decode cX12_digit 49 = .ok (.ireturn, 1) := by decide +kernel
theorem dX12_formAt_0 : decode cX12_formAt 0 = .ok (.ldc 64, 2) := by decide +kernel
theorem dX12_formAt_2 : decode cX12_formAt 2 = .ok (.astore_n 1, 1) := by decide +kernel
theorem dX12_formAt_3 : decode cX12_formAt 3 = .ok (.iconst 0, 1) := by decide +kernel
theorem dX12_formAt_4 : decode cX12_formAt 4 = .ok (.istore_n 2, 1) := by decide +kernel
theorem dX12_formAt_5 : decode cX12_formAt 5 = .ok (.iload_n 2, 1) := by decide +kernel
theorem dX12_formAt_6 : decode cX12_formAt 6 = .ok (.iconst 4, 1) := by decide +kernel
theorem dX12_formAt_7 : decode cX12_formAt 7 = .ok (.if_icmp .ge 39, 3) := by decide +kernel
theorem dX12_formAt_10 : decode cX12_formAt 10 = .ok (.aload_n 0, 1) := by decide +kernel
theorem dX12_formAt_11 : decode cX12_formAt 11 = .ok (.getfield 40, 3) := by decide +kernel
theorem dX12_formAt_14 : decode cX12_formAt 14 = .ok (.aload_n 0, 1) := by decide +kernel
theorem dX12_formAt_15 : decode cX12_formAt 15 = .ok (.getfield 49, 3) := by decide +kernel
theorem dX12_formAt_18 : decode cX12_formAt 18 = .ok (.if_icmp .ge 28, 3) := by decide +kernel
theorem dX12_formAt_21 : decode cX12_formAt 21 = .ok (.aload_n 1, 1) := by decide +kernel
theorem dX12_formAt_22 : decode cX12_formAt 22 = .ok (.iload_n 2, 1) := by decide +kernel
theorem dX12_formAt_23 : decode cX12_formAt 23 = .ok (.invokevirtual 66, 3) := by decide +kernel
theorem dX12_formAt_26 : decode cX12_formAt 26 = .ok (.aload_n 0, 1) := by decide +kernel
theorem dX12_formAt_27 : decode cX12_formAt 27 = .ok (.getfield 37, 3) := by decide +kernel
theorem dX12_formAt_30 : decode cX12_formAt 30 = .ok (.aload_n 0, 1) := by decide +kernel
theorem dX12_formAt_31 : decode cX12_formAt 31 = .ok (.getfield 40, 3) := by decide +kernel
theorem dX12_formAt_34 : decode cX12_formAt 34 = .ok (.iaload, 1) := by decide +kernel
theorem dX12_formAt_35 : decode cX12_formAt 35 = .ok (.if_icmp .ne 5, 3) := by decide +kernel
theorem dX12_formAt_38 : decode cX12_formAt 38 = .ok (.iload_n 2, 1) := by decide +kernel
theorem dX12_formAt_39 : decode cX12_formAt 39 = .ok (.ireturn, 1) := by decide +kernel
theorem dX12_formAt_40 : decode cX12_formAt 40 = .ok (.iinc 2 1, 3) := by decide +kernel
theorem dX12_formAt_43 : decode cX12_formAt 43 = .ok (.goto (-38), 3) := by decide +kernel
theorem dX12_formAt_46 : decode cX12_formAt 46 = .ok (.iconst (-1), 1) := by decide +kernel
theorem dX12_formAt_47 : decode cX12_formAt 47 = .ok (.ireturn, 1) := by decide +kernel
theorem dX12_term_0 : decode cX12_term 0 = .ok (.aload_n 0, 1) := by decide +kernel
theorem dX12_term_1 : decode cX12_term 1 = .ok (.bipush 45, 2) := by decide +kernel
theorem dX12_term_3 : decode cX12_term 3 = .ok (.invokevirtual 72, 3) := by decide +kernel
theorem dX12_term_6 : decode cX12_term 6 = .ok (.invokestatic 52, 3) := by decide +kernel
theorem dX12_term_9 : decode cX12_term 9 = .ok (.istore_n 1, 1) := by decide +kernel
theorem dX12_term_10 : decode cX12_term 10 = .ok (.aload_n 0, 1) := by decide +kernel
theorem dX12_term_11 : decode cX12_term 11 = .ok (.getfield 40, 3) := by decide +kernel
theorem dX12_term_14 : decode cX12_term 14 = .ok (.aload_n 0, 1) := by decide +kernel
theorem dX12_term_15 : decode cX12_term 15 = .ok (.getfield 49, 3) := by decide +kernel
theorem dX12_term_18 : decode cX12_term 18 = .ok (.if_icmp .ge 25, 3) := by decide +kernel
theorem dX12_term_21 : decode cX12_term 21 = .ok (.aload_n 0, 1) := by decide +kernel
theorem dX12_term_22 : decode cX12_term 22 = .ok (.getfield 37, 3) := by decide +kernel
theorem dX12_term_25 : decode cX12_term 25 = .ok (.aload_n 0, 1) := by decide +kernel
theorem dX12_term_26 : decode cX12_term 26 = .ok (.getfield 40, 3) := by decide +kernel
theorem dX12_term_29 : decode cX12_term 29 = .ok (.iaload, 1) := by decide +kernel
theorem dX12_term_30 : decode cX12_term 30 = .ok (.i2l, 1) := by decide +kernel
theorem dX12_term_31 : decode cX12_term 31 = .ok (.ldc2_w 76, 3) := by decide +kernel
theorem dX12_term_34 : decode cX12_term 34 = .ok (.ldc2_w 78, 3) := by decide +kernel
theorem dX12_term_37 : decode cX12_term 37 = .ok (.invokestatic 16, 3) := by decide +kernel
theorem dX12_term_40 : decode cX12_term 40 = .ok (.ifCond .ne 5, 3) := by decide +kernel
theorem dX12_term_43 : decode cX12_term 43 = .ok (.iconst (-1), 1) := by decide +kernel
theorem dX12_term_44 : decode cX12_term 44 = .ok (.ireturn, 1) := by decide +kernel
theorem dX12_term_45 : decode cX12_term 45 = .ok (.aload_n 0, 1) := by decide +kernel
theorem dX12_term_46 : decode cX12_term 46 = .ok (.dup, 1) := by decide +kernel
theorem dX12_term_47 : decode cX12_term 47 = .ok (.getfield 40, 3) := by decide +kernel
theorem dX12_term_50 : decode cX12_term 50 = .ok (.iconst 1, 1) := by decide +kernel
theorem dX12_term_51 : decode cX12_term 51 = .ok (.iadd, 1) := by decide +kernel
theorem dX12_term_52 : decode cX12_term 52 = .ok (.putfield 40, 3) := by decide +kernel
theorem dX12_term_55 : decode cX12_term 55 = .ok (.iconst 2, 1) := by decide +kernel
theorem dX12_term_56 : decode cX12_term 56 = .ok (.aload_n 0, 1) := by decide +kernel
theorem dX12_term_57 : decode cX12_term 57 = .ok (.getfield 37, 3) := by decide +kernel
theorem dX12_term_60 : decode cX12_term 60 = .ok (.aload_n 0, 1) := by decide +kernel
theorem dX12_term_61 : decode cX12_term 61 = .ok (.getfield 40, 3) := by decide +kernel
theorem dX12_term_64 : decode cX12_term 64 = .ok (.iconst 1, 1) := by decide +kernel
theorem dX12_term_65 : decode cX12_term 65 = .ok (.isub, 1) := by decide +kernel
theorem dX12_term_66 : decode cX12_term 66 = .ok (.iaload, 1) := by decide +kernel
theorem dX12_term_67 : decode cX12_term 67 = .ok (.bipush 97, 2) := by decide +kernel
theorem dX12_term_69 : decode cX12_term 69 = .ok (.isub, 1) := by decide +kernel
theorem dX12_term_70 : decode cX12_term 70 = .ok (.imul, 1) := by decide +kernel
theorem dX12_term_71 : decode cX12_term 71 = .ok (.iload_n 1, 1) := by decide +kernel
theorem dX12_term_72 : decode cX12_term 72 = .ok (.iadd, 1) := by decide +kernel
theorem dX12_term_73 : decode cX12_term 73 = .ok (.ireturn, 1) := by decide +kernel
theorem dX12_readsCode_0 : decode cX12_readsCode 0 = .ok (.aload_n 0, 1) := by decide +kernel
theorem dX12_readsCode_1 : decode cX12_readsCode 1 = .ok (.invokevirtual 80, 3) := by decide +kernel
theorem dX12_readsCode_4 : decode cX12_readsCode 4 = .ok (.istore_n 1, 1) := by decide +kernel
theorem dX12_readsCode_5 : decode cX12_readsCode 5 = .ok (.iload_n 1, 1) := by decide +kernel
theorem dX12_readsCode_6 : decode cX12_readsCode 6 = .ok (.ifCond .ge 5, 3) := by decide +kernel
theorem dX12_readsCode_9 : decode cX12_readsCode 9 = .ok (.iconst (-1), 1) := by decide +kernel
theorem dX12_readsCode_10 : decode cX12_readsCode 10 = .ok (.ireturn, 1) := by decide +kernel
theorem dX12_readsCode_11 : decode cX12_readsCode 11 = .ok (.aload_n 0, 1) := by decide +kernel
theorem dX12_readsCode_12 : decode cX12_readsCode 12 = .ok (.dup, 1) := by decide +kernel
theorem dX12_readsCode_13 : decode cX12_readsCode 13 = .ok (.getfield 40, 3) := by decide +kernel
theorem dX12_readsCode_16 : decode cX12_readsCode 16 = .ok (.iconst 1, 1) := by decide +kernel
theorem dX12_readsCode_17 : decode cX12_readsCode 17 = .ok (.iadd, 1) := by decide +kernel
theorem dX12_readsCode_18 : decode cX12_readsCode 18 = .ok (.putfield 40, 3) := by decide +kernel
theorem dX12_readsCode_21 : decode cX12_readsCode 21 = .ok (.aload_n 0, 1) := by decide +kernel
theorem dX12_readsCode_22 : decode cX12_readsCode 22 = .ok (.invokevirtual 84, 3) := by decide +kernel
theorem dX12_readsCode_25 : decode cX12_readsCode 25 = .ok (.istore_n 2, 1) := by decide +kernel
theorem dX12_readsCode_26 : decode cX12_readsCode 26 = .ok (.iload_n 2, 1) := by decide +kernel
theorem dX12_readsCode_27 : decode cX12_readsCode 27 = .ok (.ifCond .ge 7, 3) := by decide +kernel
theorem dX12_readsCode_30 : decode cX12_readsCode 30 = .ok (.iconst (-1), 1) := by decide +kernel
theorem dX12_readsCode_31 : decode cX12_readsCode 31 = .ok (.goto 7, 3) := by decide +kernel
theorem dX12_readsCode_34 : decode cX12_readsCode 34 = .ok (.aload_n 0, 1) := by decide +kernel
theorem dX12_readsCode_35 : decode cX12_readsCode 35 = .ok (.invokevirtual 84, 3) := by decide +kernel
theorem dX12_readsCode_38 : decode cX12_readsCode 38 = .ok (.istore_n 3, 1) := by decide +kernel
theorem dX12_readsCode_39 : decode cX12_readsCode 39 = .ok (.iload_n 3, 1) := by decide +kernel
theorem dX12_readsCode_40 : decode cX12_readsCode 40 = .ok (.ifCond .ge 7, 3) := by decide +kernel
theorem dX12_readsCode_43 : decode cX12_readsCode 43 = .ok (.iconst (-1), 1) := by decide +kernel
theorem dX12_readsCode_44 : decode cX12_readsCode 44 = .ok (.goto 9, 3) := by decide +kernel
theorem dX12_readsCode_47 : decode cX12_readsCode 47 = .ok (.iload_n 1, 1) := by decide +kernel
theorem dX12_readsCode_48 : decode cX12_readsCode 48 = .ok (.iload_n 2, 1) := by decide +kernel
theorem dX12_readsCode_49 : decode cX12_readsCode 49 = .ok (.iload_n 3, 1) := by decide +kernel
theorem dX12_readsCode_50 : decode cX12_readsCode 50 = .ok (.invokestatic 30, 3) := by decide +kernel
theorem dX12_readsCode_53 : decode cX12_readsCode 53 = .ok (.ireturn, 1) := by decide +kernel
theorem dX12_faultOf_0 : decode cX12_faultOf 0 = .ok (.iload_n 2, 1) := by decide +kernel
theorem dX12_faultOf_1 : decode cX12_faultOf 1 = .ok (.ifCond .eq 18, 3) := by decide +kernel
theorem dX12_faultOf_4 : decode cX12_faultOf 4 = .ok (.aload_n 0, 1) := by decide +kernel
theorem dX12_faultOf_5 : decode cX12_faultOf 5 = .ok (.getfield 40, 3) := by decide +kernel
theorem dX12_faultOf_8 : decode cX12_faultOf 8 = .ok (.aload_n 0, 1) := by decide +kernel
theorem dX12_faultOf_9 : decode cX12_faultOf 9 = .ok (.getfield 49, 3) := by decide +kernel
theorem dX12_faultOf_12 : decode cX12_faultOf 12 = .ok (.if_icmp .ne 7, 3) := by decide +kernel
theorem dX12_faultOf_15 : decode cX12_faultOf 15 = .ok (.iconst 1, 1) := by decide +kernel
theorem dX12_faultOf_16 : decode cX12_faultOf 16 = .ok (.goto 4, 3) := by decide +kernel
theorem dX12_faultOf_19 : decode cX12_faultOf 19 = .ok (.iconst 0, 1) := by decide +kernel
theorem dX12_faultOf_20 : decode cX12_faultOf 20 = .ok (.istore_n 3, 1) := by decide +kernel
theorem dX12_faultOf_21 : decode cX12_faultOf 21 = .ok (.iload_n 1, 1) := by decide +kernel
theorem dX12_faultOf_22 : decode cX12_faultOf 22 = .ok (.bipush 76, 2) := by decide +kernel
theorem dX12_faultOf_24 : decode cX12_faultOf 24 = .ok (.if_icmp .le 19, 3) := by decide +kernel
theorem dX12_faultOf_27 : decode cX12_faultOf 27 = .ok (.iload_n 3, 1) := by decide +kernel
theorem dX12_faultOf_28 : decode cX12_faultOf 28 = .ok (.ifCond .ne 12, 3) := by decide +kernel
theorem dX12_faultOf_31 : decode cX12_faultOf 31 = .ok (.aload_n 0, 1) := by decide +kernel
theorem dX12_faultOf_32 : decode cX12_faultOf 32 = .ok (.getfield 40, 3) := by decide +kernel
theorem dX12_faultOf_35 : decode cX12_faultOf 35 = .ok (.bipush 76, 2) := by decide +kernel
theorem dX12_faultOf_37 : decode cX12_faultOf 37 = .ok (.if_icmp .lt 6, 3) := by decide +kernel
theorem dX12_faultOf_40 : decode cX12_faultOf 40 = .ok (.bipush (-77), 2) := by decide +kernel
theorem dX12_faultOf_42 : decode cX12_faultOf 42 = .ok (.ireturn, 1) := by decide +kernel
theorem dX12_faultOf_43 : decode cX12_faultOf 43 = .ok (.iload_n 3, 1) := by decide +kernel
theorem dX12_faultOf_44 : decode cX12_faultOf 44 = .ok (.ifCond .eq 7, 3) := by decide +kernel
theorem dX12_faultOf_47 : decode cX12_faultOf 47 = .ok (.iconst 0, 1) := by decide +kernel
theorem dX12_faultOf_48 : decode cX12_faultOf 48 = .ok (.goto 9, 3) := by decide +kernel
theorem dX12_faultOf_51 : decode cX12_faultOf 51 = .ok (.iconst (-1), 1) := by decide +kernel
theorem dX12_faultOf_52 : decode cX12_faultOf 52 = .ok (.aload_n 0, 1) := by decide +kernel
theorem dX12_faultOf_53 : decode cX12_faultOf 53 = .ok (.getfield 40, 3) := by decide +kernel
theorem dX12_faultOf_56 : decode cX12_faultOf 56 = .ok (.isub, 1) := by decide +kernel
theorem dX12_faultOf_57 : decode cX12_faultOf 57 = .ok (.ireturn, 1) := by decide +kernel
theorem dX12_readsSaying_0 : decode cX12_readsSaying 0 = .ok (.iload_n 1, 1) := by decide +kernel
theorem dX12_readsSaying_1 : decode cX12_readsSaying 1 = .ok (.bipush 16, 2) := by decide +kernel
theorem dX12_readsSaying_3 : decode cX12_readsSaying 3 = .ok (.if_icmp .lt 5, 3) := by decide +kernel
theorem dX12_readsSaying_6 : decode cX12_readsSaying 6 = .ok (.iconst 0, 1) := by decide +kernel
theorem dX12_readsSaying_7 : decode cX12_readsSaying 7 = .ok (.ireturn, 1) := by decide +kernel
theorem dX12_readsSaying_8 : decode cX12_readsSaying 8 = .ok (.aload_n 0, 1) := by decide +kernel
theorem dX12_readsSaying_9 : decode cX12_readsSaying 9 = .ok (.getfield 87, 3) := by decide +kernel
theorem dX12_readsSaying_12 : decode cX12_readsSaying 12 = .ok (.iload_n 1, 1) := by decide +kernel
theorem dX12_readsSaying_13 : decode cX12_readsSaying 13 = .ok (.aload_n 0, 1) := by decide +kernel
theorem dX12_readsSaying_14 : decode cX12_readsSaying 14 = .ok (.invokevirtual 90, 3) := by decide +kernel
theorem dX12_readsSaying_17 : decode cX12_readsSaying 17 = .ok (.iastore, 1) := by decide +kernel
theorem dX12_readsSaying_18 : decode cX12_readsSaying 18 = .ok (.aload_n 0, 1) := by decide +kernel
theorem dX12_readsSaying_19 : decode cX12_readsSaying 19 = .ok (.getfield 87, 3) := by decide +kernel
theorem dX12_readsSaying_22 : decode cX12_readsSaying 22 = .ok (.iload_n 1, 1) := by decide +kernel
theorem dX12_readsSaying_23 : decode cX12_readsSaying 23 = .ok (.iaload, 1) := by decide +kernel
theorem dX12_readsSaying_24 : decode cX12_readsSaying 24 = .ok (.ifCond .lt 12, 3) := by decide +kernel
theorem dX12_readsSaying_27 : decode cX12_readsSaying 27 = .ok (.aload_n 0, 1) := by decide +kernel
theorem dX12_readsSaying_28 : decode cX12_readsSaying 28 = .ok (.bipush 64, 2) := by decide +kernel
theorem dX12_readsSaying_30 : decode cX12_readsSaying 30 = .ok (.invokevirtual 72, 3) := by decide +kernel
theorem dX12_readsSaying_33 : decode cX12_readsSaying 33 = .ok (.ifCond .ne 5, 3) := by decide +kernel
theorem dX12_readsSaying_36 : decode cX12_readsSaying 36 = .ok (.iconst 0, 1) := by decide +kernel
theorem dX12_readsSaying_37 : decode cX12_readsSaying 37 = .ok (.ireturn, 1) := by decide +kernel
theorem dX12_readsSaying_38 : decode cX12_readsSaying 38 = .ok (.aload_n 0, 1) := by decide +kernel
theorem dX12_readsSaying_39 : decode cX12_readsSaying 39 = .ok (.getfield 93, 3) := by decide +kernel
theorem dX12_readsSaying_42 : decode cX12_readsSaying 42 = .ok (.iload_n 1, 1) := by decide +kernel
theorem dX12_readsSaying_43 : decode cX12_readsSaying 43 = .ok (.aload_n 0, 1) := by decide +kernel
theorem dX12_readsSaying_44 : decode cX12_readsSaying 44 = .ok (.bipush 7, 2) := by decide +kernel
theorem dX12_readsSaying_46 : decode cX12_readsSaying 46 = .ok (.invokevirtual 96, 3) := by decide +kernel
theorem dX12_readsSaying_49 : decode cX12_readsSaying 49 = .ok (.iastore, 1) := by decide +kernel
theorem dX12_readsSaying_50 : decode cX12_readsSaying 50 = .ok (.aload_n 0, 1) := by decide +kernel
theorem dX12_readsSaying_51 : decode cX12_readsSaying 51 = .ok (.getfield 93, 3) := by decide +kernel
theorem dX12_readsSaying_54 : decode cX12_readsSaying 54 = .ok (.iload_n 1, 1) := by decide +kernel
theorem dX12_readsSaying_55 : decode cX12_readsSaying 55 = .ok (.iaload, 1) := by decide +kernel
theorem dX12_readsSaying_56 : decode cX12_readsSaying 56 = .ok (.ifCond .ge 5, 3) := by decide +kernel
theorem dX12_readsSaying_59 : decode cX12_readsSaying 59 = .ok (.iconst 0, 1) := by decide +kernel
theorem dX12_readsSaying_60 : decode cX12_readsSaying 60 = .ok (.ireturn, 1) := by decide +kernel
theorem dX12_readsSaying_61 : decode cX12_readsSaying 61 = .ok (.aload_n 0, 1) := by decide +kernel
theorem dX12_readsSaying_62 : decode cX12_readsSaying 62 = .ok (.dup, 1) := by decide +kernel
theorem dX12_readsSaying_63 : decode cX12_readsSaying 63 = .ok (.getfield 99, 3) := by decide +kernel
theorem dX12_readsSaying_66 : decode cX12_readsSaying 66 = .ok (.aload_n 0, 1) := by decide +kernel
theorem dX12_readsSaying_67 : decode cX12_readsSaying 67 = .ok (.bipush 63, 2) := by decide +kernel
theorem dX12_readsSaying_69 : decode cX12_readsSaying 69 = .ok (.invokevirtual 72, 3) := by decide +kernel
theorem dX12_readsSaying_72 : decode cX12_readsSaying 72 = .ok (.ifCond .eq 9, 3) := by decide +kernel
theorem dX12_readsSaying_75 : decode cX12_readsSaying 75 = .ok (.iconst 1, 1) := by decide +kernel
theorem dX12_readsSaying_76 : decode cX12_readsSaying 76 = .ok (.iload_n 1, 1) := by decide +kernel
theorem dX12_readsSaying_77 : decode cX12_readsSaying 77 = .ok (.ishl, 1) := by decide +kernel
theorem dX12_readsSaying_78 : decode cX12_readsSaying 78 = .ok (.goto 4, 3) := by decide +kernel
theorem dX12_readsSaying_81 : decode cX12_readsSaying 81 = .ok (.iconst 0, 1) := by decide +kernel
theorem dX12_readsSaying_82 : decode cX12_readsSaying 82 = .ok (.ior, 1) := by decide +kernel
theorem dX12_readsSaying_83 : decode cX12_readsSaying 83 = .ok (.putfield 99, 3) := by decide +kernel
theorem dX12_readsSaying_86 : decode cX12_readsSaying 86 = .ok (.iconst 1, 1) := by decide +kernel
theorem dX12_readsSaying_87 : decode cX12_readsSaying 87 = .ok (.ireturn, 1) := by decide +kernel
theorem dX12_told_0 : decode cX12_told 0 = .ok (.aload_n 0, 1) := by decide +kernel
theorem dX12_told_1 : decode cX12_told 1 = .ok (.iconst 0, 1) := by decide +kernel
theorem dX12_told_2 : decode cX12_told 2 = .ok (.putfield 3, 3) := by decide +kernel
theorem dX12_told_5 : decode cX12_told 5 = .ok (.aload_n 0, 1) := by decide +kernel
theorem dX12_told_6 : decode cX12_told 6 = .ok (.invokevirtual 102, 3) := by decide +kernel
theorem dX12_told_9 : decode cX12_told 9 = .ok (.istore_n 1, 1) := by decide +kernel
theorem dX12_told_10 : decode cX12_told 10 = .ok (.aload_n 0, 1) := by decide +kernel
theorem dX12_told_11 : decode cX12_told 11 = .ok (.iconst 0, 1) := by decide +kernel
theorem dX12_told_12 : decode cX12_told 12 = .ok (.putfield 99, 3) := by decide +kernel
theorem dX12_told_15 : decode cX12_told 15 = .ok (.iconst 0, 1) := by decide +kernel
theorem dX12_told_16 : decode cX12_told 16 = .ok (.istore_n 2, 1) := by decide +kernel
theorem dX12_told_17 : decode cX12_told 17 = .ok (.iconst 1, 1) := by decide +kernel
theorem dX12_told_18 : decode cX12_told 18 = .ok (.istore_n 3, 1) := by decide +kernel
theorem dX12_told_19 : decode cX12_told 19 = .ok (.iload_n 1, 1) := by decide +kernel
theorem dX12_told_20 : decode cX12_told 20 = .ok (.ifCond .le 7, 3) := by decide +kernel
theorem dX12_told_23 : decode cX12_told 23 = .ok (.iconst 1, 1) := by decide +kernel
theorem dX12_told_24 : decode cX12_told 24 = .ok (.goto 4, 3) := by decide +kernel
theorem dX12_told_27 : decode cX12_told 27 = .ok (.iconst 0, 1) := by decide +kernel
theorem dX12_told_28 : decode cX12_told 28 = .ok (.istore 4, 2) := by decide +kernel
theorem dX12_told_30 : decode cX12_told 30 = .ok (.iload 4, 2) := by decide +kernel
theorem dX12_told_32 : decode cX12_told 32 = .ok (.ifCond .eq 40, 3) := by decide +kernel
theorem dX12_told_35 : decode cX12_told 35 = .ok (.aload_n 0, 1) := by decide +kernel
theorem dX12_told_36 : decode cX12_told 36 = .ok (.aload_n 0, 1) := by decide +kernel
theorem dX12_told_37 : decode cX12_told 37 = .ok (.getfield 105, 3) := by decide +kernel
theorem dX12_told_40 : decode cX12_told 40 = .ok (.iload_n 2, 1) := by decide +kernel
theorem dX12_told_41 : decode cX12_told 41 = .ok (.iadd, 1) := by decide +kernel
theorem dX12_told_42 : decode cX12_told 42 = .ok (.invokevirtual 108, 3) := by decide +kernel
theorem dX12_told_45 : decode cX12_told 45 = .ok (.istore_n 3, 1) := by decide +kernel
theorem dX12_told_46 : decode cX12_told 46 = .ok (.iinc 2 1, 3) := by decide +kernel
theorem dX12_told_49 : decode cX12_told 49 = .ok (.iload_n 3, 1) := by decide +kernel
theorem dX12_told_50 : decode cX12_told 50 = .ok (.ifCond .eq 16, 3) := by decide +kernel
theorem dX12_told_53 : decode cX12_told 53 = .ok (.aload_n 0, 1) := by decide +kernel
theorem dX12_told_54 : decode cX12_told 54 = .ok (.bipush 59, 2) := by decide +kernel
theorem dX12_told_56 : decode cX12_told 56 = .ok (.invokevirtual 72, 3) := by decide +kernel
theorem dX12_told_59 : decode cX12_told 59 = .ok (.ifCond .eq 7, 3) := by decide +kernel
theorem dX12_told_62 : decode cX12_told 62 = .ok (.iconst 1, 1) := by decide +kernel
theorem dX12_told_63 : decode cX12_told 63 = .ok (.goto 4, 3) := by decide +kernel
theorem dX12_told_66 : decode cX12_told 66 = .ok (.iconst 0, 1) := by decide +kernel
theorem dX12_told_67 : decode cX12_told 67 = .ok (.istore 4, 2) := by decide +kernel
theorem dX12_told_69 : decode cX12_told 69 = .ok (.goto (-39), 3) := by decide +kernel
theorem dX12_told_72 : decode cX12_told 72 = .ok (.aload_n 0, 1) := by decide +kernel
theorem dX12_told_73 : decode cX12_told 73 = .ok (.iload_n 1, 1) := by decide +kernel
theorem dX12_told_74 : decode cX12_told 74 = .ok (.iload_n 3, 1) := by decide +kernel
theorem dX12_told_75 : decode cX12_told 75 = .ok (.invokevirtual 111, 3) := by decide +kernel
theorem dX12_told_78 : decode cX12_told 78 = .ok (.istore 5, 2) := by decide +kernel
theorem dX12_told_80 : decode cX12_told 80 = .ok (.iload 5, 2) := by decide +kernel
theorem dX12_told_82 : decode cX12_told 82 = .ok (.ifCond .ge 6, 3) := by decide +kernel
theorem dX12_told_85 : decode cX12_told 85 = .ok (.iload 5, 2) := by decide +kernel
theorem dX12_told_87 : decode cX12_told 87 = .ok (.ireturn, 1) := by decide +kernel
theorem dX12_told_88 : decode cX12_told 88 = .ok (.aload_n 0, 1) := by decide +kernel
theorem dX12_told_89 : decode cX12_told 89 = .ok (.dup, 1) := by decide +kernel
theorem dX12_told_90 : decode cX12_told 90 = .ok (.getfield 105, 3) := by decide +kernel
theorem dX12_told_93 : decode cX12_told 93 = .ok (.iload_n 2, 1) := by decide +kernel
theorem dX12_told_94 : decode cX12_told 94 = .ok (.iadd, 1) := by decide +kernel
theorem dX12_told_95 : decode cX12_told 95 = .ok (.putfield 105, 3) := by decide +kernel
theorem dX12_told_98 : decode cX12_told 98 = .ok (.aload_n 0, 1) := by decide +kernel
theorem dX12_told_99 : decode cX12_told 99 = .ok (.dup, 1) := by decide +kernel
theorem dX12_told_100 : decode cX12_told 100 = .ok (.getfield 115, 3) := by decide +kernel
theorem dX12_told_103 : decode cX12_told 103 = .ok (.aload_n 0, 1) := by decide +kernel
theorem dX12_told_104 : decode cX12_told 104 = .ok (.getfield 99, 3) := by decide +kernel
theorem dX12_told_107 : decode cX12_told 107 = .ok (.ior, 1) := by decide +kernel
theorem dX12_told_108 : decode cX12_told 108 = .ok (.putfield 115, 3) := by decide +kernel
theorem dX12_told_111 : decode cX12_told 111 = .ok (.iload_n 2, 1) := by decide +kernel
theorem dX12_told_112 : decode cX12_told 112 = .ok (.ireturn, 1) := by decide +kernel
theorem dX12_isSaying_0 : decode cX12_isSaying 0 = .ok (.iload_n 1, 1) := by decide +kernel
theorem dX12_isSaying_1 : decode cX12_isSaying 1 = .ok (.i2l, 1) := by decide +kernel
theorem dX12_isSaying_2 : decode cX12_isSaying 2 = .ok (.lconst 0, 1) := by decide +kernel
theorem dX12_isSaying_3 : decode cX12_isSaying 3 = .ok (.aload_n 0, 1) := by decide +kernel
theorem dX12_isSaying_4 : decode cX12_isSaying 4 = .ok (.getfield 105, 3) := by decide +kernel
theorem dX12_isSaying_7 : decode cX12_isSaying 7 = .ok (.iconst 1, 1) := by decide +kernel
theorem dX12_isSaying_8 : decode cX12_isSaying 8 = .ok (.isub, 1) := by decide +kernel
theorem dX12_isSaying_9 : decode cX12_isSaying 9 = .ok (.i2l, 1) := by decide +kernel
theorem dX12_isSaying_10 : decode cX12_isSaying 10 = .ok (.invokestatic 16, 3) := by decide +kernel
theorem dX12_isSaying_13 : decode cX12_isSaying 13 = .ok (.ireturn, 1) := by decide +kernel
theorem dX12_saying_0 : decode cX12_saying 0 = .ok (.aload_n 0, 1) := by decide +kernel
theorem dX12_saying_1 : decode cX12_saying 1 = .ok (.iconst 0, 1) := by decide +kernel
theorem dX12_saying_2 : decode cX12_saying 2 = .ok (.putfield 3, 3) := by decide +kernel
theorem dX12_saying_5 : decode cX12_saying 5 = .ok (.aload_n 0, 1) := by decide +kernel
theorem dX12_saying_6 : decode cX12_saying 6 = .ok (.iload_n 1, 1) := by decide +kernel
theorem dX12_saying_7 : decode cX12_saying 7 = .ok (.invokevirtual 118, 3) := by decide +kernel
theorem dX12_saying_10 : decode cX12_saying 10 = .ok (.ifCond .eq 15, 3) := by decide +kernel
theorem dX12_saying_13 : decode cX12_saying 13 = .ok (.iload_n 2, 1) := by decide +kernel
theorem dX12_saying_14 : decode cX12_saying 14 = .ok (.i2l, 1) := by decide +kernel
theorem dX12_saying_15 : decode cX12_saying 15 = .ok (.lconst 0, 1) := by decide +kernel
theorem dX12_saying_16 : decode cX12_saying 16 = .ok (.ldc2_w 121, 3) := by decide +kernel
theorem dX12_saying_19 : decode cX12_saying 19 = .ok (.invokestatic 16, 3) := by decide +kernel
theorem dX12_saying_22 : decode cX12_saying 22 = .ok (.ifCond .ne 8, 3) := by decide +kernel
theorem dX12_saying_25 : decode cX12_saying 25 = .ok (.aload_n 0, 1) := by decide +kernel
theorem dX12_saying_26 : decode cX12_saying 26 = .ok (.invokevirtual 123, 3) := by decide +kernel
theorem dX12_saying_29 : decode cX12_saying 29 = .ok (.ireturn, 1) := by decide +kernel
theorem dX12_saying_30 : decode cX12_saying 30 = .ok (.iload_n 2, 1) := by decide +kernel
theorem dX12_saying_31 : decode cX12_saying 31 = .ok (.ifCond .ne 12, 3) := by decide +kernel
theorem dX12_saying_34 : decode cX12_saying 34 = .ok (.aload_n 0, 1) := by decide +kernel
theorem dX12_saying_35 : decode cX12_saying 35 = .ok (.getfield 87, 3) := by decide +kernel
theorem dX12_saying_38 : decode cX12_saying 38 = .ok (.iload_n 1, 1) := by decide +kernel
theorem dX12_saying_39 : decode cX12_saying 39 = .ok (.iaload, 1) := by decide +kernel
theorem dX12_saying_40 : decode cX12_saying 40 = .ok (.goto 40, 3) := by decide +kernel
theorem dX12_saying_43 : decode cX12_saying 43 = .ok (.iload_n 2, 1) := by decide +kernel
theorem dX12_saying_44 : decode cX12_saying 44 = .ok (.iconst 1, 1) := by decide +kernel
theorem dX12_saying_45 : decode cX12_saying 45 = .ok (.if_icmp .ne 12, 3) := by decide +kernel
theorem dX12_saying_48 : decode cX12_saying 48 = .ok (.aload_n 0, 1) := by decide +kernel
theorem dX12_saying_49 : decode cX12_saying 49 = .ok (.getfield 93, 3) := by decide +kernel
theorem dX12_saying_52 : decode cX12_saying 52 = .ok (.iload_n 1, 1) := by decide +kernel
theorem dX12_saying_53 : decode cX12_saying 53 = .ok (.iaload, 1) := by decide +kernel
theorem dX12_saying_54 : decode cX12_saying 54 = .ok (.goto 26, 3) := by decide +kernel
theorem dX12_saying_57 : decode cX12_saying 57 = .ok (.iload_n 2, 1) := by decide +kernel
theorem dX12_saying_58 : decode cX12_saying 58 = .ok (.iconst 2, 1) := by decide +kernel
theorem dX12_saying_59 : decode cX12_saying 59 = .ok (.if_icmp .ne 10, 3) := by decide +kernel
theorem dX12_saying_62 : decode cX12_saying 62 = .ok (.aload_n 0, 1) := by decide +kernel
theorem dX12_saying_63 : decode cX12_saying 63 = .ok (.getfield 115, 3) := by decide +kernel
theorem dX12_saying_66 : decode cX12_saying 66 = .ok (.goto 7, 3) := by decide +kernel
theorem dX12_saying_69 : decode cX12_saying 69 = .ok (.aload_n 0, 1) := by decide +kernel
theorem dX12_saying_70 : decode cX12_saying 70 = .ok (.getfield 126, 3) := by decide +kernel
theorem dX12_saying_73 : decode cX12_saying 73 = .ok (.iload_n 1, 1) := by decide +kernel
theorem dX12_saying_74 : decode cX12_saying 74 = .ok (.invokestatic 129, 3) := by decide +kernel
theorem dX12_saying_77 : decode cX12_saying 77 = .ok (.invokestatic 52, 3) := by decide +kernel
theorem dX12_saying_80 : decode cX12_saying 80 = .ok (.ireturn, 1) := by decide +kernel
theorem dX12_with_0 : decode cX12_with 0 = .ok (.iload_n 2, 1) := by decide +kernel
theorem dX12_with_1 : decode cX12_with 1 = .ok (.ifCond .eq 11, 3) := by decide +kernel
theorem dX12_with_4 : decode cX12_with 4 = .ok (.iload_n 0, 1) := by decide +kernel
theorem dX12_with_5 : decode cX12_with 5 = .ok (.iconst 1, 1) := by decide +kernel
theorem dX12_with_6 : decode cX12_with 6 = .ok (.iload_n 1, 1) := by decide +kernel
theorem dX12_with_7 : decode cX12_with 7 = .ok (.ishl, 1) := by decide +kernel
theorem dX12_with_8 : decode cX12_with 8 = .ok (.ior, 1) := by decide +kernel
theorem dX12_with_9 : decode cX12_with 9 = .ok (.goto 10, 3) := by decide +kernel
theorem dX12_with_12 : decode cX12_with 12 = .ok (.iload_n 0, 1) := by decide +kernel
theorem dX12_with_13 : decode cX12_with 13 = .ok (.iconst 1, 1) := by decide +kernel
theorem dX12_with_14 : decode cX12_with 14 = .ok (.iload_n 1, 1) := by decide +kernel
theorem dX12_with_15 : decode cX12_with 15 = .ok (.ishl, 1) := by decide +kernel
theorem dX12_with_16 : decode cX12_with 16 = .ok (.iconst (-1), 1) := by decide +kernel
theorem dX12_with_17 : decode cX12_with 17 = .ok (.ixor, 1) := by decide +kernel
theorem dX12_with_18 : decode cX12_with 18 = .ok (.iand, 1) := by decide +kernel
theorem dX12_with_19 : decode cX12_with 19 = .ok (.ireturn, 1) := by decide +kernel
theorem dX12_mark_0 : decode cX12_mark 0 = .ok (.aload_n 0, 1) := by decide +kernel
theorem dX12_mark_1 : decode cX12_mark 1 = .ok (.iconst 0, 1) := by decide +kernel
theorem dX12_mark_2 : decode cX12_mark 2 = .ok (.putfield 3, 3) := by decide +kernel
theorem dX12_mark_5 : decode cX12_mark 5 = .ok (.aload_n 0, 1) := by decide +kernel
theorem dX12_mark_6 : decode cX12_mark 6 = .ok (.iload_n 1, 1) := by decide +kernel
theorem dX12_mark_7 : decode cX12_mark 7 = .ok (.invokevirtual 118, 3) := by decide +kernel
theorem dX12_mark_10 : decode cX12_mark 10 = .ok (.ifCond .eq 13, 3) := by decide +kernel
theorem dX12_mark_13 : decode cX12_mark 13 = .ok (.iload_n 2, 1) := by decide +kernel
theorem dX12_mark_14 : decode cX12_mark 14 = .ok (.i2l, 1) := by decide +kernel
theorem dX12_mark_15 : decode cX12_mark 15 = .ok (.lconst 0, 1) := by decide +kernel
theorem dX12_mark_16 : decode cX12_mark 16 = .ok (.lconst 1, 1) := by decide +kernel
theorem dX12_mark_17 : decode cX12_mark 17 = .ok (.invokestatic 16, 3) := by decide +kernel
theorem dX12_mark_20 : decode cX12_mark 20 = .ok (.ifCond .ne 5, 3) := by decide +kernel
theorem dX12_mark_23 : decode cX12_mark 23 = .ok (.iconst 0, 1) := by decide +kernel
theorem dX12_mark_24 : decode cX12_mark 24 = .ok (.ireturn, 1) := by decide +kernel
theorem dX12_mark_25 : decode cX12_mark 25 = .ok (.aload_n 0, 1) := by decide +kernel
theorem dX12_mark_26 : decode cX12_mark 26 = .ok (.iload_n 2, 1) := by decide +kernel
theorem dX12_mark_27 : decode cX12_mark 27 = .ok (.ifCond .ne 15, 3) := by decide +kernel
theorem dX12_mark_30 : decode cX12_mark 30 = .ok (.aload_n 0, 1) := by decide +kernel
theorem dX12_mark_31 : decode cX12_mark 31 = .ok (.getfield 115, 3) := by decide +kernel
theorem dX12_mark_34 : decode cX12_mark 34 = .ok (.iload_n 1, 1) := by decide +kernel
theorem dX12_mark_35 : decode cX12_mark 35 = .ok (.iload_n 3, 1) := by decide +kernel
theorem dX12_mark_36 : decode cX12_mark 36 = .ok (.invokestatic 133, 3) := by decide +kernel
theorem dX12_mark_39 : decode cX12_mark 39 = .ok (.goto 7, 3) := by decide +kernel
theorem dX12_mark_42 : decode cX12_mark 42 = .ok (.aload_n 0, 1) := by decide +kernel
theorem dX12_mark_43 : decode cX12_mark 43 = .ok (.getfield 115, 3) := by decide +kernel
theorem dX12_mark_46 : decode cX12_mark 46 = .ok (.putfield 115, 3) := by decide +kernel
theorem dX12_mark_49 : decode cX12_mark 49 = .ok (.aload_n 0, 1) := by decide +kernel
theorem dX12_mark_50 : decode cX12_mark 50 = .ok (.iload_n 2, 1) := by decide +kernel
theorem dX12_mark_51 : decode cX12_mark 51 = .ok (.iconst 1, 1) := by decide +kernel
theorem dX12_mark_52 : decode cX12_mark 52 = .ok (.if_icmp .ne 15, 3) := by decide +kernel
theorem dX12_mark_55 : decode cX12_mark 55 = .ok (.aload_n 0, 1) := by decide +kernel
theorem dX12_mark_56 : decode cX12_mark 56 = .ok (.getfield 126, 3) := by decide +kernel
theorem dX12_mark_59 : decode cX12_mark 59 = .ok (.iload_n 1, 1) := by decide +kernel
theorem dX12_mark_60 : decode cX12_mark 60 = .ok (.iload_n 3, 1) := by decide +kernel
theorem dX12_mark_61 : decode cX12_mark 61 = .ok (.invokestatic 133, 3) := by decide +kernel
theorem dX12_mark_64 : decode cX12_mark 64 = .ok (.goto 7, 3) := by decide +kernel
theorem dX12_mark_67 : decode cX12_mark 67 = .ok (.aload_n 0, 1) := by decide +kernel
theorem dX12_mark_68 : decode cX12_mark 68 = .ok (.getfield 126, 3) := by decide +kernel
theorem dX12_mark_71 : decode cX12_mark 71 = .ok (.putfield 126, 3) := by decide +kernel
theorem dX12_mark_74 : decode cX12_mark 74 = .ok (.iconst 1, 1) := by decide +kernel
theorem dX12_mark_75 : decode cX12_mark 75 = .ok (.ireturn, 1) := by decide +kernel
theorem dX12_lives_0 : decode cX12_lives 0 = .ok (.aload_n 0, 1) := by decide +kernel
theorem dX12_lives_1 : decode cX12_lives 1 = .ok (.iconst 0, 1) := by decide +kernel
theorem dX12_lives_2 : decode cX12_lives 2 = .ok (.putfield 3, 3) := by decide +kernel
theorem dX12_lives_5 : decode cX12_lives 5 = .ok (.iload_n 1, 1) := by decide +kernel
theorem dX12_lives_6 : decode cX12_lives 6 = .ok (.i2l, 1) := by decide +kernel
theorem dX12_lives_7 : decode cX12_lives 7 = .ok (.lconst 0, 1) := by decide +kernel
theorem dX12_lives_8 : decode cX12_lives 8 = .ok (.ldc2_w 137, 3) := by decide +kernel
theorem dX12_lives_11 : decode cX12_lives 11 = .ok (.invokestatic 16, 3) := by decide +kernel
theorem dX12_lives_14 : decode cX12_lives 14 = .ok (.ifCond .ne 5, 3) := by decide +kernel
theorem dX12_lives_17 : decode cX12_lives 17 = .ok (.iconst 0, 1) := by decide +kernel
theorem dX12_lives_18 : decode cX12_lives 18 = .ok (.ireturn, 1) := by decide +kernel
theorem dX12_lives_19 : decode cX12_lives 19 = .ok (.aload_n 0, 1) := by decide +kernel
theorem dX12_lives_20 : decode cX12_lives 20 = .ok (.aload_n 0, 1) := by decide +kernel
theorem dX12_lives_21 : decode cX12_lives 21 = .ok (.getfield 139, 3) := by decide +kernel
theorem dX12_lives_24 : decode cX12_lives 24 = .ok (.iload_n 1, 1) := by decide +kernel
theorem dX12_lives_25 : decode cX12_lives 25 = .ok (.iload_n 2, 1) := by decide +kernel
theorem dX12_lives_26 : decode cX12_lives 26 = .ok (.invokestatic 133, 3) := by decide +kernel
theorem dX12_lives_29 : decode cX12_lives 29 = .ok (.putfield 139, 3) := by decide +kernel
theorem dX12_lives_32 : decode cX12_lives 32 = .ok (.iconst 1, 1) := by decide +kernel
theorem dX12_lives_33 : decode cX12_lives 33 = .ok (.ireturn, 1) := by decide +kernel
theorem dX12_want_0 : decode cX12_want 0 = .ok (.aload_n 0, 1) := by decide +kernel
theorem dX12_want_1 : decode cX12_want 1 = .ok (.iconst 0, 1) := by decide +kernel
theorem dX12_want_2 : decode cX12_want 2 = .ok (.putfield 3, 3) := by decide +kernel
theorem dX12_want_5 : decode cX12_want 5 = .ok (.iload_n 1, 1) := by decide +kernel
theorem dX12_want_6 : decode cX12_want 6 = .ok (.invokestatic 142, 3) := by decide +kernel
theorem dX12_want_9 : decode cX12_want 9 = .ok (.ifCond .eq 12, 3) := by decide +kernel
theorem dX12_want_12 : decode cX12_want 12 = .ok (.aload_n 0, 1) := by decide +kernel
theorem dX12_want_13 : decode cX12_want 13 = .ok (.getfield 145, 3) := by decide +kernel
theorem dX12_want_16 : decode cX12_want 16 = .ok (.bipush 6, 2) := by decide +kernel
theorem dX12_want_18 : decode cX12_want 18 = .ok (.if_icmp .ne 5, 3) := by decide +kernel
theorem dX12_want_21 : decode cX12_want 21 = .ok (.iconst (-1), 1) := by decide +kernel
theorem dX12_want_22 : decode cX12_want 22 = .ok (.ireturn, 1) := by decide +kernel
theorem dX12_want_23 : decode cX12_want 23 = .ok (.aload_n 0, 1) := by decide +kernel
theorem dX12_want_24 : decode cX12_want 24 = .ok (.getfield 148, 3) := by decide +kernel
theorem dX12_want_27 : decode cX12_want 27 = .ok (.aload_n 0, 1) := by decide +kernel
theorem dX12_want_28 : decode cX12_want 28 = .ok (.getfield 145, 3) := by decide +kernel
theorem dX12_want_31 : decode cX12_want 31 = .ok (.iload_n 1, 1) := by decide +kernel
theorem dX12_want_32 : decode cX12_want 32 = .ok (.iastore, 1) := by decide +kernel
theorem dX12_want_33 : decode cX12_want 33 = .ok (.aload_n 0, 1) := by decide +kernel
theorem dX12_want_34 : decode cX12_want 34 = .ok (.dup, 1) := by decide +kernel
theorem dX12_want_35 : decode cX12_want 35 = .ok (.getfield 145, 3) := by decide +kernel
theorem dX12_want_38 : decode cX12_want 38 = .ok (.iconst 1, 1) := by decide +kernel
theorem dX12_want_39 : decode cX12_want 39 = .ok (.iadd, 1) := by decide +kernel
theorem dX12_want_40 : decode cX12_want 40 = .ok (.putfield 145, 3) := by decide +kernel
theorem dX12_want_43 : decode cX12_want 43 = .ok (.aload_n 0, 1) := by decide +kernel
theorem dX12_want_44 : decode cX12_want 44 = .ok (.getfield 145, 3) := by decide +kernel
theorem dX12_want_47 : decode cX12_want 47 = .ok (.ireturn, 1) := by decide +kernel
theorem dX12_forget_0 : decode cX12_forget 0 = .ok (.aload_n 0, 1) := by decide +kernel
theorem dX12_forget_1 : decode cX12_forget 1 = .ok (.iconst 0, 1) := by decide +kernel
theorem dX12_forget_2 : decode cX12_forget 2 = .ok (.putfield 3, 3) := by decide +kernel
theorem dX12_forget_5 : decode cX12_forget 5 = .ok (.aload_n 0, 1) := by decide +kernel
theorem dX12_forget_6 : decode cX12_forget 6 = .ok (.getfield 145, 3) := by decide +kernel
theorem dX12_forget_9 : decode cX12_forget 9 = .ok (.istore_n 1, 1) := by decide +kernel
theorem dX12_forget_10 : decode cX12_forget 10 = .ok (.aload_n 0, 1) := by decide +kernel
theorem dX12_forget_11 : decode cX12_forget 11 = .ok (.iconst 0, 1) := by decide +kernel
theorem dX12_forget_12 : decode cX12_forget 12 = .ok (.putfield 145, 3) := by decide +kernel
theorem dX12_forget_15 : decode cX12_forget 15 = .ok (.iload_n 1, 1) := by decide +kernel
theorem dX12_forget_16 : decode cX12_forget 16 = .ok (.ireturn, 1) := by decide +kernel
theorem dX12_sheet_0 : decode cX12_sheet 0 = .ok (.aload_n 0, 1) := by decide +kernel
theorem dX12_sheet_1 : decode cX12_sheet 1 = .ok (.iconst 0, 1) := by decide +kernel
theorem dX12_sheet_2 : decode cX12_sheet 2 = .ok (.putfield 3, 3) := by decide +kernel
theorem dX12_sheet_5 : decode cX12_sheet 5 = .ok (.iload_n 1, 1) := by decide +kernel
theorem dX12_sheet_6 : decode cX12_sheet 6 = .ok (.i2l, 1) := by decide +kernel
theorem dX12_sheet_7 : decode cX12_sheet 7 = .ok (.lconst 0, 1) := by decide +kernel
theorem dX12_sheet_8 : decode cX12_sheet 8 = .ok (.ldc2_w 121, 3) := by decide +kernel
theorem dX12_sheet_11 : decode cX12_sheet 11 = .ok (.invokestatic 16, 3) := by decide +kernel
theorem dX12_sheet_14 : decode cX12_sheet 14 = .ok (.ifCond .eq 9, 3) := by decide +kernel
theorem dX12_sheet_17 : decode cX12_sheet 17 = .ok (.iload_n 2, 1) := by decide +kernel
theorem dX12_sheet_18 : decode cX12_sheet 18 = .ok (.bipush 12, 2) := by decide +kernel
theorem dX12_sheet_20 : decode cX12_sheet 20 = .ok (.if_icmp .le 5, 3) := by decide +kernel
theorem dX12_sheet_23 : decode cX12_sheet 23 = .ok (.iconst (-1), 1) := by decide +kernel
theorem dX12_sheet_24 : decode cX12_sheet 24 = .ok (.ireturn, 1) := by decide +kernel
theorem dX12_sheet_25 : decode cX12_sheet 25 = .ok (.iload_n 1, 1) := by decide +kernel
theorem dX12_sheet_26 : decode cX12_sheet 26 = .ok (.iconst 3, 1) := by decide +kernel
theorem dX12_sheet_27 : decode cX12_sheet 27 = .ok (.if_icmp .eq 10, 3) := by decide +kernel
theorem dX12_sheet_30 : decode cX12_sheet 30 = .ok (.iload_n 2, 1) := by decide +kernel
theorem dX12_sheet_31 : decode cX12_sheet 31 = .ok (.ifCond .ge 6, 3) := by decide +kernel
theorem dX12_sheet_34 : decode cX12_sheet 34 = .ok (.bipush (-2), 2) := by decide +kernel
theorem dX12_sheet_36 : decode cX12_sheet 36 = .ok (.ireturn, 1) := by decide +kernel
theorem dX12_sheet_37 : decode cX12_sheet 37 = .ok (.aload_n 0, 1) := by decide +kernel
theorem dX12_sheet_38 : decode cX12_sheet 38 = .ok (.iconst 0, 1) := by decide +kernel
theorem dX12_sheet_39 : decode cX12_sheet 39 = .ok (.putfield 139, 3) := by decide +kernel
theorem dX12_sheet_42 : decode cX12_sheet 42 = .ok (.iload_n 3, 1) := by decide +kernel
theorem dX12_sheet_43 : decode cX12_sheet 43 = .ok (.istore 5, 2) := by decide +kernel
theorem dX12_sheet_45 : decode cX12_sheet 45 = .ok (.iconst 0, 1) := by decide +kernel
theorem dX12_sheet_46 : decode cX12_sheet 46 = .ok (.istore 6, 2) := by decide +kernel
theorem dX12_sheet_48 : decode cX12_sheet 48 = .ok (.iload 6, 2) := by decide +kernel
theorem dX12_sheet_50 : decode cX12_sheet 50 = .ok (.iload_n 2, 1) := by decide +kernel
theorem dX12_sheet_51 : decode cX12_sheet 51 = .ok (.if_icmp .ge 69, 3) := by decide +kernel
theorem dX12_sheet_54 : decode cX12_sheet 54 = .ok (.iload_n 1, 1) := by decide +kernel
theorem dX12_sheet_55 : decode cX12_sheet 55 = .ok (.iconst 3, 1) := by decide +kernel
theorem dX12_sheet_56 : decode cX12_sheet 56 = .ok (.if_icmp .eq 64, 3) := by decide +kernel
theorem dX12_sheet_59 : decode cX12_sheet 59 = .ok (.iload_n 1, 1) := by decide +kernel
theorem dX12_sheet_60 : decode cX12_sheet 60 = .ok (.ifCond .ne 9, 3) := by decide +kernel
theorem dX12_sheet_63 : decode cX12_sheet 63 = .ok (.iload 5, 2) := by decide +kernel
theorem dX12_sheet_65 : decode cX12_sheet 65 = .ok (.i2b, 1) := by decide +kernel
theorem dX12_sheet_66 : decode cX12_sheet 66 = .ok (.goto 16, 3) := by decide +kernel
theorem dX12_sheet_69 : decode cX12_sheet 69 = .ok (.iload_n 1, 1) := by decide +kernel
theorem dX12_sheet_70 : decode cX12_sheet 70 = .ok (.iconst 1, 1) := by decide +kernel
theorem dX12_sheet_71 : decode cX12_sheet 71 = .ok (.if_icmp .ne 9, 3) := by decide +kernel
theorem dX12_sheet_74 : decode cX12_sheet 74 = .ok (.iload 5, 2) := by decide +kernel
theorem dX12_sheet_76 : decode cX12_sheet 76 = .ok (.i2s, 1) := by decide +kernel
theorem dX12_sheet_77 : decode cX12_sheet 77 = .ok (.goto 5, 3) := by decide +kernel
theorem dX12_sheet_80 : decode cX12_sheet 80 = .ok (.iload 5, 2) := by decide +kernel
theorem dX12_sheet_82 : decode cX12_sheet 82 = .ok (.istore 7, 2) := by decide +kernel
theorem dX12_sheet_84 : decode cX12_sheet 84 = .ok (.aload_n 0, 1) := by decide +kernel
theorem dX12_sheet_85 : decode cX12_sheet 85 = .ok (.aload_n 0, 1) := by decide +kernel
theorem dX12_sheet_86 : decode cX12_sheet 86 = .ok (.getfield 139, 3) := by decide +kernel
theorem dX12_sheet_89 : decode cX12_sheet 89 = .ok (.iload 6, 2) := by decide +kernel
theorem dX12_sheet_91 : decode cX12_sheet 91 = .ok (.iload 7, 2) := by decide +kernel
theorem dX12_sheet_93 : decode cX12_sheet 93 = .ok (.ifCond .le 7, 3) := by decide +kernel
theorem dX12_sheet_96 : decode cX12_sheet 96 = .ok (.iconst 1, 1) := by decide +kernel
theorem dX12_sheet_97 : decode cX12_sheet 97 = .ok (.goto 4, 3) := by decide +kernel
theorem dX12_sheet_100 : decode cX12_sheet 100 = .ok (.iconst 0, 1) := by decide +kernel
theorem dX12_sheet_101 : decode cX12_sheet 101 = .ok (.invokestatic 133, 3) := by decide +kernel
theorem dX12_sheet_104 : decode cX12_sheet 104 = .ok (.putfield 139, 3) := by decide +kernel
theorem dX12_sheet_107 : decode cX12_sheet 107 = .ok (.iload 5, 2) := by decide +kernel
theorem dX12_sheet_109 : decode cX12_sheet 109 = .ok (.iload 4, 2) := by decide +kernel
theorem dX12_sheet_111 : decode cX12_sheet 111 = .ok (.iadd, 1) := by decide +kernel
theorem dX12_sheet_112 : decode cX12_sheet 112 = .ok (.istore 5, 2) := by decide +kernel
theorem dX12_sheet_114 : decode cX12_sheet 114 = .ok (.iinc 6 1, 3) := by decide +kernel
theorem dX12_sheet_117 : decode cX12_sheet 117 = .ok (.goto (-69), 3) := by decide +kernel
theorem dX12_sheet_120 : decode cX12_sheet 120 = .ok (.iload_n 1, 1) := by decide +kernel
theorem dX12_sheet_121 : decode cX12_sheet 121 = .ok (.iconst 3, 1) := by decide +kernel
theorem dX12_sheet_122 : decode cX12_sheet 122 = .ok (.if_icmp .ne 8, 3) := by decide +kernel
theorem dX12_sheet_125 : decode cX12_sheet 125 = .ok (.bipush (-3), 2) := by decide +kernel
theorem dX12_sheet_127 : decode cX12_sheet 127 = .ok (.goto 10, 3) := by decide +kernel
theorem dX12_sheet_130 : decode cX12_sheet 130 = .ok (.aload_n 0, 1) := by decide +kernel
theorem dX12_sheet_131 : decode cX12_sheet 131 = .ok (.getfield 139, 3) := by decide +kernel
theorem dX12_sheet_134 : decode cX12_sheet 134 = .ok (.invokestatic 151, 3) := by decide +kernel
theorem dX12_sheet_137 : decode cX12_sheet 137 = .ok (.ireturn, 1) := by decide +kernel
theorem dX12_standing_0 : decode cX12_standing 0 = .ok (.iconst 1, 1) := by decide +kernel
theorem dX12_standing_1 : decode cX12_standing 1 = .ok (.aload_n 0, 1) := by decide +kernel
theorem dX12_standing_2 : decode cX12_standing 2 = .ok (.getfield 105, 3) := by decide +kernel
theorem dX12_standing_5 : decode cX12_standing 5 = .ok (.ishl, 1) := by decide +kernel
theorem dX12_standing_6 : decode cX12_standing 6 = .ok (.iconst 1, 1) := by decide +kernel
theorem dX12_standing_7 : decode cX12_standing 7 = .ok (.isub, 1) := by decide +kernel
theorem dX12_standing_8 : decode cX12_standing 8 = .ok (.aload_n 0, 1) := by decide +kernel
theorem dX12_standing_9 : decode cX12_standing 9 = .ok (.getfield 126, 3) := by decide +kernel
theorem dX12_standing_12 : decode cX12_standing 12 = .ok (.iconst (-1), 1) := by decide +kernel
theorem dX12_standing_13 : decode cX12_standing 13 = .ok (.ixor, 1) := by decide +kernel
theorem dX12_standing_14 : decode cX12_standing 14 = .ok (.iand, 1) := by decide +kernel
theorem dX12_standing_15 : decode cX12_standing 15 = .ok (.ireturn, 1) := by decide +kernel
theorem dX12_lays_0 : decode cX12_lays 0 = .ok (.aload_n 0, 1) := by decide +kernel
theorem dX12_lays_1 : decode cX12_lays 1 = .ok (.iconst 0, 1) := by decide +kernel
theorem dX12_lays_2 : decode cX12_lays 2 = .ok (.putfield 156, 3) := by decide +kernel
theorem dX12_lays_5 : decode cX12_lays 5 = .ok (.iconst 0, 1) := by decide +kernel
theorem dX12_lays_6 : decode cX12_lays 6 = .ok (.istore_n 2, 1) := by decide +kernel
theorem dX12_lays_7 : decode cX12_lays 7 = .ok (.iload_n 2, 1) := by decide +kernel
theorem dX12_lays_8 : decode cX12_lays 8 = .ok (.aload_n 0, 1) := by decide +kernel
theorem dX12_lays_9 : decode cX12_lays 9 = .ok (.getfield 105, 3) := by decide +kernel
theorem dX12_lays_12 : decode cX12_lays 12 = .ok (.if_icmp .ge 42, 3) := by decide +kernel
theorem dX12_lays_15 : decode cX12_lays 15 = .ok (.iload_n 1, 1) := by decide +kernel
theorem dX12_lays_16 : decode cX12_lays 16 = .ok (.iload_n 2, 1) := by decide +kernel
theorem dX12_lays_17 : decode cX12_lays 17 = .ok (.invokestatic 129, 3) := by decide +kernel
theorem dX12_lays_20 : decode cX12_lays 20 = .ok (.ifCond .eq 28, 3) := by decide +kernel
theorem dX12_lays_23 : decode cX12_lays 23 = .ok (.aload_n 0, 1) := by decide +kernel
theorem dX12_lays_24 : decode cX12_lays 24 = .ok (.getfield 159, 3) := by decide +kernel
theorem dX12_lays_27 : decode cX12_lays 27 = .ok (.aload_n 0, 1) := by decide +kernel
theorem dX12_lays_28 : decode cX12_lays 28 = .ok (.getfield 156, 3) := by decide +kernel
theorem dX12_lays_31 : decode cX12_lays 31 = .ok (.aload_n 0, 1) := by decide +kernel
theorem dX12_lays_32 : decode cX12_lays 32 = .ok (.getfield 87, 3) := by decide +kernel
theorem dX12_lays_35 : decode cX12_lays 35 = .ok (.iload_n 2, 1) := by decide +kernel
theorem dX12_lays_36 : decode cX12_lays 36 = .ok (.iaload, 1) := by decide +kernel
theorem dX12_lays_37 : decode cX12_lays 37 = .ok (.iastore, 1) := by decide +kernel
theorem dX12_lays_38 : decode cX12_lays 38 = .ok (.aload_n 0, 1) := by decide +kernel
theorem dX12_lays_39 : decode cX12_lays 39 = .ok (.dup, 1) := by decide +kernel
theorem dX12_lays_40 : decode cX12_lays 40 = .ok (.getfield 156, 3) := by decide +kernel
theorem dX12_lays_43 : decode cX12_lays 43 = .ok (.iconst 1, 1) := by decide +kernel
theorem dX12_lays_44 : decode cX12_lays 44 = .ok (.iadd, 1) := by decide +kernel
theorem dX12_lays_45 : decode cX12_lays 45 = .ok (.putfield 156, 3) := by decide +kernel
theorem dX12_lays_48 : decode cX12_lays 48 = .ok (.iinc 2 1, 3) := by decide +kernel
theorem dX12_lays_51 : decode cX12_lays 51 = .ok (.goto (-44), 3) := by decide +kernel
theorem dX12_lays_54 : decode cX12_lays 54 = .ok (.return_, 1) := by decide +kernel
theorem dX12_laysMore_0 : decode cX12_laysMore 0 = .ok (.aload_n 0, 1) := by decide +kernel
theorem dX12_laysMore_1 : decode cX12_laysMore 1 = .ok (.getfield 159, 3) := by decide +kernel
theorem dX12_laysMore_4 : decode cX12_laysMore 4 = .ok (.aload_n 0, 1) := by decide +kernel
theorem dX12_laysMore_5 : decode cX12_laysMore 5 = .ok (.getfield 156, 3) := by decide +kernel
theorem dX12_laysMore_8 : decode cX12_laysMore 8 = .ok (.iload_n 1, 1) := by decide +kernel
theorem dX12_laysMore_9 : decode cX12_laysMore 9 = .ok (.iastore, 1) := by decide +kernel
theorem dX12_laysMore_10 : decode cX12_laysMore 10 = .ok (.aload_n 0, 1) := by decide +kernel
theorem dX12_laysMore_11 : decode cX12_laysMore 11 = .ok (.dup, 1) := by decide +kernel
theorem dX12_laysMore_12 : decode cX12_laysMore 12 = .ok (.getfield 156, 3) := by decide +kernel
theorem dX12_laysMore_15 : decode cX12_laysMore 15 = .ok (.iconst 1, 1) := by decide +kernel
theorem dX12_laysMore_16 : decode cX12_laysMore 16 = .ok (.iadd, 1) := by decide +kernel
theorem dX12_laysMore_17 : decode cX12_laysMore 17 = .ok (.putfield 156, 3) := by decide +kernel
theorem dX12_laysMore_20 : decode cX12_laysMore 20 = .ok (.return_, 1) := by decide +kernel
theorem dX12_isOfAll_0 : decode cX12_isOfAll 0 = .ok (.iload_n 0, 1) := by decide +kernel
theorem dX12_isOfAll_1 : decode cX12_isOfAll 1 = .ok (.invokestatic 20, 3) := by decide +kernel
theorem dX12_isOfAll_4 : decode cX12_isOfAll 4 = .ok (.iconst 2, 1) := by decide +kernel
theorem dX12_isOfAll_5 : decode cX12_isOfAll 5 = .ok (.if_icmp .ge 7, 3) := by decide +kernel
theorem dX12_isOfAll_8 : decode cX12_isOfAll 8 = .ok (.iconst 1, 1) := by decide +kernel
theorem dX12_isOfAll_9 : decode cX12_isOfAll 9 = .ok (.goto 4, 3) := by decide +kernel
theorem dX12_isOfAll_12 : decode cX12_isOfAll 12 = .ok (.iconst 0, 1) := by decide +kernel
theorem dX12_isOfAll_13 : decode cX12_isOfAll 13 = .ok (.ireturn, 1) := by decide +kernel
theorem dX12_bars_0 : decode cX12_bars 0 = .ok (.aload_n 0, 1) := by decide +kernel
theorem dX12_bars_1 : decode cX12_bars 1 = .ok (.getfield 162, 3) := by decide +kernel
theorem dX12_bars_4 : decode cX12_bars 4 = .ok (.iload_n 1, 1) := by decide +kernel
theorem dX12_bars_5 : decode cX12_bars 5 = .ok (.dup2, 1) := by decide +kernel
theorem dX12_bars_6 : decode cX12_bars 6 = .ok (.iaload, 1) := by decide +kernel
theorem dX12_bars_7 : decode cX12_bars 7 = .ok (.iconst 1, 1) := by decide +kernel
theorem dX12_bars_8 : decode cX12_bars 8 = .ok (.iload_n 2, 1) := by decide +kernel
theorem dX12_bars_9 : decode cX12_bars 9 = .ok (.iconst 1, 1) := by decide +kernel
theorem dX12_bars_10 : decode cX12_bars 10 = .ok (.ixor, 1) := by decide +kernel
theorem dX12_bars_11 : decode cX12_bars 11 = .ok (.ishl, 1) := by decide +kernel
theorem dX12_bars_12 : decode cX12_bars 12 = .ok (.ior, 1) := by decide +kernel
theorem dX12_bars_13 : decode cX12_bars 13 = .ok (.iastore, 1) := by decide +kernel
theorem dX12_bars_14 : decode cX12_bars 14 = .ok (.aload_n 0, 1) := by decide +kernel
theorem dX12_bars_15 : decode cX12_bars 15 = .ok (.getfield 162, 3) := by decide +kernel
theorem dX12_bars_18 : decode cX12_bars 18 = .ok (.iload_n 2, 1) := by decide +kernel
theorem dX12_bars_19 : decode cX12_bars 19 = .ok (.dup2, 1) := by decide +kernel
theorem dX12_bars_20 : decode cX12_bars 20 = .ok (.iaload, 1) := by decide +kernel
theorem dX12_bars_21 : decode cX12_bars 21 = .ok (.iconst 1, 1) := by decide +kernel
theorem dX12_bars_22 : decode cX12_bars 22 = .ok (.iload_n 1, 1) := by decide +kernel
theorem dX12_bars_23 : decode cX12_bars 23 = .ok (.iconst 1, 1) := by decide +kernel
theorem dX12_bars_24 : decode cX12_bars 24 = .ok (.ixor, 1) := by decide +kernel
theorem dX12_bars_25 : decode cX12_bars 25 = .ok (.ishl, 1) := by decide +kernel
theorem dX12_bars_26 : decode cX12_bars 26 = .ok (.ior, 1) := by decide +kernel
theorem dX12_bars_27 : decode cX12_bars 27 = .ok (.iastore, 1) := by decide +kernel
theorem dX12_bars_28 : decode cX12_bars 28 = .ok (.return_, 1) := by decide +kernel
theorem dX12_closes_0 : decode cX12_closes 0 = .ok (.iconst 0, 1) := by decide +kernel
theorem dX12_closes_1 : decode cX12_closes 1 = .ok (.istore_n 1, 1) := by decide +kernel
theorem dX12_closes_2 : decode cX12_closes 2 = .ok (.iload_n 1, 1) := by decide +kernel
theorem dX12_closes_3 : decode cX12_closes 3 = .ok (.bipush 24, 2) := by decide +kernel
theorem dX12_closes_5 : decode cX12_closes 5 = .ok (.if_icmp .ge 18, 3) := by decide +kernel
theorem dX12_closes_8 : decode cX12_closes 8 = .ok (.aload_n 0, 1) := by decide +kernel
theorem dX12_closes_9 : decode cX12_closes 9 = .ok (.getfield 162, 3) := by decide +kernel
theorem dX12_closes_12 : decode cX12_closes 12 = .ok (.iload_n 1, 1) := by decide +kernel
theorem dX12_closes_13 : decode cX12_closes 13 = .ok (.iconst 1, 1) := by decide +kernel
theorem dX12_closes_14 : decode cX12_closes 14 = .ok (.iload_n 1, 1) := by decide +kernel
theorem dX12_closes_15 : decode cX12_closes 15 = .ok (.ishl, 1) := by decide +kernel
theorem dX12_closes_16 : decode cX12_closes 16 = .ok (.iastore, 1) := by decide +kernel
theorem dX12_closes_17 : decode cX12_closes 17 = .ok (.iinc 1 1, 3) := by decide +kernel
theorem dX12_closes_20 : decode cX12_closes 20 = .ok (.goto (-18), 3) := by decide +kernel
theorem dX12_closes_23 : decode cX12_closes 23 = .ok (.iconst 0, 1) := by decide +kernel
theorem dX12_closes_24 : decode cX12_closes 24 = .ok (.istore_n 1, 1) := by decide +kernel
theorem dX12_closes_25 : decode cX12_closes 25 = .ok (.iload_n 1, 1) := by decide +kernel
theorem dX12_closes_26 : decode cX12_closes 26 = .ok (.aload_n 0, 1) := by decide +kernel
theorem dX12_closes_27 : decode cX12_closes 27 = .ok (.getfield 156, 3) := by decide +kernel
theorem dX12_closes_30 : decode cX12_closes 30 = .ok (.if_icmp .ge 69, 3) := by decide +kernel
theorem dX12_closes_33 : decode cX12_closes 33 = .ok (.aload_n 0, 1) := by decide +kernel
theorem dX12_closes_34 : decode cX12_closes 34 = .ok (.getfield 159, 3) := by decide +kernel
theorem dX12_closes_37 : decode cX12_closes 37 = .ok (.iload_n 1, 1) := by decide +kernel
theorem dX12_closes_38 : decode cX12_closes 38 = .ok (.iaload, 1) := by decide +kernel
theorem dX12_closes_39 : decode cX12_closes 39 = .ok (.invokestatic 165, 3) := by decide +kernel
theorem dX12_closes_42 : decode cX12_closes 42 = .ok (.ifCond .eq 51, 3) := by decide +kernel
theorem dX12_closes_45 : decode cX12_closes 45 = .ok (.aload_n 0, 1) := by decide +kernel
theorem dX12_closes_46 : decode cX12_closes 46 = .ok (.aload_n 0, 1) := by decide +kernel
theorem dX12_closes_47 : decode cX12_closes 47 = .ok (.getfield 159, 3) := by decide +kernel
theorem dX12_closes_50 : decode cX12_closes 50 = .ok (.iload_n 1, 1) := by decide +kernel
theorem dX12_closes_51 : decode cX12_closes 51 = .ok (.iaload, 1) := by decide +kernel
theorem dX12_closes_52 : decode cX12_closes 52 = .ok (.invokestatic 24, 3) := by decide +kernel
theorem dX12_closes_55 : decode cX12_closes 55 = .ok (.aload_n 0, 1) := by decide +kernel
theorem dX12_closes_56 : decode cX12_closes 56 = .ok (.getfield 159, 3) := by decide +kernel
theorem dX12_closes_59 : decode cX12_closes 59 = .ok (.iload_n 1, 1) := by decide +kernel
theorem dX12_closes_60 : decode cX12_closes 60 = .ok (.iaload, 1) := by decide +kernel
theorem dX12_closes_61 : decode cX12_closes 61 = .ok (.invokestatic 20, 3) := by decide +kernel
theorem dX12_closes_64 : decode cX12_closes 64 = .ok (.ifCond .ne 17, 3) := by decide +kernel
theorem dX12_closes_67 : decode cX12_closes 67 = .ok (.aload_n 0, 1) := by decide +kernel
theorem dX12_closes_68 : decode cX12_closes 68 = .ok (.getfield 159, 3) := by decide +kernel
theorem dX12_closes_71 : decode cX12_closes 71 = .ok (.iload_n 1, 1) := by decide +kernel
theorem dX12_closes_72 : decode cX12_closes 72 = .ok (.iaload, 1) := by decide +kernel
theorem dX12_closes_73 : decode cX12_closes 73 = .ok (.invokestatic 27, 3) := by decide +kernel
theorem dX12_closes_76 : decode cX12_closes 76 = .ok (.iconst 1, 1) := by decide +kernel
theorem dX12_closes_77 : decode cX12_closes 77 = .ok (.ixor, 1) := by decide +kernel
theorem dX12_closes_78 : decode cX12_closes 78 = .ok (.goto 12, 3) := by decide +kernel
theorem dX12_closes_81 : decode cX12_closes 81 = .ok (.aload_n 0, 1) := by decide +kernel
theorem dX12_closes_82 : decode cX12_closes 82 = .ok (.getfield 159, 3) := by decide +kernel
theorem dX12_closes_85 : decode cX12_closes 85 = .ok (.iload_n 1, 1) := by decide +kernel
theorem dX12_closes_86 : decode cX12_closes 86 = .ok (.iaload, 1) := by decide +kernel
theorem dX12_closes_87 : decode cX12_closes 87 = .ok (.invokestatic 27, 3) := by decide +kernel
theorem dX12_closes_90 : decode cX12_closes 90 = .ok (.invokevirtual 168, 3) := by decide +kernel
theorem dX12_closes_93 : decode cX12_closes 93 = .ok (.iinc 1 1, 3) := by decide +kernel
theorem dX12_closes_96 : decode cX12_closes 96 = .ok (.goto (-71), 3) := by decide +kernel
theorem dX12_closes_99 : decode cX12_closes 99 = .ok (.iconst 0, 1) := by decide +kernel
theorem dX12_closes_100 : decode cX12_closes 100 = .ok (.istore_n 1, 1) := by decide +kernel
theorem dX12_closes_101 : decode cX12_closes 101 = .ok (.iload_n 1, 1) := by decide +kernel
theorem dX12_closes_102 : decode cX12_closes 102 = .ok (.bipush 24, 2) := by decide +kernel
theorem dX12_closes_104 : decode cX12_closes 104 = .ok (.if_icmp .ge 55, 3) := by decide +kernel
theorem dX12_closes_107 : decode cX12_closes 107 = .ok (.iconst 0, 1) := by decide +kernel
theorem dX12_closes_108 : decode cX12_closes 108 = .ok (.istore_n 2, 1) := by decide +kernel
theorem dX12_closes_109 : decode cX12_closes 109 = .ok (.iload_n 2, 1) := by decide +kernel
theorem dX12_closes_110 : decode cX12_closes 110 = .ok (.bipush 24, 2) := by decide +kernel
theorem dX12_closes_112 : decode cX12_closes 112 = .ok (.if_icmp .ge 41, 3) := by decide +kernel
theorem dX12_closes_115 : decode cX12_closes 115 = .ok (.aload_n 0, 1) := by decide +kernel
theorem dX12_closes_116 : decode cX12_closes 116 = .ok (.getfield 162, 3) := by decide +kernel
theorem dX12_closes_119 : decode cX12_closes 119 = .ok (.iload_n 2, 1) := by decide +kernel
theorem dX12_closes_120 : decode cX12_closes 120 = .ok (.dup2, 1) := by decide +kernel
theorem dX12_closes_121 : decode cX12_closes 121 = .ok (.iaload, 1) := by decide +kernel
theorem dX12_closes_122 : decode cX12_closes 122 = .ok (.aload_n 0, 1) := by decide +kernel
theorem dX12_closes_123 : decode cX12_closes 123 = .ok (.getfield 162, 3) := by decide +kernel
theorem dX12_closes_126 : decode cX12_closes 126 = .ok (.iload_n 2, 1) := by decide +kernel
theorem dX12_closes_127 : decode cX12_closes 127 = .ok (.iaload, 1) := by decide +kernel
theorem dX12_closes_128 : decode cX12_closes 128 = .ok (.iload_n 1, 1) := by decide +kernel
theorem dX12_closes_129 : decode cX12_closes 129 = .ok (.invokestatic 129, 3) := by decide +kernel
theorem dX12_closes_132 : decode cX12_closes 132 = .ok (.ifCond .eq 12, 3) := by decide +kernel
theorem dX12_closes_135 : decode cX12_closes 135 = .ok (.aload_n 0, 1) := by decide +kernel
theorem dX12_closes_136 : decode cX12_closes 136 = .ok (.getfield 162, 3) := by decide +kernel
theorem dX12_closes_139 : decode cX12_closes 139 = .ok (.iload_n 1, 1) := by decide +kernel
theorem dX12_closes_140 : decode cX12_closes 140 = .ok (.iaload, 1) := by decide +kernel
theorem dX12_closes_141 : decode cX12_closes 141 = .ok (.goto 4, 3) := by decide +kernel
theorem dX12_closes_144 : decode cX12_closes 144 = .ok (.iconst 0, 1) := by decide +kernel
theorem dX12_closes_145 : decode cX12_closes 145 = .ok (.ior, 1) := by decide +kernel
theorem dX12_closes_146 : decode cX12_closes 146 = .ok (.iastore, 1) := by decide +kernel
theorem dX12_closes_147 : decode cX12_closes 147 = .ok (.iinc 2 1, 3) := by decide +kernel
theorem dX12_closes_150 : decode cX12_closes 150 = .ok (.goto (-41), 3) := by decide +kernel
theorem dX12_closes_153 : decode cX12_closes 153 = .ok (.iinc 1 1, 3) := by decide +kernel
theorem dX12_closes_156 : decode cX12_closes 156 = .ok (.goto (-55), 3) := by decide +kernel
theorem dX12_closes_159 : decode cX12_closes 159 = .ok (.aload_n 0, 1) := by decide +kernel
theorem dX12_closes_160 : decode cX12_closes 160 = .ok (.iconst 1, 1) := by decide +kernel
theorem dX12_closes_161 : decode cX12_closes 161 = .ok (.putfield 172, 3) := by decide +kernel
theorem dX12_closes_164 : decode cX12_closes 164 = .ok (.iconst 0, 1) := by decide +kernel
theorem dX12_closes_165 : decode cX12_closes 165 = .ok (.istore_n 1, 1) := by decide +kernel
theorem dX12_closes_166 : decode cX12_closes 166 = .ok (.iload_n 1, 1) := by decide +kernel
theorem dX12_closes_167 : decode cX12_closes 167 = .ok (.bipush 24, 2) := by decide +kernel
theorem dX12_closes_169 : decode cX12_closes 169 = .ok (.if_icmp .ge 55, 3) := by decide +kernel
theorem dX12_closes_172 : decode cX12_closes 172 = .ok (.aload_n 0, 1) := by decide +kernel
theorem dX12_closes_173 : decode cX12_closes 173 = .ok (.aload_n 0, 1) := by decide +kernel
theorem dX12_closes_174 : decode cX12_closes 174 = .ok (.getfield 172, 3) := by decide +kernel
theorem dX12_closes_177 : decode cX12_closes 177 = .ok (.ifCond .eq 37, 3) := by decide +kernel
theorem dX12_closes_180 : decode cX12_closes 180 = .ok (.aload_n 0, 1) := by decide +kernel
theorem dX12_closes_181 : decode cX12_closes 181 = .ok (.getfield 162, 3) := by decide +kernel
theorem dX12_closes_184 : decode cX12_closes 184 = .ok (.iload_n 1, 1) := by decide +kernel
theorem dX12_closes_185 : decode cX12_closes 185 = .ok (.iaload, 1) := by decide +kernel
theorem dX12_closes_186 : decode cX12_closes 186 = .ok (.iload_n 1, 1) := by decide +kernel
theorem dX12_closes_187 : decode cX12_closes 187 = .ok (.iconst 1, 1) := by decide +kernel
theorem dX12_closes_188 : decode cX12_closes 188 = .ok (.iadd, 1) := by decide +kernel
theorem dX12_closes_189 : decode cX12_closes 189 = .ok (.invokestatic 129, 3) := by decide +kernel
theorem dX12_closes_192 : decode cX12_closes 192 = .ok (.ifCond .eq 18, 3) := by decide +kernel
theorem dX12_closes_195 : decode cX12_closes 195 = .ok (.aload_n 0, 1) := by decide +kernel
theorem dX12_closes_196 : decode cX12_closes 196 = .ok (.getfield 162, 3) := by decide +kernel
theorem dX12_closes_199 : decode cX12_closes 199 = .ok (.iload_n 1, 1) := by decide +kernel
theorem dX12_closes_200 : decode cX12_closes 200 = .ok (.iconst 1, 1) := by decide +kernel
theorem dX12_closes_201 : decode cX12_closes 201 = .ok (.iadd, 1) := by decide +kernel
theorem dX12_closes_202 : decode cX12_closes 202 = .ok (.iaload, 1) := by decide +kernel
theorem dX12_closes_203 : decode cX12_closes 203 = .ok (.iload_n 1, 1) := by decide +kernel
theorem dX12_closes_204 : decode cX12_closes 204 = .ok (.invokestatic 129, 3) := by decide +kernel
theorem dX12_closes_207 : decode cX12_closes 207 = .ok (.ifCond .ne 7, 3) := by decide +kernel
theorem dX12_closes_210 : decode cX12_closes 210 = .ok (.iconst 1, 1) := by decide +kernel
theorem dX12_closes_211 : decode cX12_closes 211 = .ok (.goto 4, 3) := by decide +kernel
theorem dX12_closes_214 : decode cX12_closes 214 = .ok (.iconst 0, 1) := by decide +kernel
theorem dX12_closes_215 : decode cX12_closes 215 = .ok (.putfield 172, 3) := by decide +kernel
theorem dX12_closes_218 : decode cX12_closes 218 = .ok (.iinc 1 2, 3) := by decide +kernel
theorem dX12_closes_221 : decode cX12_closes 221 = .ok (.goto (-55), 3) := by decide +kernel
theorem dX12_closes_224 : decode cX12_closes 224 = .ok (.return_, 1) := by decide +kernel
theorem dX12_isTorn_0 : decode cX12_isTorn 0 = .ok (.iload_n 0, 1) := by decide +kernel
theorem dX12_isTorn_1 : decode cX12_isTorn 1 = .ok (.iload_n 0, 1) := by decide +kernel
theorem dX12_isTorn_2 : decode cX12_isTorn 2 = .ok (.iconst 1, 1) := by decide +kernel
theorem dX12_isTorn_3 : decode cX12_isTorn 3 = .ok (.ishr, 1) := by decide +kernel
theorem dX12_isTorn_4 : decode cX12_isTorn 4 = .ok (.iand, 1) := by decide +kernel
theorem dX12_isTorn_5 : decode cX12_isTorn 5 = .ok (.ldc 176, 2) := by decide +kernel
theorem dX12_isTorn_7 : decode cX12_isTorn 7 = .ok (.iand, 1) := by decide +kernel
theorem dX12_isTorn_8 : decode cX12_isTorn 8 = .ok (.ifCond .eq 7, 3) := by decide +kernel
theorem dX12_isTorn_11 : decode cX12_isTorn 11 = .ok (.iconst 1, 1) := by decide +kernel
theorem dX12_isTorn_12 : decode cX12_isTorn 12 = .ok (.goto 4, 3) := by decide +kernel
theorem dX12_isTorn_15 : decode cX12_isTorn 15 = .ok (.iconst 0, 1) := by decide +kernel
theorem dX12_isTorn_16 : decode cX12_isTorn 16 = .ok (.ireturn, 1) := by decide +kernel
theorem dX12_can_0 : decode cX12_can 0 = .ok (.aload_n 0, 1) := by decide +kernel
theorem dX12_can_1 : decode cX12_can 1 = .ok (.getfield 172, 3) := by decide +kernel
theorem dX12_can_4 : decode cX12_can 4 = .ok (.ifCond .eq 26, 3) := by decide +kernel
theorem dX12_can_7 : decode cX12_can 7 = .ok (.aload_n 0, 1) := by decide +kernel
theorem dX12_can_8 : decode cX12_can 8 = .ok (.getfield 162, 3) := by decide +kernel
theorem dX12_can_11 : decode cX12_can 11 = .ok (.iload_n 1, 1) := by decide +kernel
theorem dX12_can_12 : decode cX12_can 12 = .ok (.iaload, 1) := by decide +kernel
theorem dX12_can_13 : decode cX12_can 13 = .ok (.aload_n 0, 1) := by decide +kernel
theorem dX12_can_14 : decode cX12_can 14 = .ok (.getfield 162, 3) := by decide +kernel
theorem dX12_can_17 : decode cX12_can 17 = .ok (.iload_n 2, 1) := by decide +kernel
theorem dX12_can_18 : decode cX12_can 18 = .ok (.iaload, 1) := by decide +kernel
theorem dX12_can_19 : decode cX12_can 19 = .ok (.ior, 1) := by decide +kernel
theorem dX12_can_20 : decode cX12_can 20 = .ok (.invokestatic 177, 3) := by decide +kernel
theorem dX12_can_23 : decode cX12_can 23 = .ok (.ifCond .ne 7, 3) := by decide +kernel
theorem dX12_can_26 : decode cX12_can 26 = .ok (.iconst 1, 1) := by decide +kernel
theorem dX12_can_27 : decode cX12_can 27 = .ok (.goto 4, 3) := by decide +kernel
theorem dX12_can_30 : decode cX12_can 30 = .ok (.iconst 0, 1) := by decide +kernel
theorem dX12_can_31 : decode cX12_can 31 = .ok (.ireturn, 1) := by decide +kernel
theorem dX12_areThere_0 : decode cX12_areThere 0 = .ok (.iconst 1, 1) := by decide +kernel
theorem dX12_areThere_1 : decode cX12_areThere 1 = .ok (.istore_n 1, 1) := by decide +kernel
theorem dX12_areThere_2 : decode cX12_areThere 2 = .ok (.iconst 0, 1) := by decide +kernel
theorem dX12_areThere_3 : decode cX12_areThere 3 = .ok (.istore_n 2, 1) := by decide +kernel
theorem dX12_areThere_4 : decode cX12_areThere 4 = .ok (.iload_n 2, 1) := by decide +kernel
theorem dX12_areThere_5 : decode cX12_areThere 5 = .ok (.aload_n 0, 1) := by decide +kernel
theorem dX12_areThere_6 : decode cX12_areThere 6 = .ok (.getfield 156, 3) := by decide +kernel
theorem dX12_areThere_9 : decode cX12_areThere 9 = .ok (.if_icmp .ge 77, 3) := by decide +kernel
theorem dX12_areThere_12 : decode cX12_areThere 12 = .ok (.aload_n 0, 1) := by decide +kernel
theorem dX12_areThere_13 : decode cX12_areThere 13 = .ok (.getfield 159, 3) := by decide +kernel
theorem dX12_areThere_16 : decode cX12_areThere 16 = .ok (.iload_n 2, 1) := by decide +kernel
theorem dX12_areThere_17 : decode cX12_areThere 17 = .ok (.iaload, 1) := by decide +kernel
theorem dX12_areThere_18 : decode cX12_areThere 18 = .ok (.invokestatic 27, 3) := by decide +kernel
theorem dX12_areThere_21 : decode cX12_areThere 21 = .ok (.istore_n 3, 1) := by decide +kernel
theorem dX12_areThere_22 : decode cX12_areThere 22 = .ok (.iload_n 1, 1) := by decide +kernel
theorem dX12_areThere_23 : decode cX12_areThere 23 = .ok (.ifCond .eq 55, 3) := by decide +kernel
theorem dX12_areThere_26 : decode cX12_areThere 26 = .ok (.aload_n 0, 1) := by decide +kernel
theorem dX12_areThere_27 : decode cX12_areThere 27 = .ok (.getfield 159, 3) := by decide +kernel
theorem dX12_areThere_30 : decode cX12_areThere 30 = .ok (.iload_n 2, 1) := by decide +kernel
theorem dX12_areThere_31 : decode cX12_areThere 31 = .ok (.iaload, 1) := by decide +kernel
theorem dX12_areThere_32 : decode cX12_areThere 32 = .ok (.invokestatic 165, 3) := by decide +kernel
theorem dX12_areThere_35 : decode cX12_areThere 35 = .ok (.ifCond .ne 39, 3) := by decide +kernel
theorem dX12_areThere_38 : decode cX12_areThere 38 = .ok (.aload_n 0, 1) := by decide +kernel
theorem dX12_areThere_39 : decode cX12_areThere 39 = .ok (.aload_n 0, 1) := by decide +kernel
theorem dX12_areThere_40 : decode cX12_areThere 40 = .ok (.getfield 159, 3) := by decide +kernel
theorem dX12_areThere_43 : decode cX12_areThere 43 = .ok (.iload_n 2, 1) := by decide +kernel
theorem dX12_areThere_44 : decode cX12_areThere 44 = .ok (.iaload, 1) := by decide +kernel
theorem dX12_areThere_45 : decode cX12_areThere 45 = .ok (.invokestatic 24, 3) := by decide +kernel
theorem dX12_areThere_48 : decode cX12_areThere 48 = .ok (.aload_n 0, 1) := by decide +kernel
theorem dX12_areThere_49 : decode cX12_areThere 49 = .ok (.getfield 159, 3) := by decide +kernel
theorem dX12_areThere_52 : decode cX12_areThere 52 = .ok (.iload_n 2, 1) := by decide +kernel
theorem dX12_areThere_53 : decode cX12_areThere 53 = .ok (.iaload, 1) := by decide +kernel
theorem dX12_areThere_54 : decode cX12_areThere 54 = .ok (.invokestatic 20, 3) := by decide +kernel
theorem dX12_areThere_57 : decode cX12_areThere 57 = .ok (.iconst 2, 1) := by decide +kernel
theorem dX12_areThere_58 : decode cX12_areThere 58 = .ok (.if_icmp .ne 7, 3) := by decide +kernel
theorem dX12_areThere_61 : decode cX12_areThere 61 = .ok (.iload_n 3, 1) := by decide +kernel
theorem dX12_areThere_62 : decode cX12_areThere 62 = .ok (.goto 6, 3) := by decide +kernel
theorem dX12_areThere_65 : decode cX12_areThere 65 = .ok (.iload_n 3, 1) := by decide +kernel
theorem dX12_areThere_66 : decode cX12_areThere 66 = .ok (.iconst 1, 1) := by decide +kernel
theorem dX12_areThere_67 : decode cX12_areThere 67 = .ok (.ixor, 1) := by decide +kernel
theorem dX12_areThere_68 : decode cX12_areThere 68 = .ok (.invokevirtual 180, 3) := by decide +kernel
theorem dX12_areThere_71 : decode cX12_areThere 71 = .ok (.ifCond .eq 7, 3) := by decide +kernel
theorem dX12_areThere_74 : decode cX12_areThere 74 = .ok (.iconst 1, 1) := by decide +kernel
theorem dX12_areThere_75 : decode cX12_areThere 75 = .ok (.goto 4, 3) := by decide +kernel
theorem dX12_areThere_78 : decode cX12_areThere 78 = .ok (.iconst 0, 1) := by decide +kernel
theorem dX12_areThere_79 : decode cX12_areThere 79 = .ok (.istore_n 1, 1) := by decide +kernel
theorem dX12_areThere_80 : decode cX12_areThere 80 = .ok (.iinc 2 1, 3) := by decide +kernel
theorem dX12_areThere_83 : decode cX12_areThere 83 = .ok (.goto (-79), 3) := by decide +kernel
theorem dX12_areThere_86 : decode cX12_areThere 86 = .ok (.iconst 0, 1) := by decide +kernel
theorem dX12_areThere_87 : decode cX12_areThere 87 = .ok (.istore_n 2, 1) := by decide +kernel
theorem dX12_areThere_88 : decode cX12_areThere 88 = .ok (.iload_n 2, 1) := by decide +kernel
theorem dX12_areThere_89 : decode cX12_areThere 89 = .ok (.bipush 12, 2) := by decide +kernel
theorem dX12_areThere_91 : decode cX12_areThere 91 = .ok (.if_icmp .ge 43, 3) := by decide +kernel
theorem dX12_areThere_94 : decode cX12_areThere 94 = .ok (.iload_n 1, 1) := by decide +kernel
theorem dX12_areThere_95 : decode cX12_areThere 95 = .ok (.ifCond .eq 31, 3) := by decide +kernel
theorem dX12_areThere_98 : decode cX12_areThere 98 = .ok (.aload_n 0, 1) := by decide +kernel
theorem dX12_areThere_99 : decode cX12_areThere 99 = .ok (.getfield 139, 3) := by decide +kernel
theorem dX12_areThere_102 : decode cX12_areThere 102 = .ok (.iload_n 2, 1) := by decide +kernel
theorem dX12_areThere_103 : decode cX12_areThere 103 = .ok (.invokestatic 129, 3) := by decide +kernel
theorem dX12_areThere_106 : decode cX12_areThere 106 = .ok (.ifCond .eq 16, 3) := by decide +kernel
theorem dX12_areThere_109 : decode cX12_areThere 109 = .ok (.aload_n 0, 1) := by decide +kernel
theorem dX12_areThere_110 : decode cX12_areThere 110 = .ok (.iconst 2, 1) := by decide +kernel
theorem dX12_areThere_111 : decode cX12_areThere 111 = .ok (.iload_n 2, 1) := by decide +kernel
theorem dX12_areThere_112 : decode cX12_areThere 112 = .ok (.imul, 1) := by decide +kernel
theorem dX12_areThere_113 : decode cX12_areThere 113 = .ok (.iconst 2, 1) := by decide +kernel
theorem dX12_areThere_114 : decode cX12_areThere 114 = .ok (.iload_n 2, 1) := by decide +kernel
theorem dX12_areThere_115 : decode cX12_areThere 115 = .ok (.imul, 1) := by decide +kernel
theorem dX12_areThere_116 : decode cX12_areThere 116 = .ok (.invokevirtual 180, 3) := by decide +kernel
theorem dX12_areThere_119 : decode cX12_areThere 119 = .ok (.ifCond .eq 7, 3) := by decide +kernel
theorem dX12_areThere_122 : decode cX12_areThere 122 = .ok (.iconst 1, 1) := by decide +kernel
theorem dX12_areThere_123 : decode cX12_areThere 123 = .ok (.goto 4, 3) := by decide +kernel
theorem dX12_areThere_126 : decode cX12_areThere 126 = .ok (.iconst 0, 1) := by decide +kernel
theorem dX12_areThere_127 : decode cX12_areThere 127 = .ok (.istore_n 1, 1) := by decide +kernel
theorem dX12_areThere_128 : decode cX12_areThere 128 = .ok (.iinc 2 1, 3) := by decide +kernel
theorem dX12_areThere_131 : decode cX12_areThere 131 = .ok (.goto (-43), 3) := by decide +kernel
theorem dX12_areThere_134 : decode cX12_areThere 134 = .ok (.iload_n 1, 1) := by decide +kernel
theorem dX12_areThere_135 : decode cX12_areThere 135 = .ok (.ireturn, 1) := by decide +kernel
theorem dX12_holdsLaid_0 : decode cX12_holdsLaid 0 = .ok (.aload_n 0, 1) := by decide +kernel
theorem dX12_holdsLaid_1 : decode cX12_holdsLaid 1 = .ok (.invokevirtual 183, 3) := by decide +kernel
theorem dX12_holdsLaid_4 : decode cX12_holdsLaid 4 = .ok (.aload_n 0, 1) := by decide +kernel
theorem dX12_holdsLaid_5 : decode cX12_holdsLaid 5 = .ok (.invokevirtual 187, 3) := by decide +kernel
theorem dX12_holdsLaid_8 : decode cX12_holdsLaid 8 = .ok (.ireturn, 1) := by decide +kernel
theorem dX12_followsLaid_0 : decode cX12_followsLaid 0 = .ok (.aload_n 0, 1) := by decide +kernel
theorem dX12_followsLaid_1 : decode cX12_followsLaid 1 = .ok (.iload_n 1, 1) := by decide +kernel
theorem dX12_followsLaid_2 : decode cX12_followsLaid 2 = .ok (.invokestatic 190, 3) := by decide +kernel
theorem dX12_followsLaid_5 : decode cX12_followsLaid 5 = .ok (.invokevirtual 193, 3) := by decide +kernel
theorem dX12_followsLaid_8 : decode cX12_followsLaid 8 = .ok (.aload_n 0, 1) := by decide +kernel
theorem dX12_followsLaid_9 : decode cX12_followsLaid 9 = .ok (.invokevirtual 197, 3) := by decide +kernel
theorem dX12_followsLaid_12 : decode cX12_followsLaid 12 = .ok (.ifCond .ne 7, 3) := by decide +kernel
theorem dX12_followsLaid_15 : decode cX12_followsLaid 15 = .ok (.iconst 1, 1) := by decide +kernel
theorem dX12_followsLaid_16 : decode cX12_followsLaid 16 = .ok (.goto 4, 3) := by decide +kernel
theorem dX12_followsLaid_19 : decode cX12_followsLaid 19 = .ok (.iconst 0, 1) := by decide +kernel
theorem dX12_followsLaid_20 : decode cX12_followsLaid 20 = .ok (.istore_n 2, 1) := by decide +kernel
theorem dX12_followsLaid_21 : decode cX12_followsLaid 21 = .ok (.aload_n 0, 1) := by decide +kernel
theorem dX12_followsLaid_22 : decode cX12_followsLaid 22 = .ok (.dup, 1) := by decide +kernel
theorem dX12_followsLaid_23 : decode cX12_followsLaid 23 = .ok (.getfield 156, 3) := by decide +kernel
theorem dX12_followsLaid_26 : decode cX12_followsLaid 26 = .ok (.iconst 1, 1) := by decide +kernel
theorem dX12_followsLaid_27 : decode cX12_followsLaid 27 = .ok (.isub, 1) := by decide +kernel
theorem dX12_followsLaid_28 : decode cX12_followsLaid 28 = .ok (.putfield 156, 3) := by decide +kernel
theorem dX12_followsLaid_31 : decode cX12_followsLaid 31 = .ok (.iload_n 2, 1) := by decide +kernel
theorem dX12_followsLaid_32 : decode cX12_followsLaid 32 = .ok (.ireturn, 1) := by decide +kernel
theorem dX12_followsFrom_0 : decode cX12_followsFrom 0 = .ok (.aload_n 0, 1) := by decide +kernel
theorem dX12_followsFrom_1 : decode cX12_followsFrom 1 = .ok (.iload_n 1, 1) := by decide +kernel
theorem dX12_followsFrom_2 : decode cX12_followsFrom 2 = .ok (.invokevirtual 200, 3) := by decide +kernel
theorem dX12_followsFrom_5 : decode cX12_followsFrom 5 = .ok (.aload_n 0, 1) := by decide +kernel
theorem dX12_followsFrom_6 : decode cX12_followsFrom 6 = .ok (.iload_n 2, 1) := by decide +kernel
theorem dX12_followsFrom_7 : decode cX12_followsFrom 7 = .ok (.invokevirtual 203, 3) := by decide +kernel
theorem dX12_followsFrom_10 : decode cX12_followsFrom 10 = .ok (.ireturn, 1) := by decide +kernel
theorem dX12_holdsBy_0 : decode cX12_holdsBy 0 = .ok (.aload_n 0, 1) := by decide +kernel
theorem dX12_holdsBy_1 : decode cX12_holdsBy 1 = .ok (.iload_n 1, 1) := by decide +kernel
theorem dX12_holdsBy_2 : decode cX12_holdsBy 2 = .ok (.invokevirtual 200, 3) := by decide +kernel
theorem dX12_holdsBy_5 : decode cX12_holdsBy 5 = .ok (.aload_n 0, 1) := by decide +kernel
theorem dX12_holdsBy_6 : decode cX12_holdsBy 6 = .ok (.invokevirtual 197, 3) := by decide +kernel
theorem dX12_holdsBy_9 : decode cX12_holdsBy 9 = .ok (.ireturn, 1) := by decide +kernel
theorem dX12_holds_0 : decode cX12_holds 0 = .ok (.aload_n 0, 1) := by decide +kernel
theorem dX12_holds_1 : decode cX12_holds 1 = .ok (.iconst 0, 1) := by decide +kernel
theorem dX12_holds_2 : decode cX12_holds 2 = .ok (.putfield 3, 3) := by decide +kernel
theorem dX12_holds_5 : decode cX12_holds 5 = .ok (.aload_n 0, 1) := by decide +kernel
theorem dX12_holds_6 : decode cX12_holds 6 = .ok (.aload_n 0, 1) := by decide +kernel
theorem dX12_holds_7 : decode cX12_holds 7 = .ok (.invokevirtual 206, 3) := by decide +kernel
theorem dX12_holds_10 : decode cX12_holds 10 = .ok (.invokevirtual 209, 3) := by decide +kernel
theorem dX12_holds_13 : decode cX12_holds 13 = .ok (.invokestatic 52, 3) := by decide +kernel
theorem dX12_holds_16 : decode cX12_holds 16 = .ok (.ireturn, 1) := by decide +kernel
theorem dX12_follows_0 : decode cX12_follows 0 = .ok (.aload_n 0, 1) := by decide +kernel
theorem dX12_follows_1 : decode cX12_follows 1 = .ok (.iconst 0, 1) := by decide +kernel
theorem dX12_follows_2 : decode cX12_follows 2 = .ok (.putfield 3, 3) := by decide +kernel
theorem dX12_follows_5 : decode cX12_follows 5 = .ok (.iload_n 1, 1) := by decide +kernel
theorem dX12_follows_6 : decode cX12_follows 6 = .ok (.invokestatic 142, 3) := by decide +kernel
theorem dX12_follows_9 : decode cX12_follows 9 = .ok (.ifCond .ne 5, 3) := by decide +kernel
theorem dX12_follows_12 : decode cX12_follows 12 = .ok (.iconst (-1), 1) := by decide +kernel
theorem dX12_follows_13 : decode cX12_follows 13 = .ok (.ireturn, 1) := by decide +kernel
theorem dX12_follows_14 : decode cX12_follows 14 = .ok (.aload_n 0, 1) := by decide +kernel
theorem dX12_follows_15 : decode cX12_follows 15 = .ok (.aload_n 0, 1) := by decide +kernel
theorem dX12_follows_16 : decode cX12_follows 16 = .ok (.invokevirtual 206, 3) := by decide +kernel
theorem dX12_follows_19 : decode cX12_follows 19 = .ok (.iload_n 1, 1) := by decide +kernel
theorem dX12_follows_20 : decode cX12_follows 20 = .ok (.invokevirtual 212, 3) := by decide +kernel
theorem dX12_follows_23 : decode cX12_follows 23 = .ok (.ifCond .ne 5, 3) := by decide +kernel
theorem dX12_follows_26 : decode cX12_follows 26 = .ok (.iconst 0, 1) := by decide +kernel
theorem dX12_follows_27 : decode cX12_follows 27 = .ok (.ireturn, 1) := by decide +kernel
theorem dX12_follows_28 : decode cX12_follows 28 = .ok (.aload_n 0, 1) := by decide +kernel
theorem dX12_follows_29 : decode cX12_follows 29 = .ok (.aload_n 0, 1) := by decide +kernel
theorem dX12_follows_30 : decode cX12_follows 30 = .ok (.invokevirtual 206, 3) := by decide +kernel
theorem dX12_follows_33 : decode cX12_follows 33 = .ok (.aload_n 0, 1) := by decide +kernel
theorem dX12_follows_34 : decode cX12_follows 34 = .ok (.getfield 115, 3) := by decide +kernel
theorem dX12_follows_37 : decode cX12_follows 37 = .ok (.iconst (-1), 1) := by decide +kernel
theorem dX12_follows_38 : decode cX12_follows 38 = .ok (.ixor, 1) := by decide +kernel
theorem dX12_follows_39 : decode cX12_follows 39 = .ok (.iand, 1) := by decide +kernel
theorem dX12_follows_40 : decode cX12_follows 40 = .ok (.iload_n 1, 1) := by decide +kernel
theorem dX12_follows_41 : decode cX12_follows 41 = .ok (.invokevirtual 212, 3) := by decide +kernel
theorem dX12_follows_44 : decode cX12_follows 44 = .ok (.ifCond .eq 7, 3) := by decide +kernel
theorem dX12_follows_47 : decode cX12_follows 47 = .ok (.iconst 2, 1) := by decide +kernel
theorem dX12_follows_48 : decode cX12_follows 48 = .ok (.goto 4, 3) := by decide +kernel
theorem dX12_follows_51 : decode cX12_follows 51 = .ok (.iconst 1, 1) := by decide +kernel
theorem dX12_follows_52 : decode cX12_follows 52 = .ok (.ireturn, 1) := by decide +kernel
theorem dX12_decided_0 : decode cX12_decided 0 = .ok (.aload_n 0, 1) := by decide +kernel
theorem dX12_decided_1 : decode cX12_decided 1 = .ok (.iconst 0, 1) := by decide +kernel
theorem dX12_decided_2 : decode cX12_decided 2 = .ok (.putfield 3, 3) := by decide +kernel
theorem dX12_decided_5 : decode cX12_decided 5 = .ok (.iload_n 1, 1) := by decide +kernel
theorem dX12_decided_6 : decode cX12_decided 6 = .ok (.invokestatic 142, 3) := by decide +kernel
theorem dX12_decided_9 : decode cX12_decided 9 = .ok (.ifCond .ne 5, 3) := by decide +kernel
theorem dX12_decided_12 : decode cX12_decided 12 = .ok (.iconst (-1), 1) := by decide +kernel
theorem dX12_decided_13 : decode cX12_decided 13 = .ok (.ireturn, 1) := by decide +kernel
theorem dX12_decided_14 : decode cX12_decided 14 = .ok (.aload_n 0, 1) := by decide +kernel
theorem dX12_decided_15 : decode cX12_decided 15 = .ok (.aload_n 0, 1) := by decide +kernel
theorem dX12_decided_16 : decode cX12_decided 16 = .ok (.invokevirtual 206, 3) := by decide +kernel
theorem dX12_decided_19 : decode cX12_decided 19 = .ok (.iload_n 1, 1) := by decide +kernel
theorem dX12_decided_20 : decode cX12_decided 20 = .ok (.invokevirtual 212, 3) := by decide +kernel
theorem dX12_decided_23 : decode cX12_decided 23 = .ok (.invokestatic 52, 3) := by decide +kernel
theorem dX12_decided_26 : decode cX12_decided 26 = .ok (.iconst 2, 1) := by decide +kernel
theorem dX12_decided_27 : decode cX12_decided 27 = .ok (.aload_n 0, 1) := by decide +kernel
theorem dX12_decided_28 : decode cX12_decided 28 = .ok (.aload_n 0, 1) := by decide +kernel
theorem dX12_decided_29 : decode cX12_decided 29 = .ok (.invokevirtual 206, 3) := by decide +kernel
theorem dX12_decided_32 : decode cX12_decided 32 = .ok (.iload_n 1, 1) := by decide +kernel
theorem dX12_decided_33 : decode cX12_decided 33 = .ok (.invokestatic 190, 3) := by decide +kernel
theorem dX12_decided_36 : decode cX12_decided 36 = .ok (.invokevirtual 212, 3) := by decide +kernel
theorem dX12_decided_39 : decode cX12_decided 39 = .ok (.invokestatic 52, 3) := by decide +kernel
theorem dX12_decided_42 : decode cX12_decided 42 = .ok (.imul, 1) := by decide +kernel
theorem dX12_decided_43 : decode cX12_decided 43 = .ok (.iadd, 1) := by decide +kernel
theorem dX12_decided_44 : decode cX12_decided 44 = .ok (.ireturn, 1) := by decide +kernel
theorem dX12_areSayings_0 : decode cX12_areSayings 0 = .ok (.iload_n 1, 1) := by decide +kernel
theorem dX12_areSayings_1 : decode cX12_areSayings 1 = .ok (.i2l, 1) := by decide +kernel
theorem dX12_areSayings_2 : decode cX12_areSayings 2 = .ok (.lconst 0, 1) := by decide +kernel
theorem dX12_areSayings_3 : decode cX12_areSayings 3 = .ok (.iconst 1, 1) := by decide +kernel
theorem dX12_areSayings_4 : decode cX12_areSayings 4 = .ok (.aload_n 0, 1) := by decide +kernel
theorem dX12_areSayings_5 : decode cX12_areSayings 5 = .ok (.getfield 105, 3) := by decide +kernel
theorem dX12_areSayings_8 : decode cX12_areSayings 8 = .ok (.ishl, 1) := by decide +kernel
theorem dX12_areSayings_9 : decode cX12_areSayings 9 = .ok (.iconst 1, 1) := by decide +kernel
theorem dX12_areSayings_10 : decode cX12_areSayings 10 = .ok (.isub, 1) := by decide +kernel
theorem dX12_areSayings_11 : decode cX12_areSayings 11 = .ok (.i2l, 1) := by decide +kernel
theorem dX12_areSayings_12 : decode cX12_areSayings 12 = .ok (.invokestatic 16, 3) := by decide +kernel
theorem dX12_areSayings_15 : decode cX12_areSayings 15 = .ok (.ireturn, 1) := by decide +kernel
theorem dX12_from_0 : decode cX12_from 0 = .ok (.aload_n 0, 1) := by decide +kernel
theorem dX12_from_1 : decode cX12_from 1 = .ok (.iconst 0, 1) := by decide +kernel
theorem dX12_from_2 : decode cX12_from 2 = .ok (.putfield 3, 3) := by decide +kernel
theorem dX12_from_5 : decode cX12_from 5 = .ok (.aload_n 0, 1) := by decide +kernel
theorem dX12_from_6 : decode cX12_from 6 = .ok (.iload_n 1, 1) := by decide +kernel
theorem dX12_from_7 : decode cX12_from 7 = .ok (.invokevirtual 215, 3) := by decide +kernel
theorem dX12_from_10 : decode cX12_from 10 = .ok (.ifCond .eq 22, 3) := by decide +kernel
theorem dX12_from_13 : decode cX12_from 13 = .ok (.iload_n 2, 1) := by decide +kernel
theorem dX12_from_14 : decode cX12_from 14 = .ok (.invokestatic 142, 3) := by decide +kernel
theorem dX12_from_17 : decode cX12_from 17 = .ok (.ifCond .eq 15, 3) := by decide +kernel
theorem dX12_from_20 : decode cX12_from 20 = .ok (.aload_n 0, 1) := by decide +kernel
theorem dX12_from_21 : decode cX12_from 21 = .ok (.iload_n 1, 1) := by decide +kernel
theorem dX12_from_22 : decode cX12_from 22 = .ok (.iload_n 2, 1) := by decide +kernel
theorem dX12_from_23 : decode cX12_from 23 = .ok (.invokevirtual 212, 3) := by decide +kernel
theorem dX12_from_26 : decode cX12_from 26 = .ok (.invokestatic 52, 3) := by decide +kernel
theorem dX12_from_29 : decode cX12_from 29 = .ok (.goto 4, 3) := by decide +kernel
theorem dX12_from_32 : decode cX12_from 32 = .ok (.iconst (-1), 1) := by decide +kernel
theorem dX12_from_33 : decode cX12_from 33 = .ok (.ireturn, 1) := by decide +kernel
theorem dX12_needs_0 : decode cX12_needs 0 = .ok (.aload_n 0, 1) := by decide +kernel
theorem dX12_needs_1 : decode cX12_needs 1 = .ok (.iconst 0, 1) := by decide +kernel
theorem dX12_needs_2 : decode cX12_needs 2 = .ok (.putfield 3, 3) := by decide +kernel
theorem dX12_needs_5 : decode cX12_needs 5 = .ok (.iload_n 1, 1) := by decide +kernel
theorem dX12_needs_6 : decode cX12_needs 6 = .ok (.invokestatic 142, 3) := by decide +kernel
theorem dX12_needs_9 : decode cX12_needs 9 = .ok (.ifCond .ne 5, 3) := by decide +kernel
theorem dX12_needs_12 : decode cX12_needs 12 = .ok (.iconst (-1), 1) := by decide +kernel
theorem dX12_needs_13 : decode cX12_needs 13 = .ok (.ireturn, 1) := by decide +kernel
theorem dX12_needs_14 : decode cX12_needs 14 = .ok (.aload_n 0, 1) := by decide +kernel
theorem dX12_needs_15 : decode cX12_needs 15 = .ok (.invokevirtual 206, 3) := by decide +kernel
theorem dX12_needs_18 : decode cX12_needs 18 = .ok (.istore_n 2, 1) := by decide +kernel
theorem dX12_needs_19 : decode cX12_needs 19 = .ok (.aload_n 0, 1) := by decide +kernel
theorem dX12_needs_20 : decode cX12_needs 20 = .ok (.iload_n 2, 1) := by decide +kernel
theorem dX12_needs_21 : decode cX12_needs 21 = .ok (.iload_n 1, 1) := by decide +kernel
theorem dX12_needs_22 : decode cX12_needs 22 = .ok (.invokevirtual 212, 3) := by decide +kernel
theorem dX12_needs_25 : decode cX12_needs 25 = .ok (.ifCond .ne 6, 3) := by decide +kernel
theorem dX12_needs_28 : decode cX12_needs 28 = .ok (.bipush (-2), 2) := by decide +kernel
theorem dX12_needs_30 : decode cX12_needs 30 = .ok (.ireturn, 1) := by decide +kernel
theorem dX12_needs_31 : decode cX12_needs 31 = .ok (.iconst 0, 1) := by decide +kernel
theorem dX12_needs_32 : decode cX12_needs 32 = .ok (.istore_n 3, 1) := by decide +kernel
theorem dX12_needs_33 : decode cX12_needs 33 = .ok (.iconst 0, 1) := by decide +kernel
theorem dX12_needs_34 : decode cX12_needs 34 = .ok (.istore 4, 2) := by decide +kernel
theorem dX12_needs_36 : decode cX12_needs 36 = .ok (.iload 4, 2) := by decide +kernel
theorem dX12_needs_38 : decode cX12_needs 38 = .ok (.aload_n 0, 1) := by decide +kernel
theorem dX12_needs_39 : decode cX12_needs 39 = .ok (.getfield 105, 3) := by decide +kernel
theorem dX12_needs_42 : decode cX12_needs 42 = .ok (.if_icmp .ge 45, 3) := by decide +kernel
theorem dX12_needs_45 : decode cX12_needs 45 = .ok (.iload_n 3, 1) := by decide +kernel
theorem dX12_needs_46 : decode cX12_needs 46 = .ok (.iload_n 2, 1) := by decide +kernel
theorem dX12_needs_47 : decode cX12_needs 47 = .ok (.iload 4, 2) := by decide +kernel
theorem dX12_needs_49 : decode cX12_needs 49 = .ok (.invokestatic 129, 3) := by decide +kernel
theorem dX12_needs_52 : decode cX12_needs 52 = .ok (.ifCond .eq 26, 3) := by decide +kernel
theorem dX12_needs_55 : decode cX12_needs 55 = .ok (.aload_n 0, 1) := by decide +kernel
theorem dX12_needs_56 : decode cX12_needs 56 = .ok (.iload_n 2, 1) := by decide +kernel
theorem dX12_needs_57 : decode cX12_needs 57 = .ok (.iconst 1, 1) := by decide +kernel
theorem dX12_needs_58 : decode cX12_needs 58 = .ok (.iload 4, 2) := by decide +kernel
theorem dX12_needs_60 : decode cX12_needs 60 = .ok (.ishl, 1) := by decide +kernel
theorem dX12_needs_61 : decode cX12_needs 61 = .ok (.iconst (-1), 1) := by decide +kernel
theorem dX12_needs_62 : decode cX12_needs 62 = .ok (.ixor, 1) := by decide +kernel
theorem dX12_needs_63 : decode cX12_needs 63 = .ok (.iand, 1) := by decide +kernel
theorem dX12_needs_64 : decode cX12_needs 64 = .ok (.iload_n 1, 1) := by decide +kernel
theorem dX12_needs_65 : decode cX12_needs 65 = .ok (.invokevirtual 212, 3) := by decide +kernel
theorem dX12_needs_68 : decode cX12_needs 68 = .ok (.ifCond .ne 10, 3) := by decide +kernel
theorem dX12_needs_71 : decode cX12_needs 71 = .ok (.iconst 1, 1) := by decide +kernel
theorem dX12_needs_72 : decode cX12_needs 72 = .ok (.iload 4, 2) := by decide +kernel
theorem dX12_needs_74 : decode cX12_needs 74 = .ok (.ishl, 1) := by decide +kernel
theorem dX12_needs_75 : decode cX12_needs 75 = .ok (.goto 4, 3) := by decide +kernel
theorem dX12_needs_78 : decode cX12_needs 78 = .ok (.iconst 0, 1) := by decide +kernel
theorem dX12_needs_79 : decode cX12_needs 79 = .ok (.ior, 1) := by decide +kernel
theorem dX12_needs_80 : decode cX12_needs 80 = .ok (.istore_n 3, 1) := by decide +kernel
theorem dX12_needs_81 : decode cX12_needs 81 = .ok (.iinc 4 1, 3) := by decide +kernel
theorem dX12_needs_84 : decode cX12_needs 84 = .ok (.goto (-48), 3) := by decide +kernel
theorem dX12_needs_87 : decode cX12_needs 87 = .ok (.iload_n 3, 1) := by decide +kernel
theorem dX12_needs_88 : decode cX12_needs 88 = .ok (.ireturn, 1) := by decide +kernel
theorem dX12_followAll_0 : decode cX12_followAll 0 = .ok (.iconst 0, 1) := by decide +kernel
theorem dX12_followAll_1 : decode cX12_followAll 1 = .ok (.istore_n 2, 1) := by decide +kernel
theorem dX12_followAll_2 : decode cX12_followAll 2 = .ok (.iload_n 2, 1) := by decide +kernel
theorem dX12_followAll_3 : decode cX12_followAll 3 = .ok (.aload_n 0, 1) := by decide +kernel
theorem dX12_followAll_4 : decode cX12_followAll 4 = .ok (.getfield 145, 3) := by decide +kernel
theorem dX12_followAll_7 : decode cX12_followAll 7 = .ok (.if_icmp .ge 25, 3) := by decide +kernel
theorem dX12_followAll_10 : decode cX12_followAll 10 = .ok (.aload_n 0, 1) := by decide +kernel
theorem dX12_followAll_11 : decode cX12_followAll 11 = .ok (.iload_n 1, 1) := by decide +kernel
theorem dX12_followAll_12 : decode cX12_followAll 12 = .ok (.aload_n 0, 1) := by decide +kernel
theorem dX12_followAll_13 : decode cX12_followAll 13 = .ok (.getfield 148, 3) := by decide +kernel
theorem dX12_followAll_16 : decode cX12_followAll 16 = .ok (.iload_n 2, 1) := by decide +kernel
theorem dX12_followAll_17 : decode cX12_followAll 17 = .ok (.iaload, 1) := by decide +kernel
theorem dX12_followAll_18 : decode cX12_followAll 18 = .ok (.invokevirtual 212, 3) := by decide +kernel
theorem dX12_followAll_21 : decode cX12_followAll 21 = .ok (.ifCond .ne 5, 3) := by decide +kernel
theorem dX12_followAll_24 : decode cX12_followAll 24 = .ok (.iconst 0, 1) := by decide +kernel
theorem dX12_followAll_25 : decode cX12_followAll 25 = .ok (.ireturn, 1) := by decide +kernel
theorem dX12_followAll_26 : decode cX12_followAll 26 = .ok (.iinc 2 1, 3) := by decide +kernel
theorem dX12_followAll_29 : decode cX12_followAll 29 = .ok (.goto (-27), 3) := by decide +kernel
theorem dX12_followAll_32 : decode cX12_followAll 32 = .ok (.iconst 1, 1) := by decide +kernel
theorem dX12_followAll_33 : decode cX12_followAll 33 = .ok (.ireturn, 1) := by decide +kernel
theorem dX12_fewest_0 : decode cX12_fewest 0 = .ok (.aload_n 0, 1) := by decide +kernel
theorem dX12_fewest_1 : decode cX12_fewest 1 = .ok (.iconst 0, 1) := by decide +kernel
theorem dX12_fewest_2 : decode cX12_fewest 2 = .ok (.putfield 3, 3) := by decide +kernel
theorem dX12_fewest_5 : decode cX12_fewest 5 = .ok (.aload_n 0, 1) := by decide +kernel
theorem dX12_fewest_6 : decode cX12_fewest 6 = .ok (.invokevirtual 206, 3) := by decide +kernel
theorem dX12_fewest_9 : decode cX12_fewest 9 = .ok (.istore_n 1, 1) := by decide +kernel
theorem dX12_fewest_10 : decode cX12_fewest 10 = .ok (.aload_n 0, 1) := by decide +kernel
theorem dX12_fewest_11 : decode cX12_fewest 11 = .ok (.iload_n 1, 1) := by decide +kernel
theorem dX12_fewest_12 : decode cX12_fewest 12 = .ok (.invokevirtual 218, 3) := by decide +kernel
theorem dX12_fewest_15 : decode cX12_fewest 15 = .ok (.ifCond .ne 6, 3) := by decide +kernel
theorem dX12_fewest_18 : decode cX12_fewest 18 = .ok (.bipush (-2), 2) := by decide +kernel
theorem dX12_fewest_20 : decode cX12_fewest 20 = .ok (.ireturn, 1) := by decide +kernel
theorem dX12_fewest_21 : decode cX12_fewest 21 = .ok (.iconst 0, 1) := by decide +kernel
theorem dX12_fewest_22 : decode cX12_fewest 22 = .ok (.istore_n 2, 1) := by decide +kernel
theorem dX12_fewest_23 : decode cX12_fewest 23 = .ok (.iload_n 2, 1) := by decide +kernel
theorem dX12_fewest_24 : decode cX12_fewest 24 = .ok (.bipush 16, 2) := by decide +kernel
theorem dX12_fewest_26 : decode cX12_fewest 26 = .ok (.if_icmp .gt 58, 3) := by decide +kernel
theorem dX12_fewest_29 : decode cX12_fewest 29 = .ok (.iconst 0, 1) := by decide +kernel
theorem dX12_fewest_30 : decode cX12_fewest 30 = .ok (.istore_n 3, 1) := by decide +kernel
theorem dX12_fewest_31 : decode cX12_fewest 31 = .ok (.iload_n 3, 1) := by decide +kernel
theorem dX12_fewest_32 : decode cX12_fewest 32 = .ok (.iload_n 1, 1) := by decide +kernel
theorem dX12_fewest_33 : decode cX12_fewest 33 = .ok (.if_icmp .gt 45, 3) := by decide +kernel
theorem dX12_fewest_36 : decode cX12_fewest 36 = .ok (.iload_n 3, 1) := by decide +kernel
theorem dX12_fewest_37 : decode cX12_fewest 37 = .ok (.iload_n 1, 1) := by decide +kernel
theorem dX12_fewest_38 : decode cX12_fewest 38 = .ok (.iconst (-1), 1) := by decide +kernel
theorem dX12_fewest_39 : decode cX12_fewest 39 = .ok (.ixor, 1) := by decide +kernel
theorem dX12_fewest_40 : decode cX12_fewest 40 = .ok (.iand, 1) := by decide +kernel
theorem dX12_fewest_41 : decode cX12_fewest 41 = .ok (.ifCond .ne 31, 3) := by decide +kernel
theorem dX12_fewest_44 : decode cX12_fewest 44 = .ok (.iload_n 3, 1) := by decide +kernel
theorem dX12_fewest_45 : decode cX12_fewest 45 = .ok (.invokestatic 151, 3) := by decide +kernel
theorem dX12_fewest_48 : decode cX12_fewest 48 = .ok (.iload_n 2, 1) := by decide +kernel
theorem dX12_fewest_49 : decode cX12_fewest 49 = .ok (.if_icmp .ne 23, 3) := by decide +kernel
theorem dX12_fewest_52 : decode cX12_fewest 52 = .ok (.aload_n 0, 1) := by decide +kernel
theorem dX12_fewest_53 : decode cX12_fewest 53 = .ok (.iload_n 3, 1) := by decide +kernel
theorem dX12_fewest_54 : decode cX12_fewest 54 = .ok (.invokevirtual 218, 3) := by decide +kernel
theorem dX12_fewest_57 : decode cX12_fewest 57 = .ok (.ifCond .eq 15, 3) := by decide +kernel
theorem dX12_fewest_60 : decode cX12_fewest 60 = .ok (.aload_n 0, 1) := by decide +kernel
theorem dX12_fewest_61 : decode cX12_fewest 61 = .ok (.iconst 0, 1) := by decide +kernel
theorem dX12_fewest_62 : decode cX12_fewest 62 = .ok (.putfield 11, 3) := by decide +kernel
theorem dX12_fewest_65 : decode cX12_fewest 65 = .ok (.aload_n 0, 1) := by decide +kernel
theorem dX12_fewest_66 : decode cX12_fewest 66 = .ok (.iload_n 3, 1) := by decide +kernel
theorem dX12_fewest_67 : decode cX12_fewest 67 = .ok (.invokevirtual 221, 3) := by decide +kernel
theorem dX12_fewest_70 : decode cX12_fewest 70 = .ok (.iload_n 2, 1) := by decide +kernel
theorem dX12_fewest_71 : decode cX12_fewest 71 = .ok (.ireturn, 1) := by decide +kernel
theorem dX12_fewest_72 : decode cX12_fewest 72 = .ok (.iinc 3 1, 3) := by decide +kernel
theorem dX12_fewest_75 : decode cX12_fewest 75 = .ok (.goto (-44), 3) := by decide +kernel
theorem dX12_fewest_78 : decode cX12_fewest 78 = .ok (.iinc 2 1, 3) := by decide +kernel
theorem dX12_fewest_81 : decode cX12_fewest 81 = .ok (.goto (-58), 3) := by decide +kernel
theorem dX12_fewest_84 : decode cX12_fewest 84 = .ok (.bipush (-2), 2) := by decide +kernel
theorem dX12_fewest_86 : decode cX12_fewest 86 = .ok (.ireturn, 1) := by decide +kernel
theorem dX12_idle_0 : decode cX12_idle 0 = .ok (.aload_n 0, 1) := by decide +kernel
theorem dX12_idle_1 : decode cX12_idle 1 = .ok (.iconst 0, 1) := by decide +kernel
theorem dX12_idle_2 : decode cX12_idle 2 = .ok (.putfield 3, 3) := by decide +kernel
theorem dX12_idle_5 : decode cX12_idle 5 = .ok (.aload_n 0, 1) := by decide +kernel
theorem dX12_idle_6 : decode cX12_idle 6 = .ok (.invokevirtual 206, 3) := by decide +kernel
theorem dX12_idle_9 : decode cX12_idle 9 = .ok (.istore_n 1, 1) := by decide +kernel
theorem dX12_idle_10 : decode cX12_idle 10 = .ok (.iconst 0, 1) := by decide +kernel
theorem dX12_idle_11 : decode cX12_idle 11 = .ok (.istore_n 2, 1) := by decide +kernel
theorem dX12_idle_12 : decode cX12_idle 12 = .ok (.iconst 0, 1) := by decide +kernel
theorem dX12_idle_13 : decode cX12_idle 13 = .ok (.istore_n 3, 1) := by decide +kernel
theorem dX12_idle_14 : decode cX12_idle 14 = .ok (.iload_n 3, 1) := by decide +kernel
theorem dX12_idle_15 : decode cX12_idle 15 = .ok (.aload_n 0, 1) := by decide +kernel
theorem dX12_idle_16 : decode cX12_idle 16 = .ok (.getfield 105, 3) := by decide +kernel
theorem dX12_idle_19 : decode cX12_idle 19 = .ok (.if_icmp .ge 47, 3) := by decide +kernel
theorem dX12_idle_22 : decode cX12_idle 22 = .ok (.iload_n 2, 1) := by decide +kernel
theorem dX12_idle_23 : decode cX12_idle 23 = .ok (.iload_n 1, 1) := by decide +kernel
theorem dX12_idle_24 : decode cX12_idle 24 = .ok (.iload_n 3, 1) := by decide +kernel
theorem dX12_idle_25 : decode cX12_idle 25 = .ok (.invokestatic 129, 3) := by decide +kernel
theorem dX12_idle_28 : decode cX12_idle 28 = .ok (.ifCond .eq 29, 3) := by decide +kernel
theorem dX12_idle_31 : decode cX12_idle 31 = .ok (.aload_n 0, 1) := by decide +kernel
theorem dX12_idle_32 : decode cX12_idle 32 = .ok (.iload_n 1, 1) := by decide +kernel
theorem dX12_idle_33 : decode cX12_idle 33 = .ok (.iconst 1, 1) := by decide +kernel
theorem dX12_idle_34 : decode cX12_idle 34 = .ok (.iload_n 3, 1) := by decide +kernel
theorem dX12_idle_35 : decode cX12_idle 35 = .ok (.ishl, 1) := by decide +kernel
theorem dX12_idle_36 : decode cX12_idle 36 = .ok (.iconst (-1), 1) := by decide +kernel
theorem dX12_idle_37 : decode cX12_idle 37 = .ok (.ixor, 1) := by decide +kernel
theorem dX12_idle_38 : decode cX12_idle 38 = .ok (.iand, 1) := by decide +kernel
theorem dX12_idle_39 : decode cX12_idle 39 = .ok (.aload_n 0, 1) := by decide +kernel
theorem dX12_idle_40 : decode cX12_idle 40 = .ok (.getfield 87, 3) := by decide +kernel
theorem dX12_idle_43 : decode cX12_idle 43 = .ok (.iload_n 3, 1) := by decide +kernel
theorem dX12_idle_44 : decode cX12_idle 44 = .ok (.iaload, 1) := by decide +kernel
theorem dX12_idle_45 : decode cX12_idle 45 = .ok (.invokevirtual 212, 3) := by decide +kernel
theorem dX12_idle_48 : decode cX12_idle 48 = .ok (.ifCond .eq 9, 3) := by decide +kernel
theorem dX12_idle_51 : decode cX12_idle 51 = .ok (.iconst 1, 1) := by decide +kernel
theorem dX12_idle_52 : decode cX12_idle 52 = .ok (.iload_n 3, 1) := by decide +kernel
theorem dX12_idle_53 : decode cX12_idle 53 = .ok (.ishl, 1) := by decide +kernel
theorem dX12_idle_54 : decode cX12_idle 54 = .ok (.goto 4, 3) := by decide +kernel
theorem dX12_idle_57 : decode cX12_idle 57 = .ok (.iconst 0, 1) := by decide +kernel
theorem dX12_idle_58 : decode cX12_idle 58 = .ok (.ior, 1) := by decide +kernel
theorem dX12_idle_59 : decode cX12_idle 59 = .ok (.istore_n 2, 1) := by decide +kernel
theorem dX12_idle_60 : decode cX12_idle 60 = .ok (.iinc 3 1, 3) := by decide +kernel
theorem dX12_idle_63 : decode cX12_idle 63 = .ok (.goto (-49), 3) := by decide +kernel
theorem dX12_idle_66 : decode cX12_idle 66 = .ok (.iload_n 2, 1) := by decide +kernel
theorem dX12_idle_67 : decode cX12_idle 67 = .ok (.ireturn, 1) := by decide +kernel
theorem dX12_followsOne_0 : decode cX12_followsOne 0 = .ok (.aload_n 0, 1) := by decide +kernel
theorem dX12_followsOne_1 : decode cX12_followsOne 1 = .ok (.iconst 0, 1) := by decide +kernel
theorem dX12_followsOne_2 : decode cX12_followsOne 2 = .ok (.putfield 156, 3) := by decide +kernel
theorem dX12_followsOne_5 : decode cX12_followsOne 5 = .ok (.aload_n 0, 1) := by decide +kernel
theorem dX12_followsOne_6 : decode cX12_followsOne 6 = .ok (.iload_n 2, 1) := by decide +kernel
theorem dX12_followsOne_7 : decode cX12_followsOne 7 = .ok (.invokevirtual 193, 3) := by decide +kernel
theorem dX12_followsOne_10 : decode cX12_followsOne 10 = .ok (.aload_n 0, 1) := by decide +kernel
theorem dX12_followsOne_11 : decode cX12_followsOne 11 = .ok (.iload_n 1, 1) := by decide +kernel
theorem dX12_followsOne_12 : decode cX12_followsOne 12 = .ok (.invokevirtual 203, 3) := by decide +kernel
theorem dX12_followsOne_15 : decode cX12_followsOne 15 = .ok (.ireturn, 1) := by decide +kernel
theorem dX12_alike_0 : decode cX12_alike 0 = .ok (.aload_n 0, 1) := by decide +kernel
theorem dX12_alike_1 : decode cX12_alike 1 = .ok (.iconst 0, 1) := by decide +kernel
theorem dX12_alike_2 : decode cX12_alike 2 = .ok (.putfield 3, 3) := by decide +kernel
theorem dX12_alike_5 : decode cX12_alike 5 = .ok (.iload_n 1, 1) := by decide +kernel
theorem dX12_alike_6 : decode cX12_alike 6 = .ok (.invokestatic 142, 3) := by decide +kernel
theorem dX12_alike_9 : decode cX12_alike 9 = .ok (.ifCond .eq 10, 3) := by decide +kernel
theorem dX12_alike_12 : decode cX12_alike 12 = .ok (.iload_n 2, 1) := by decide +kernel
theorem dX12_alike_13 : decode cX12_alike 13 = .ok (.invokestatic 142, 3) := by decide +kernel
theorem dX12_alike_16 : decode cX12_alike 16 = .ok (.ifCond .ne 5, 3) := by decide +kernel
theorem dX12_alike_19 : decode cX12_alike 19 = .ok (.iconst (-1), 1) := by decide +kernel
theorem dX12_alike_20 : decode cX12_alike 20 = .ok (.ireturn, 1) := by decide +kernel
theorem dX12_alike_21 : decode cX12_alike 21 = .ok (.aload_n 0, 1) := by decide +kernel
theorem dX12_alike_22 : decode cX12_alike 22 = .ok (.iload_n 2, 1) := by decide +kernel
theorem dX12_alike_23 : decode cX12_alike 23 = .ok (.iload_n 1, 1) := by decide +kernel
theorem dX12_alike_24 : decode cX12_alike 24 = .ok (.invokevirtual 224, 3) := by decide +kernel
theorem dX12_alike_27 : decode cX12_alike 27 = .ok (.istore_n 3, 1) := by decide +kernel
theorem dX12_alike_28 : decode cX12_alike 28 = .ok (.aload_n 0, 1) := by decide +kernel
theorem dX12_alike_29 : decode cX12_alike 29 = .ok (.iload_n 1, 1) := by decide +kernel
theorem dX12_alike_30 : decode cX12_alike 30 = .ok (.iload_n 2, 1) := by decide +kernel
theorem dX12_alike_31 : decode cX12_alike 31 = .ok (.invokevirtual 224, 3) := by decide +kernel
theorem dX12_alike_34 : decode cX12_alike 34 = .ok (.istore 4, 2) := by decide +kernel
theorem dX12_alike_36 : decode cX12_alike 36 = .ok (.iload_n 3, 1) := by decide +kernel
theorem dX12_alike_37 : decode cX12_alike 37 = .ok (.ifCond .eq 12, 3) := by decide +kernel
theorem dX12_alike_40 : decode cX12_alike 40 = .ok (.iload 4, 2) := by decide +kernel
theorem dX12_alike_42 : decode cX12_alike 42 = .ok (.ifCond .eq 7, 3) := by decide +kernel
theorem dX12_alike_45 : decode cX12_alike 45 = .ok (.iconst 1, 1) := by decide +kernel
theorem dX12_alike_46 : decode cX12_alike 46 = .ok (.goto 21, 3) := by decide +kernel
theorem dX12_alike_49 : decode cX12_alike 49 = .ok (.iload_n 3, 1) := by decide +kernel
theorem dX12_alike_50 : decode cX12_alike 50 = .ok (.ifCond .eq 7, 3) := by decide +kernel
theorem dX12_alike_53 : decode cX12_alike 53 = .ok (.iconst 2, 1) := by decide +kernel
theorem dX12_alike_54 : decode cX12_alike 54 = .ok (.goto 13, 3) := by decide +kernel
theorem dX12_alike_57 : decode cX12_alike 57 = .ok (.iload 4, 2) := by decide +kernel
theorem dX12_alike_59 : decode cX12_alike 59 = .ok (.ifCond .eq 7, 3) := by decide +kernel
theorem dX12_alike_62 : decode cX12_alike 62 = .ok (.iconst 3, 1) := by decide +kernel
theorem dX12_alike_63 : decode cX12_alike 63 = .ok (.goto 4, 3) := by decide +kernel
theorem dX12_alike_66 : decode cX12_alike 66 = .ok (.iconst 0, 1) := by decide +kernel
theorem dX12_alike_67 : decode cX12_alike 67 = .ok (.ireturn, 1) := by decide +kernel
theorem dX12_clash_0 : decode cX12_clash 0 = .ok (.aload_n 0, 1) := by decide +kernel
theorem dX12_clash_1 : decode cX12_clash 1 = .ok (.iconst 0, 1) := by decide +kernel
theorem dX12_clash_2 : decode cX12_clash 2 = .ok (.putfield 3, 3) := by decide +kernel
theorem dX12_clash_5 : decode cX12_clash 5 = .ok (.aload_n 0, 1) := by decide +kernel
theorem dX12_clash_6 : decode cX12_clash 6 = .ok (.invokevirtual 206, 3) := by decide +kernel
theorem dX12_clash_9 : decode cX12_clash 9 = .ok (.istore_n 1, 1) := by decide +kernel
theorem dX12_clash_10 : decode cX12_clash 10 = .ok (.iconst (-1), 1) := by decide +kernel
theorem dX12_clash_11 : decode cX12_clash 11 = .ok (.istore_n 2, 1) := by decide +kernel
theorem dX12_clash_12 : decode cX12_clash 12 = .ok (.iconst 0, 1) := by decide +kernel
theorem dX12_clash_13 : decode cX12_clash 13 = .ok (.istore_n 3, 1) := by decide +kernel
theorem dX12_clash_14 : decode cX12_clash 14 = .ok (.iload_n 3, 1) := by decide +kernel
theorem dX12_clash_15 : decode cX12_clash 15 = .ok (.iload_n 1, 1) := by decide +kernel
theorem dX12_clash_16 : decode cX12_clash 16 = .ok (.if_icmp .gt 101, 3) := by decide +kernel
theorem dX12_clash_19 : decode cX12_clash 19 = .ok (.iload_n 3, 1) := by decide +kernel
theorem dX12_clash_20 : decode cX12_clash 20 = .ok (.iload_n 1, 1) := by decide +kernel
theorem dX12_clash_21 : decode cX12_clash 21 = .ok (.iconst (-1), 1) := by decide +kernel
theorem dX12_clash_22 : decode cX12_clash 22 = .ok (.ixor, 1) := by decide +kernel
theorem dX12_clash_23 : decode cX12_clash 23 = .ok (.iand, 1) := by decide +kernel
theorem dX12_clash_24 : decode cX12_clash 24 = .ok (.ifCond .eq 6, 3) := by decide +kernel
theorem dX12_clash_27 : decode cX12_clash 27 = .ok (.goto 84, 3) := by decide +kernel
theorem dX12_clash_30 : decode cX12_clash 30 = .ok (.iload_n 2, 1) := by decide +kernel
theorem dX12_clash_31 : decode cX12_clash 31 = .ok (.ifCond .ge 7, 3) := by decide +kernel
theorem dX12_clash_34 : decode cX12_clash 34 = .ok (.iconst (-1), 1) := by decide +kernel
theorem dX12_clash_35 : decode cX12_clash 35 = .ok (.goto 12, 3) := by decide +kernel
theorem dX12_clash_38 : decode cX12_clash 38 = .ok (.iload_n 3, 1) := by decide +kernel
theorem dX12_clash_39 : decode cX12_clash 39 = .ok (.invokestatic 151, 3) := by decide +kernel
theorem dX12_clash_42 : decode cX12_clash 42 = .ok (.iload_n 2, 1) := by decide +kernel
theorem dX12_clash_43 : decode cX12_clash 43 = .ok (.invokestatic 151, 3) := by decide +kernel
theorem dX12_clash_46 : decode cX12_clash 46 = .ok (.isub, 1) := by decide +kernel
theorem dX12_clash_47 : decode cX12_clash 47 = .ok (.istore 4, 2) := by decide +kernel
theorem dX12_clash_49 : decode cX12_clash 49 = .ok (.iload_n 2, 1) := by decide +kernel
theorem dX12_clash_50 : decode cX12_clash 50 = .ok (.ifCond .ge 7, 3) := by decide +kernel
theorem dX12_clash_53 : decode cX12_clash 53 = .ok (.iconst (-1), 1) := by decide +kernel
theorem dX12_clash_54 : decode cX12_clash 54 = .ok (.goto 26, 3) := by decide +kernel
theorem dX12_clash_57 : decode cX12_clash 57 = .ok (.iload_n 3, 1) := by decide +kernel
theorem dX12_clash_58 : decode cX12_clash 58 = .ok (.aload_n 0, 1) := by decide +kernel
theorem dX12_clash_59 : decode cX12_clash 59 = .ok (.getfield 115, 3) := by decide +kernel
theorem dX12_clash_62 : decode cX12_clash 62 = .ok (.iconst (-1), 1) := by decide +kernel
theorem dX12_clash_63 : decode cX12_clash 63 = .ok (.ixor, 1) := by decide +kernel
theorem dX12_clash_64 : decode cX12_clash 64 = .ok (.iand, 1) := by decide +kernel
theorem dX12_clash_65 : decode cX12_clash 65 = .ok (.invokestatic 151, 3) := by decide +kernel
theorem dX12_clash_68 : decode cX12_clash 68 = .ok (.iload_n 2, 1) := by decide +kernel
theorem dX12_clash_69 : decode cX12_clash 69 = .ok (.aload_n 0, 1) := by decide +kernel
theorem dX12_clash_70 : decode cX12_clash 70 = .ok (.getfield 115, 3) := by decide +kernel
theorem dX12_clash_73 : decode cX12_clash 73 = .ok (.iconst (-1), 1) := by decide +kernel
theorem dX12_clash_74 : decode cX12_clash 74 = .ok (.ixor, 1) := by decide +kernel
theorem dX12_clash_75 : decode cX12_clash 75 = .ok (.iand, 1) := by decide +kernel
theorem dX12_clash_76 : decode cX12_clash 76 = .ok (.invokestatic 151, 3) := by decide +kernel
theorem dX12_clash_79 : decode cX12_clash 79 = .ok (.isub, 1) := by decide +kernel
theorem dX12_clash_80 : decode cX12_clash 80 = .ok (.istore 5, 2) := by decide +kernel
theorem dX12_clash_82 : decode cX12_clash 82 = .ok (.iload 4, 2) := by decide +kernel
theorem dX12_clash_84 : decode cX12_clash 84 = .ok (.ifCond .lt 13, 3) := by decide +kernel
theorem dX12_clash_87 : decode cX12_clash 87 = .ok (.iload 4, 2) := by decide +kernel
theorem dX12_clash_89 : decode cX12_clash 89 = .ok (.ifCond .ne 22, 3) := by decide +kernel
theorem dX12_clash_92 : decode cX12_clash 92 = .ok (.iload 5, 2) := by decide +kernel
theorem dX12_clash_94 : decode cX12_clash 94 = .ok (.ifCond .ge 17, 3) := by decide +kernel
theorem dX12_clash_97 : decode cX12_clash 97 = .ok (.aload_n 0, 1) := by decide +kernel
theorem dX12_clash_98 : decode cX12_clash 98 = .ok (.iload_n 1, 1) := by decide +kernel
theorem dX12_clash_99 : decode cX12_clash 99 = .ok (.iload_n 3, 1) := by decide +kernel
theorem dX12_clash_100 : decode cX12_clash 100 = .ok (.iconst (-1), 1) := by decide +kernel
theorem dX12_clash_101 : decode cX12_clash 101 = .ok (.ixor, 1) := by decide +kernel
theorem dX12_clash_102 : decode cX12_clash 102 = .ok (.iand, 1) := by decide +kernel
theorem dX12_clash_103 : decode cX12_clash 103 = .ok (.invokevirtual 209, 3) := by decide +kernel
theorem dX12_clash_106 : decode cX12_clash 106 = .ok (.ifCond .eq 5, 3) := by decide +kernel
theorem dX12_clash_109 : decode cX12_clash 109 = .ok (.iload_n 3, 1) := by decide +kernel
theorem dX12_clash_110 : decode cX12_clash 110 = .ok (.istore_n 2, 1) := by decide +kernel
theorem dX12_clash_111 : decode cX12_clash 111 = .ok (.iinc 3 1, 3) := by decide +kernel
theorem dX12_clash_114 : decode cX12_clash 114 = .ok (.goto (-100), 3) := by decide +kernel
theorem dX12_clash_117 : decode cX12_clash 117 = .ok (.aload_n 0, 1) := by decide +kernel
theorem dX12_clash_118 : decode cX12_clash 118 = .ok (.iconst 0, 1) := by decide +kernel
theorem dX12_clash_119 : decode cX12_clash 119 = .ok (.putfield 11, 3) := by decide +kernel
theorem dX12_clash_122 : decode cX12_clash 122 = .ok (.aload_n 0, 1) := by decide +kernel
theorem dX12_clash_123 : decode cX12_clash 123 = .ok (.iload_n 2, 1) := by decide +kernel
theorem dX12_clash_124 : decode cX12_clash 124 = .ok (.invokevirtual 221, 3) := by decide +kernel
theorem dX12_clash_127 : decode cX12_clash 127 = .ok (.iload_n 2, 1) := by decide +kernel
theorem dX12_clash_128 : decode cX12_clash 128 = .ok (.invokestatic 151, 3) := by decide +kernel
theorem dX12_clash_131 : decode cX12_clash 131 = .ok (.ireturn, 1) := by decide +kernel
theorem dX12_saidBy_0 : decode cX12_saidBy 0 = .ok (.iconst 0, 1) := by decide +kernel
theorem dX12_saidBy_1 : decode cX12_saidBy 1 = .ok (.istore_n 2, 1) := by decide +kernel
theorem dX12_saidBy_2 : decode cX12_saidBy 2 = .ok (.iconst 0, 1) := by decide +kernel
theorem dX12_saidBy_3 : decode cX12_saidBy 3 = .ok (.istore_n 3, 1) := by decide +kernel
theorem dX12_saidBy_4 : decode cX12_saidBy 4 = .ok (.iload_n 3, 1) := by decide +kernel
theorem dX12_saidBy_5 : decode cX12_saidBy 5 = .ok (.aload_n 0, 1) := by decide +kernel
theorem dX12_saidBy_6 : decode cX12_saidBy 6 = .ok (.getfield 105, 3) := by decide +kernel
theorem dX12_saidBy_9 : decode cX12_saidBy 9 = .ok (.if_icmp .ge 32, 3) := by decide +kernel
theorem dX12_saidBy_12 : decode cX12_saidBy 12 = .ok (.iload_n 2, 1) := by decide +kernel
theorem dX12_saidBy_13 : decode cX12_saidBy 13 = .ok (.iload_n 1, 1) := by decide +kernel
theorem dX12_saidBy_14 : decode cX12_saidBy 14 = .ok (.aload_n 0, 1) := by decide +kernel
theorem dX12_saidBy_15 : decode cX12_saidBy 15 = .ok (.getfield 93, 3) := by decide +kernel
theorem dX12_saidBy_18 : decode cX12_saidBy 18 = .ok (.iload_n 3, 1) := by decide +kernel
theorem dX12_saidBy_19 : decode cX12_saidBy 19 = .ok (.iaload, 1) := by decide +kernel
theorem dX12_saidBy_20 : decode cX12_saidBy 20 = .ok (.invokestatic 129, 3) := by decide +kernel
theorem dX12_saidBy_23 : decode cX12_saidBy 23 = .ok (.ifCond .eq 9, 3) := by decide +kernel
theorem dX12_saidBy_26 : decode cX12_saidBy 26 = .ok (.iconst 1, 1) := by decide +kernel
theorem dX12_saidBy_27 : decode cX12_saidBy 27 = .ok (.iload_n 3, 1) := by decide +kernel
theorem dX12_saidBy_28 : decode cX12_saidBy 28 = .ok (.ishl, 1) := by decide +kernel
theorem dX12_saidBy_29 : decode cX12_saidBy 29 = .ok (.goto 4, 3) := by decide +kernel
theorem dX12_saidBy_32 : decode cX12_saidBy 32 = .ok (.iconst 0, 1) := by decide +kernel
theorem dX12_saidBy_33 : decode cX12_saidBy 33 = .ok (.ior, 1) := by decide +kernel
theorem dX12_saidBy_34 : decode cX12_saidBy 34 = .ok (.istore_n 2, 1) := by decide +kernel
theorem dX12_saidBy_35 : decode cX12_saidBy 35 = .ok (.iinc 3 1, 3) := by decide +kernel
theorem dX12_saidBy_38 : decode cX12_saidBy 38 = .ok (.goto (-34), 3) := by decide +kernel
theorem dX12_saidBy_41 : decode cX12_saidBy 41 = .ok (.iload_n 2, 1) := by decide +kernel
theorem dX12_saidBy_42 : decode cX12_saidBy 42 = .ok (.ireturn, 1) := by decide +kernel
theorem dX12_liars_0 : decode cX12_liars 0 = .ok (.aload_n 0, 1) := by decide +kernel
theorem dX12_liars_1 : decode cX12_liars 1 = .ok (.iconst 0, 1) := by decide +kernel
theorem dX12_liars_2 : decode cX12_liars 2 = .ok (.putfield 3, 3) := by decide +kernel
theorem dX12_liars_5 : decode cX12_liars 5 = .ok (.iconst (-1), 1) := by decide +kernel
theorem dX12_liars_6 : decode cX12_liars 6 = .ok (.istore_n 1, 1) := by decide +kernel
theorem dX12_liars_7 : decode cX12_liars 7 = .ok (.iconst 0, 1) := by decide +kernel
theorem dX12_liars_8 : decode cX12_liars 8 = .ok (.istore_n 2, 1) := by decide +kernel
theorem dX12_liars_9 : decode cX12_liars 9 = .ok (.iload_n 2, 1) := by decide +kernel
theorem dX12_liars_10 : decode cX12_liars 10 = .ok (.sipush 256, 3) := by decide +kernel
theorem dX12_liars_13 : decode cX12_liars 13 = .ok (.if_icmp .ge 55, 3) := by decide +kernel
theorem dX12_liars_16 : decode cX12_liars 16 = .ok (.iload_n 1, 1) := by decide +kernel
theorem dX12_liars_17 : decode cX12_liars 17 = .ok (.ifCond .lt 14, 3) := by decide +kernel
theorem dX12_liars_20 : decode cX12_liars 20 = .ok (.iload_n 2, 1) := by decide +kernel
theorem dX12_liars_21 : decode cX12_liars 21 = .ok (.invokestatic 151, 3) := by decide +kernel
theorem dX12_liars_24 : decode cX12_liars 24 = .ok (.iload_n 1, 1) := by decide +kernel
theorem dX12_liars_25 : decode cX12_liars 25 = .ok (.invokestatic 151, 3) := by decide +kernel
theorem dX12_liars_28 : decode cX12_liars 28 = .ok (.if_icmp .ge 7, 3) := by decide +kernel
theorem dX12_liars_31 : decode cX12_liars 31 = .ok (.iconst 1, 1) := by decide +kernel
theorem dX12_liars_32 : decode cX12_liars 32 = .ok (.goto 4, 3) := by decide +kernel
theorem dX12_liars_35 : decode cX12_liars 35 = .ok (.iconst 0, 1) := by decide +kernel
theorem dX12_liars_36 : decode cX12_liars 36 = .ok (.istore_n 3, 1) := by decide +kernel
theorem dX12_liars_37 : decode cX12_liars 37 = .ok (.iload_n 3, 1) := by decide +kernel
theorem dX12_liars_38 : decode cX12_liars 38 = .ok (.ifCond .eq 24, 3) := by decide +kernel
theorem dX12_liars_41 : decode cX12_liars 41 = .ok (.aload_n 0, 1) := by decide +kernel
theorem dX12_liars_42 : decode cX12_liars 42 = .ok (.aload_n 0, 1) := by decide +kernel
theorem dX12_liars_43 : decode cX12_liars 43 = .ok (.invokevirtual 206, 3) := by decide +kernel
theorem dX12_liars_46 : decode cX12_liars 46 = .ok (.aload_n 0, 1) := by decide +kernel
theorem dX12_liars_47 : decode cX12_liars 47 = .ok (.iload_n 2, 1) := by decide +kernel
theorem dX12_liars_48 : decode cX12_liars 48 = .ok (.invokevirtual 227, 3) := by decide +kernel
theorem dX12_liars_51 : decode cX12_liars 51 = .ok (.iconst (-1), 1) := by decide +kernel
theorem dX12_liars_52 : decode cX12_liars 52 = .ok (.ixor, 1) := by decide +kernel
theorem dX12_liars_53 : decode cX12_liars 53 = .ok (.iand, 1) := by decide +kernel
theorem dX12_liars_54 : decode cX12_liars 54 = .ok (.invokevirtual 209, 3) := by decide +kernel
theorem dX12_liars_57 : decode cX12_liars 57 = .ok (.ifCond .eq 5, 3) := by decide +kernel
theorem dX12_liars_60 : decode cX12_liars 60 = .ok (.iload_n 2, 1) := by decide +kernel
theorem dX12_liars_61 : decode cX12_liars 61 = .ok (.istore_n 1, 1) := by decide +kernel
theorem dX12_liars_62 : decode cX12_liars 62 = .ok (.iinc 2 1, 3) := by decide +kernel
theorem dX12_liars_65 : decode cX12_liars 65 = .ok (.goto (-56), 3) := by decide +kernel
theorem dX12_liars_68 : decode cX12_liars 68 = .ok (.aload_n 0, 1) := by decide +kernel
theorem dX12_liars_69 : decode cX12_liars 69 = .ok (.iconst 0, 1) := by decide +kernel
theorem dX12_liars_70 : decode cX12_liars 70 = .ok (.putfield 11, 3) := by decide +kernel
theorem dX12_liars_73 : decode cX12_liars 73 = .ok (.aload_n 0, 1) := by decide +kernel
theorem dX12_liars_74 : decode cX12_liars 74 = .ok (.iload_n 1, 1) := by decide +kernel
theorem dX12_liars_75 : decode cX12_liars 75 = .ok (.invokevirtual 221, 3) := by decide +kernel
theorem dX12_liars_78 : decode cX12_liars 78 = .ok (.iload_n 1, 1) := by decide +kernel
theorem dX12_liars_79 : decode cX12_liars 79 = .ok (.invokestatic 151, 3) := by decide +kernel
theorem dX12_liars_82 : decode cX12_liars 82 = .ok (.ireturn, 1) := by decide +kernel
theorem dX12_truth_0 : decode cX12_truth 0 = .ok (.aload_n 0, 1) := by decide +kernel
theorem dX12_truth_1 : decode cX12_truth 1 = .ok (.iconst 0, 1) := by decide +kernel
theorem dX12_truth_2 : decode cX12_truth 2 = .ok (.putfield 3, 3) := by decide +kernel
theorem dX12_truth_5 : decode cX12_truth 5 = .ok (.iload_n 1, 1) := by decide +kernel
theorem dX12_truth_6 : decode cX12_truth 6 = .ok (.i2l, 1) := by decide +kernel
theorem dX12_truth_7 : decode cX12_truth 7 = .ok (.lconst 0, 1) := by decide +kernel
theorem dX12_truth_8 : decode cX12_truth 8 = .ok (.ldc2_w 230, 3) := by decide +kernel
theorem dX12_truth_11 : decode cX12_truth 11 = .ok (.invokestatic 16, 3) := by decide +kernel
theorem dX12_truth_14 : decode cX12_truth 14 = .ok (.ifCond .ne 5, 3) := by decide +kernel
theorem dX12_truth_17 : decode cX12_truth 17 = .ok (.iconst (-1), 1) := by decide +kernel
theorem dX12_truth_18 : decode cX12_truth 18 = .ok (.ireturn, 1) := by decide +kernel
theorem dX12_truth_19 : decode cX12_truth 19 = .ok (.aload_n 0, 1) := by decide +kernel
theorem dX12_truth_20 : decode cX12_truth 20 = .ok (.invokevirtual 206, 3) := by decide +kernel
theorem dX12_truth_23 : decode cX12_truth 23 = .ok (.aload_n 0, 1) := by decide +kernel
theorem dX12_truth_24 : decode cX12_truth 24 = .ok (.iconst 1, 1) := by decide +kernel
theorem dX12_truth_25 : decode cX12_truth 25 = .ok (.iload_n 1, 1) := by decide +kernel
theorem dX12_truth_26 : decode cX12_truth 26 = .ok (.ishl, 1) := by decide +kernel
theorem dX12_truth_27 : decode cX12_truth 27 = .ok (.invokevirtual 227, 3) := by decide +kernel
theorem dX12_truth_30 : decode cX12_truth 30 = .ok (.iand, 1) := by decide +kernel
theorem dX12_truth_31 : decode cX12_truth 31 = .ok (.istore_n 2, 1) := by decide +kernel
theorem dX12_truth_32 : decode cX12_truth 32 = .ok (.aload_n 0, 1) := by decide +kernel
theorem dX12_truth_33 : decode cX12_truth 33 = .ok (.invokevirtual 206, 3) := by decide +kernel
theorem dX12_truth_36 : decode cX12_truth 36 = .ok (.iload_n 2, 1) := by decide +kernel
theorem dX12_truth_37 : decode cX12_truth 37 = .ok (.iconst (-1), 1) := by decide +kernel
theorem dX12_truth_38 : decode cX12_truth 38 = .ok (.ixor, 1) := by decide +kernel
theorem dX12_truth_39 : decode cX12_truth 39 = .ok (.iand, 1) := by decide +kernel
theorem dX12_truth_40 : decode cX12_truth 40 = .ok (.istore_n 3, 1) := by decide +kernel
theorem dX12_truth_41 : decode cX12_truth 41 = .ok (.iconst 0, 1) := by decide +kernel
theorem dX12_truth_42 : decode cX12_truth 42 = .ok (.istore 4, 2) := by decide +kernel
theorem dX12_truth_44 : decode cX12_truth 44 = .ok (.iconst 0, 1) := by decide +kernel
theorem dX12_truth_45 : decode cX12_truth 45 = .ok (.istore 5, 2) := by decide +kernel
theorem dX12_truth_47 : decode cX12_truth 47 = .ok (.iconst 0, 1) := by decide +kernel
theorem dX12_truth_48 : decode cX12_truth 48 = .ok (.istore 6, 2) := by decide +kernel
theorem dX12_truth_50 : decode cX12_truth 50 = .ok (.iload 6, 2) := by decide +kernel
theorem dX12_truth_52 : decode cX12_truth 52 = .ok (.aload_n 0, 1) := by decide +kernel
theorem dX12_truth_53 : decode cX12_truth 53 = .ok (.getfield 105, 3) := by decide +kernel
theorem dX12_truth_56 : decode cX12_truth 56 = .ok (.if_icmp .ge 61, 3) := by decide +kernel
theorem dX12_truth_59 : decode cX12_truth 59 = .ok (.iload_n 2, 1) := by decide +kernel
theorem dX12_truth_60 : decode cX12_truth 60 = .ok (.iload 6, 2) := by decide +kernel
theorem dX12_truth_62 : decode cX12_truth 62 = .ok (.invokestatic 129, 3) := by decide +kernel
theorem dX12_truth_65 : decode cX12_truth 65 = .ok (.ifCond .eq 46, 3) := by decide +kernel
theorem dX12_truth_68 : decode cX12_truth 68 = .ok (.iload 4, 2) := by decide +kernel
theorem dX12_truth_70 : decode cX12_truth 70 = .ok (.aload_n 0, 1) := by decide +kernel
theorem dX12_truth_71 : decode cX12_truth 71 = .ok (.iload_n 3, 1) := by decide +kernel
theorem dX12_truth_72 : decode cX12_truth 72 = .ok (.aload_n 0, 1) := by decide +kernel
theorem dX12_truth_73 : decode cX12_truth 73 = .ok (.getfield 87, 3) := by decide +kernel
theorem dX12_truth_76 : decode cX12_truth 76 = .ok (.iload 6, 2) := by decide +kernel
theorem dX12_truth_78 : decode cX12_truth 78 = .ok (.iaload, 1) := by decide +kernel
theorem dX12_truth_79 : decode cX12_truth 79 = .ok (.invokevirtual 212, 3) := by decide +kernel
theorem dX12_truth_82 : decode cX12_truth 82 = .ok (.invokestatic 52, 3) := by decide +kernel
theorem dX12_truth_85 : decode cX12_truth 85 = .ok (.iadd, 1) := by decide +kernel
theorem dX12_truth_86 : decode cX12_truth 86 = .ok (.istore 4, 2) := by decide +kernel
theorem dX12_truth_88 : decode cX12_truth 88 = .ok (.iload 5, 2) := by decide +kernel
theorem dX12_truth_90 : decode cX12_truth 90 = .ok (.aload_n 0, 1) := by decide +kernel
theorem dX12_truth_91 : decode cX12_truth 91 = .ok (.iload_n 3, 1) := by decide +kernel
theorem dX12_truth_92 : decode cX12_truth 92 = .ok (.aload_n 0, 1) := by decide +kernel
theorem dX12_truth_93 : decode cX12_truth 93 = .ok (.getfield 87, 3) := by decide +kernel
theorem dX12_truth_96 : decode cX12_truth 96 = .ok (.iload 6, 2) := by decide +kernel
theorem dX12_truth_98 : decode cX12_truth 98 = .ok (.iaload, 1) := by decide +kernel
theorem dX12_truth_99 : decode cX12_truth 99 = .ok (.invokestatic 190, 3) := by decide +kernel
theorem dX12_truth_102 : decode cX12_truth 102 = .ok (.invokevirtual 212, 3) := by decide +kernel
theorem dX12_truth_105 : decode cX12_truth 105 = .ok (.invokestatic 52, 3) := by decide +kernel
theorem dX12_truth_108 : decode cX12_truth 108 = .ok (.iadd, 1) := by decide +kernel
theorem dX12_truth_109 : decode cX12_truth 109 = .ok (.istore 5, 2) := by decide +kernel
theorem dX12_truth_111 : decode cX12_truth 111 = .ok (.iinc 6 1, 3) := by decide +kernel
theorem dX12_truth_114 : decode cX12_truth 114 = .ok (.goto (-64), 3) := by decide +kernel
theorem dX12_truth_117 : decode cX12_truth 117 = .ok (.aload_n 0, 1) := by decide +kernel
theorem dX12_truth_118 : decode cX12_truth 118 = .ok (.iconst 0, 1) := by decide +kernel
theorem dX12_truth_119 : decode cX12_truth 119 = .ok (.putfield 11, 3) := by decide +kernel
theorem dX12_truth_122 : decode cX12_truth 122 = .ok (.aload_n 0, 1) := by decide +kernel
theorem dX12_truth_123 : decode cX12_truth 123 = .ok (.iload 5, 2) := by decide +kernel
theorem dX12_truth_125 : decode cX12_truth 125 = .ok (.invokevirtual 221, 3) := by decide +kernel
theorem dX12_truth_128 : decode cX12_truth 128 = .ok (.iload 4, 2) := by decide +kernel
theorem dX12_truth_130 : decode cX12_truth 130 = .ok (.ireturn, 1) := by decide +kernel
theorem dX12_trusts_0 : decode cX12_trusts 0 = .ok (.aload_n 0, 1) := by decide +kernel
theorem dX12_trusts_1 : decode cX12_trusts 1 = .ok (.iconst 0, 1) := by decide +kernel
theorem dX12_trusts_2 : decode cX12_trusts 2 = .ok (.putfield 3, 3) := by decide +kernel
theorem dX12_trusts_5 : decode cX12_trusts 5 = .ok (.iload_n 1, 1) := by decide +kernel
theorem dX12_trusts_6 : decode cX12_trusts 6 = .ok (.i2l, 1) := by decide +kernel
theorem dX12_trusts_7 : decode cX12_trusts 7 = .ok (.lconst 0, 1) := by decide +kernel
theorem dX12_trusts_8 : decode cX12_trusts 8 = .ok (.ldc2_w 232, 3) := by decide +kernel
theorem dX12_trusts_11 : decode cX12_trusts 11 = .ok (.invokestatic 16, 3) := by decide +kernel
theorem dX12_trusts_14 : decode cX12_trusts 14 = .ok (.ifCond .eq 10, 3) := by decide +kernel
theorem dX12_trusts_17 : decode cX12_trusts 17 = .ok (.iload_n 2, 1) := by decide +kernel
theorem dX12_trusts_18 : decode cX12_trusts 18 = .ok (.invokestatic 142, 3) := by decide +kernel
theorem dX12_trusts_21 : decode cX12_trusts 21 = .ok (.ifCond .ne 5, 3) := by decide +kernel
theorem dX12_trusts_24 : decode cX12_trusts 24 = .ok (.iconst (-1), 1) := by decide +kernel
theorem dX12_trusts_25 : decode cX12_trusts 25 = .ok (.ireturn, 1) := by decide +kernel
theorem dX12_trusts_26 : decode cX12_trusts 26 = .ok (.aload_n 0, 1) := by decide +kernel
theorem dX12_trusts_27 : decode cX12_trusts 27 = .ok (.aload_n 0, 1) := by decide +kernel
theorem dX12_trusts_28 : decode cX12_trusts 28 = .ok (.invokevirtual 206, 3) := by decide +kernel
theorem dX12_trusts_31 : decode cX12_trusts 31 = .ok (.aload_n 0, 1) := by decide +kernel
theorem dX12_trusts_32 : decode cX12_trusts 32 = .ok (.iload_n 1, 1) := by decide +kernel
theorem dX12_trusts_33 : decode cX12_trusts 33 = .ok (.invokevirtual 227, 3) := by decide +kernel
theorem dX12_trusts_36 : decode cX12_trusts 36 = .ok (.iand, 1) := by decide +kernel
theorem dX12_trusts_37 : decode cX12_trusts 37 = .ok (.iload_n 2, 1) := by decide +kernel
theorem dX12_trusts_38 : decode cX12_trusts 38 = .ok (.invokevirtual 212, 3) := by decide +kernel
theorem dX12_trusts_41 : decode cX12_trusts 41 = .ok (.invokestatic 52, 3) := by decide +kernel
theorem dX12_trusts_44 : decode cX12_trusts 44 = .ok (.ireturn, 1) := by decide +kernel
theorem dX12_convicts_0 : decode cX12_convicts 0 = .ok (.aload_n 0, 1) := by decide +kernel
theorem dX12_convicts_1 : decode cX12_convicts 1 = .ok (.iconst 0, 1) := by decide +kernel
theorem dX12_convicts_2 : decode cX12_convicts 2 = .ok (.putfield 3, 3) := by decide +kernel
theorem dX12_convicts_5 : decode cX12_convicts 5 = .ok (.iload_n 1, 1) := by decide +kernel
theorem dX12_convicts_6 : decode cX12_convicts 6 = .ok (.invokestatic 142, 3) := by decide +kernel
theorem dX12_convicts_9 : decode cX12_convicts 9 = .ok (.ifCond .ne 5, 3) := by decide +kernel
theorem dX12_convicts_12 : decode cX12_convicts 12 = .ok (.iconst (-1), 1) := by decide +kernel
theorem dX12_convicts_13 : decode cX12_convicts 13 = .ok (.ireturn, 1) := by decide +kernel
theorem dX12_convicts_14 : decode cX12_convicts 14 = .ok (.iconst (-1), 1) := by decide +kernel
theorem dX12_convicts_15 : decode cX12_convicts 15 = .ok (.istore_n 2, 1) := by decide +kernel
theorem dX12_convicts_16 : decode cX12_convicts 16 = .ok (.iconst 0, 1) := by decide +kernel
theorem dX12_convicts_17 : decode cX12_convicts 17 = .ok (.istore_n 3, 1) := by decide +kernel
theorem dX12_convicts_18 : decode cX12_convicts 18 = .ok (.iload_n 3, 1) := by decide +kernel
theorem dX12_convicts_19 : decode cX12_convicts 19 = .ok (.sipush 256, 3) := by decide +kernel
theorem dX12_convicts_22 : decode cX12_convicts 22 = .ok (.if_icmp .ge 60, 3) := by decide +kernel
theorem dX12_convicts_25 : decode cX12_convicts 25 = .ok (.iload_n 2, 1) := by decide +kernel
theorem dX12_convicts_26 : decode cX12_convicts 26 = .ok (.ifCond .lt 14, 3) := by decide +kernel
theorem dX12_convicts_29 : decode cX12_convicts 29 = .ok (.iload_n 3, 1) := by decide +kernel
theorem dX12_convicts_30 : decode cX12_convicts 30 = .ok (.invokestatic 151, 3) := by decide +kernel
theorem dX12_convicts_33 : decode cX12_convicts 33 = .ok (.iload_n 2, 1) := by decide +kernel
theorem dX12_convicts_34 : decode cX12_convicts 34 = .ok (.invokestatic 151, 3) := by decide +kernel
theorem dX12_convicts_37 : decode cX12_convicts 37 = .ok (.if_icmp .ge 7, 3) := by decide +kernel
theorem dX12_convicts_40 : decode cX12_convicts 40 = .ok (.iconst 1, 1) := by decide +kernel
theorem dX12_convicts_41 : decode cX12_convicts 41 = .ok (.goto 4, 3) := by decide +kernel
theorem dX12_convicts_44 : decode cX12_convicts 44 = .ok (.iconst 0, 1) := by decide +kernel
theorem dX12_convicts_45 : decode cX12_convicts 45 = .ok (.istore 4, 2) := by decide +kernel
theorem dX12_convicts_47 : decode cX12_convicts 47 = .ok (.iload 4, 2) := by decide +kernel
theorem dX12_convicts_49 : decode cX12_convicts 49 = .ok (.ifCond .eq 25, 3) := by decide +kernel
theorem dX12_convicts_52 : decode cX12_convicts 52 = .ok (.aload_n 0, 1) := by decide +kernel
theorem dX12_convicts_53 : decode cX12_convicts 53 = .ok (.aload_n 0, 1) := by decide +kernel
