theorem dX0_isCode_0 : decode cX0_isCode 0 = .ok (.iload_n 0, 1) := by decide +kernel
theorem dX0_isCode_1 : decode cX0_isCode 1 = .ok (.ifCond .lt 14, 3) := by decide +kernel
theorem dX0_isCode_4 : decode cX0_isCode 4 = .ok (.iload_n 0, 1) := by decide +kernel
theorem dX0_isCode_5 : decode cX0_isCode 5 = .ok (.sipush 2304, 3) := by decide +kernel
theorem dX0_isCode_8 : decode cX0_isCode 8 = .ok (.if_icmp .ge 7, 3) := by decide +kernel
theorem dX0_isCode_11 : decode cX0_isCode 11 = .ok (.iconst 1, 1) := by decide +kernel
theorem dX0_isCode_12 : decode cX0_isCode 12 = .ok (.goto 4, 3) := by decide +kernel
theorem dX0_isCode_15 : decode cX0_isCode 15 = .ok (.iconst 0, 1) := by decide +kernel
theorem dX0_isCode_16 : decode cX0_isCode 16 = .ok (.ireturn, 1) := by decide +kernel
theorem dX0_isTerm_0 : decode cX0_isTerm 0 = .ok (.iload_n 0, 1) := by decide +kernel
theorem dX0_isTerm_1 : decode cX0_isTerm 1 = .ok (.ifCond .lt 13, 3) := by decide +kernel
theorem dX0_isTerm_4 : decode cX0_isTerm 4 = .ok (.iload_n 0, 1) := by decide +kernel
theorem dX0_isTerm_5 : decode cX0_isTerm 5 = .ok (.bipush 24, 2) := by decide +kernel
theorem dX0_isTerm_7 : decode cX0_isTerm 7 = .ok (.if_icmp .ge 7, 3) := by decide +kernel
theorem dX0_isTerm_10 : decode cX0_isTerm 10 = .ok (.iconst 1, 1) := by decide +kernel
theorem dX0_isTerm_11 : decode cX0_isTerm 11 = .ok (.goto 4, 3) := by decide +kernel
theorem dX0_isTerm_14 : decode cX0_isTerm 14 = .ok (.iconst 0, 1) := by decide +kernel
theorem dX0_isTerm_15 : decode cX0_isTerm 15 = .ok (.ireturn, 1) := by decide +kernel
theorem dX0_isForm_0 : decode cX0_isForm 0 = .ok (.iload_n 0, 1) := by decide +kernel
theorem dX0_isForm_1 : decode cX0_isForm 1 = .ok (.ifCond .lt 12, 3) := by decide +kernel
theorem dX0_isForm_4 : decode cX0_isForm 4 = .ok (.iload_n 0, 1) := by decide +kernel
theorem dX0_isForm_5 : decode cX0_isForm 5 = .ok (.iconst 3, 1) := by decide +kernel
theorem dX0_isForm_6 : decode cX0_isForm 6 = .ok (.if_icmp .gt 7, 3) := by decide +kernel
theorem dX0_isForm_9 : decode cX0_isForm 9 = .ok (.iconst 1, 1) := by decide +kernel
theorem dX0_isForm_10 : decode cX0_isForm 10 = .ok (.goto 4, 3) := by decide +kernel
theorem dX0_isForm_13 : decode cX0_isForm 13 = .ok (.iconst 0, 1) := by decide +kernel
theorem dX0_isForm_14 : decode cX0_isForm 14 = .ok (.ireturn, 1) := by decide +kernel
theorem dX0_make_0 : decode cX0_make 0 = .ok (.sipush 576, 3) := by decide +kernel
theorem dX0_make_3 : decode cX0_make 3 = .ok (.iload_n 0, 1) := by decide +kernel
theorem dX0_make_4 : decode cX0_make 4 = .ok (.imul, 1) := by decide +kernel
theorem dX0_make_5 : decode cX0_make 5 = .ok (.bipush 24, 2) := by decide +kernel
theorem dX0_make_7 : decode cX0_make 7 = .ok (.iload_n 1, 1) := by decide +kernel
theorem dX0_make_8 : decode cX0_make 8 = .ok (.imul, 1) := by decide +kernel
theorem dX0_make_9 : decode cX0_make 9 = .ok (.iadd, 1) := by decide +kernel
theorem dX0_make_10 : decode cX0_make 10 = .ok (.iload_n 2, 1) := by decide +kernel
theorem dX0_make_11 : decode cX0_make 11 = .ok (.iadd, 1) := by decide +kernel
theorem dX0_make_12 : decode cX0_make 12 = .ok (.ireturn, 1) := by decide +kernel
theorem dX0_form_0 : decode cX0_form 0 = .ok (.iload_n 0, 1) := by decide +kernel
theorem dX0_form_1 : decode cX0_form 1 = .ok (.sipush 576, 3) := by decide +kernel
theorem dX0_form_4 : decode cX0_form 4 = .ok (.idiv, 1) := by decide +kernel
theorem dX0_form_5 : decode cX0_form 5 = .ok (.ireturn, 1) := by decide +kernel
theorem dX0_subject_0 : decode cX0_subject 0 = .ok (.iload_n 0, 1) := by decide +kernel
theorem dX0_subject_1 : decode cX0_subject 1 = .ok (.bipush 24, 2) := by decide +kernel
theorem dX0_subject_3 : decode cX0_subject 3 = .ok (.idiv, 1) := by decide +kernel
theorem dX0_subject_4 : decode cX0_subject 4 = .ok (.bipush 24, 2) := by decide +kernel
theorem dX0_subject_6 : decode cX0_subject 6 = .ok (.irem, 1) := by decide +kernel
theorem dX0_subject_7 : decode cX0_subject 7 = .ok (.ireturn, 1) := by decide +kernel
theorem dX0_predicate_0 : decode cX0_predicate 0 = .ok (.iload_n 0, 1) := by decide +kernel
theorem dX0_predicate_1 : decode cX0_predicate 1 = .ok (.bipush 24, 2) := by decide +kernel
theorem dX0_predicate_3 : decode cX0_predicate 3 = .ok (.irem, 1) := by decide +kernel
theorem dX0_predicate_4 : decode cX0_predicate 4 = .ok (.ireturn, 1) := by decide +kernel
theorem dX0_contrary_0 : decode cX0_contrary 0 = .ok (.iconst 3, 1) := by decide +kernel
theorem dX0_contrary_1 : decode cX0_contrary 1 = .ok (.iload_n 0, 1) := by decide +kernel
theorem dX0_contrary_2 : decode cX0_contrary 2 = .ok (.invokestatic 9, 3) := by decide +kernel
theorem dX0_contrary_5 : decode cX0_contrary 5 = .ok (.isub, 1) := by decide +kernel
theorem dX0_contrary_6 : decode cX0_contrary 6 = .ok (.iload_n 0, 1) := by decide +kernel
theorem dX0_contrary_7 : decode cX0_contrary 7 = .ok (.invokestatic 15, 3) := by decide +kernel
theorem dX0_contrary_10 : decode cX0_contrary 10 = .ok (.iload_n 0, 1) := by decide +kernel
theorem dX0_contrary_11 : decode cX0_contrary 11 = .ok (.invokestatic 18, 3) := by decide +kernel
theorem dX0_contrary_14 : decode cX0_contrary 14 = .ok (.invokestatic 21, 3) := by decide +kernel
theorem dX0_contrary_17 : decode cX0_contrary 17 = .ok (.ireturn, 1) := by decide +kernel
theorem dX0_target_0 : decode cX0_target 0 = .ok (.iload_n 0, 1) := by decide +kernel
theorem dX0_target_1 : decode cX0_target 1 = .ok (.bipush 24, 2) := by decide +kernel
theorem dX0_target_3 : decode cX0_target 3 = .ok (.irem, 1) := by decide +kernel
theorem dX0_target_4 : decode cX0_target 4 = .ok (.iload_n 0, 1) := by decide +kernel
theorem dX0_target_5 : decode cX0_target 5 = .ok (.sipush 576, 3) := by decide +kernel
theorem dX0_target_8 : decode cX0_target 8 = .ok (.idiv, 1) := by decide +kernel
theorem dX0_target_9 : decode cX0_target 9 = .ok (.iconst 1, 1) := by decide +kernel
theorem dX0_target_10 : decode cX0_target 10 = .ok (.iand, 1) := by decide +kernel
theorem dX0_target_11 : decode cX0_target 11 = .ok (.ixor, 1) := by decide +kernel
theorem dX0_target_12 : decode cX0_target 12 = .ok (.ireturn, 1) := by decide +kernel
theorem dX0_isUniversal_0 : decode cX0_isUniversal 0 = .ok (.iload_n 0, 1) := by decide +kernel
theorem dX0_isUniversal_1 : decode cX0_isUniversal 1 = .ok (.sipush 1152, 3) := by decide +kernel
theorem dX0_isUniversal_4 : decode cX0_isUniversal 4 = .ok (.if_icmp .ge 7, 3) := by decide +kernel
theorem dX0_isUniversal_7 : decode cX0_isUniversal 7 = .ok (.iconst 1, 1) := by decide +kernel
theorem dX0_isUniversal_8 : decode cX0_isUniversal 8 = .ok (.goto 4, 3) := by decide +kernel
theorem dX0_isUniversal_11 : decode cX0_isUniversal 11 = .ok (.iconst 0, 1) := by decide +kernel
theorem dX0_isUniversal_12 : decode cX0_isUniversal 12 = .ok (.ireturn, 1) := by decide +kernel
theorem dX0_isOf_0 : decode cX0_isOf 0 = .ok (.iload_n 0, 1) := by decide +kernel
theorem dX0_isOf_1 : decode cX0_isOf 1 = .ok (.iload_n 1, 1) := by decide +kernel
theorem dX0_isOf_2 : decode cX0_isOf 2 = .ok (.iconst 1, 1) := by decide +kernel
theorem dX0_isOf_3 : decode cX0_isOf 3 = .ok (.ishr, 1) := by decide +kernel
theorem dX0_isOf_4 : decode cX0_isOf 4 = .ok (.ishr, 1) := by decide +kernel
theorem dX0_isOf_5 : decode cX0_isOf 5 = .ok (.iconst 1, 1) := by decide +kernel
theorem dX0_isOf_6 : decode cX0_isOf 6 = .ok (.iand, 1) := by decide +kernel
theorem dX0_isOf_7 : decode cX0_isOf 7 = .ok (.iload_n 1, 1) := by decide +kernel
theorem dX0_isOf_8 : decode cX0_isOf 8 = .ok (.iconst 1, 1) := by decide +kernel
theorem dX0_isOf_9 : decode cX0_isOf 9 = .ok (.iand, 1) := by decide +kernel
theorem dX0_isOf_10 : decode cX0_isOf 10 = .ok (.if_icmp .eq 7, 3) := by decide +kernel
theorem dX0_isOf_13 : decode cX0_isOf 13 = .ok (.iconst 1, 1) := by decide +kernel
theorem dX0_isOf_14 : decode cX0_isOf 14 = .ok (.goto 4, 3) := by decide +kernel
theorem dX0_isOf_17 : decode cX0_isOf 17 = .ok (.iconst 0, 1) := by decide +kernel
theorem dX0_isOf_18 : decode cX0_isOf 18 = .ok (.ireturn, 1) := by decide +kernel
theorem dX0_withBit_0 : decode cX0_withBit 0 = .ok (.iload_n 2, 1) := by decide +kernel
theorem dX0_withBit_1 : decode cX0_withBit 1 = .ok (.ifCond .eq 11, 3) := by decide +kernel
theorem dX0_withBit_4 : decode cX0_withBit 4 = .ok (.iload_n 0, 1) := by decide +kernel
theorem dX0_withBit_5 : decode cX0_withBit 5 = .ok (.iconst 1, 1) := by decide +kernel
theorem dX0_withBit_6 : decode cX0_withBit 6 = .ok (.iload_n 1, 1) := by decide +kernel
theorem dX0_withBit_7 : decode cX0_withBit 7 = .ok (.ishl, 1) := by decide +kernel
theorem dX0_withBit_8 : decode cX0_withBit 8 = .ok (.ior, 1) := by decide +kernel
theorem dX0_withBit_9 : decode cX0_withBit 9 = .ok (.goto 10, 3) := by decide +kernel
theorem dX0_withBit_12 : decode cX0_withBit 12 = .ok (.iload_n 0, 1) := by decide +kernel
theorem dX0_withBit_13 : decode cX0_withBit 13 = .ok (.iconst 1, 1) := by decide +kernel
theorem dX0_withBit_14 : decode cX0_withBit 14 = .ok (.iload_n 1, 1) := by decide +kernel
theorem dX0_withBit_15 : decode cX0_withBit 15 = .ok (.ishl, 1) := by decide +kernel
theorem dX0_withBit_16 : decode cX0_withBit 16 = .ok (.iconst (-1), 1) := by decide +kernel
theorem dX0_withBit_17 : decode cX0_withBit 17 = .ok (.ixor, 1) := by decide +kernel
theorem dX0_withBit_18 : decode cX0_withBit 18 = .ok (.iand, 1) := by decide +kernel
theorem dX0_withBit_19 : decode cX0_withBit 19 = .ok (.ireturn, 1) := by decide +kernel
theorem dX0_positiveEntries_0 : decode cX0_positiveEntries 0 = .ok (.iconst 0, 1) := by decide +kernel
theorem dX0_positiveEntries_1 : decode cX0_positiveEntries 1 = .ok (.istore 4, 2) := by decide +kernel
theorem dX0_positiveEntries_3 : decode cX0_positiveEntries 3 = .ok (.iload_n 2, 1) := by decide +kernel
theorem dX0_positiveEntries_4 : decode cX0_positiveEntries 4 = .ok (.istore 5, 2) := by decide +kernel
theorem dX0_positiveEntries_6 : decode cX0_positiveEntries 6 = .ok (.iconst 0, 1) := by decide +kernel
theorem dX0_positiveEntries_7 : decode cX0_positiveEntries 7 = .ok (.istore 6, 2) := by decide +kernel
theorem dX0_positiveEntries_9 : decode cX0_positiveEntries 9 = .ok (.iload 6, 2) := by decide +kernel
theorem dX0_positiveEntries_11 : decode cX0_positiveEntries 11 = .ok (.iload_n 1, 1) := by decide +kernel
theorem dX0_positiveEntries_12 : decode cX0_positiveEntries 12 = .ok (.if_icmp .ge 54, 3) := by decide +kernel
theorem dX0_positiveEntries_15 : decode cX0_positiveEntries 15 = .ok (.iload_n 0, 1) := by decide +kernel
theorem dX0_positiveEntries_16 : decode cX0_positiveEntries 16 = .ok (.ifCond .ne 9, 3) := by decide +kernel
theorem dX0_positiveEntries_19 : decode cX0_positiveEntries 19 = .ok (.iload 5, 2) := by decide +kernel
theorem dX0_positiveEntries_21 : decode cX0_positiveEntries 21 = .ok (.i2b, 1) := by decide +kernel
theorem dX0_positiveEntries_22 : decode cX0_positiveEntries 22 = .ok (.goto 16, 3) := by decide +kernel
theorem dX0_positiveEntries_25 : decode cX0_positiveEntries 25 = .ok (.iload_n 0, 1) := by decide +kernel
theorem dX0_positiveEntries_26 : decode cX0_positiveEntries 26 = .ok (.iconst 1, 1) := by decide +kernel
theorem dX0_positiveEntries_27 : decode cX0_positiveEntries 27 = .ok (.if_icmp .ne 9, 3) := by decide +kernel
theorem dX0_positiveEntries_30 : decode cX0_positiveEntries 30 = .ok (.iload 5, 2) := by decide +kernel
theorem dX0_positiveEntries_32 : decode cX0_positiveEntries 32 = .ok (.i2s, 1) := by decide +kernel
theorem dX0_positiveEntries_33 : decode cX0_positiveEntries 33 = .ok (.goto 5, 3) := by decide +kernel
theorem dX0_positiveEntries_36 : decode cX0_positiveEntries 36 = .ok (.iload 5, 2) := by decide +kernel
theorem dX0_positiveEntries_38 : decode cX0_positiveEntries 38 = .ok (.istore 7, 2) := by decide +kernel
theorem dX0_positiveEntries_40 : decode cX0_positiveEntries 40 = .ok (.iload 7, 2) := by decide +kernel
theorem dX0_positiveEntries_42 : decode cX0_positiveEntries 42 = .ok (.ifCond .le 12, 3) := by decide +kernel
theorem dX0_positiveEntries_45 : decode cX0_positiveEntries 45 = .ok (.iload 4, 2) := by decide +kernel
theorem dX0_positiveEntries_47 : decode cX0_positiveEntries 47 = .ok (.iconst 1, 1) := by decide +kernel
theorem dX0_positiveEntries_48 : decode cX0_positiveEntries 48 = .ok (.iload 6, 2) := by decide +kernel
theorem dX0_positiveEntries_50 : decode cX0_positiveEntries 50 = .ok (.ishl, 1) := by decide +kernel
theorem dX0_positiveEntries_51 : decode cX0_positiveEntries 51 = .ok (.ior, 1) := by decide +kernel
theorem dX0_positiveEntries_52 : decode cX0_positiveEntries 52 = .ok (.istore 4, 2) := by decide +kernel
theorem dX0_positiveEntries_54 : decode cX0_positiveEntries 54 = .ok (.iload 5, 2) := by decide +kernel
theorem dX0_positiveEntries_56 : decode cX0_positiveEntries 56 = .ok (.iload_n 3, 1) := by decide +kernel
theorem dX0_positiveEntries_57 : decode cX0_positiveEntries 57 = .ok (.iadd, 1) := by decide +kernel
theorem dX0_positiveEntries_58 : decode cX0_positiveEntries 58 = .ok (.istore 5, 2) := by decide +kernel
theorem dX0_positiveEntries_60 : decode cX0_positiveEntries 60 = .ok (.iinc 6 1, 3) := by decide +kernel
theorem dX0_positiveEntries_63 : decode cX0_positiveEntries 63 = .ok (.goto (-54), 3) := by decide +kernel
theorem dX0_positiveEntries_66 : decode cX0_positiveEntries 66 = .ok (.iload 4, 2) := by decide +kernel
theorem dX0_positiveEntries_68 : decode cX0_positiveEntries 68 = .ok (.ireturn, 1) := by decide +kernel
theorem dX1_init_0 : decode cX1_init 0 = .ok (.aload_n 0, 1) := by decide +kernel
theorem dX1_init_1 : decode cX1_init 1 = .ok (.invokespecial 3, 3) := by decide +kernel
theorem dX1_init_4 : decode cX1_init 4 = .ok (.aload_n 0, 1) := by decide +kernel
theorem dX1_init_5 : decode cX1_init 5 = .ok (.new 9, 3) := by decide +kernel
theorem dX1_init_8 : decode cX1_init 8 = .ok (.dup, 1) := by decide +kernel
theorem dX1_init_9 : decode cX1_init 9 = .ok (.invokespecial 11, 3) := by decide +kernel
theorem dX1_init_12 : decode cX1_init 12 = .ok (.putfield 12, 3) := by decide +kernel
theorem dX1_init_15 : decode cX1_init 15 = .ok (.aload_n 0, 1) := by decide +kernel
theorem dX1_init_16 : decode cX1_init 16 = .ok (.new 9, 3) := by decide +kernel
theorem dX1_init_19 : decode cX1_init 19 = .ok (.dup, 1) := by decide +kernel
theorem dX1_init_20 : decode cX1_init 20 = .ok (.invokespecial 11, 3) := by decide +kernel
theorem dX1_init_23 : decode cX1_init 23 = .ok (.putfield 18, 3) := by decide +kernel
theorem dX1_init_26 : decode cX1_init 26 = .ok (.aload_n 0, 1) := by decide +kernel
theorem dX1_init_27 : decode cX1_init 27 = .ok (.bipush 24, 2) := by decide +kernel
theorem dX1_init_29 : decode cX1_init 29 = .ok (.newarray .int, 2) := by decide +kernel
theorem dX1_init_31 : decode cX1_init 31 = .ok (.putfield 21, 3) := by decide +kernel
theorem dX1_init_34 : decode cX1_init 34 = .ok (.aload_n 0, 1) := by decide +kernel
theorem dX1_init_35 : decode cX1_init 35 = .ok (.iconst (-1), 1) := by decide +kernel
theorem dX1_init_36 : decode cX1_init 36 = .ok (.putfield 25, 3) := by decide +kernel
theorem dX1_init_39 : decode cX1_init 39 = .ok (.aload_n 0, 1) := by decide +kernel
theorem dX1_init_40 : decode cX1_init 40 = .ok (.iconst (-1), 1) := by decide +kernel
theorem dX1_init_41 : decode cX1_init 41 = .ok (.putfield 29, 3) := by decide +kernel
theorem dX1_init_44 : decode cX1_init 44 = .ok (.aload_n 0, 1) := by decide +kernel
theorem dX1_init_45 : decode cX1_init 45 = .ok (.aload_n 1, 1) := by decide +kernel
theorem dX1_init_46 : decode cX1_init 46 = .ok (.putfield 32, 3) := by decide +kernel
theorem dX1_init_49 : decode cX1_init 49 = .ok (.return_, 1) := by decide +kernel
theorem dX1_prepare_0 : decode cX1_prepare 0 = .ok (.aload_n 0, 1) := by decide +kernel
theorem dX1_prepare_1 : decode cX1_prepare 1 = .ok (.getfield 25, 3) := by decide +kernel
theorem dX1_prepare_4 : decode cX1_prepare 4 = .ok (.iload_n 1, 1) := by decide +kernel
theorem dX1_prepare_5 : decode cX1_prepare 5 = .ok (.if_icmp .ne 22, 3) := by decide +kernel
theorem dX1_prepare_8 : decode cX1_prepare 8 = .ok (.aload_n 0, 1) := by decide +kernel
theorem dX1_prepare_9 : decode cX1_prepare 9 = .ok (.getfield 29, 3) := by decide +kernel
theorem dX1_prepare_12 : decode cX1_prepare 12 = .ok (.aload_n 0, 1) := by decide +kernel
theorem dX1_prepare_13 : decode cX1_prepare 13 = .ok (.getfield 32, 3) := by decide +kernel
theorem dX1_prepare_16 : decode cX1_prepare 16 = .ok (.getfield 36, 3) := by decide +kernel
theorem dX1_prepare_19 : decode cX1_prepare 19 = .ok (.if_icmp .ne 8, 3) := by decide +kernel
theorem dX1_prepare_22 : decode cX1_prepare 22 = .ok (.aload_n 0, 1) := by decide +kernel
theorem dX1_prepare_23 : decode cX1_prepare 23 = .ok (.getfield 12, 3) := by decide +kernel
theorem dX1_prepare_26 : decode cX1_prepare 26 = .ok (.areturn, 1) := by decide +kernel
theorem dX1_prepare_27 : decode cX1_prepare 27 = .ok (.aload_n 0, 1) := by decide +kernel
theorem dX1_prepare_28 : decode cX1_prepare 28 = .ok (.getfield 12, 3) := by decide +kernel
theorem dX1_prepare_31 : decode cX1_prepare 31 = .ok (.invokevirtual 41, 3) := by decide +kernel
theorem dX1_prepare_34 : decode cX1_prepare 34 = .ok (.aload_n 0, 1) := by decide +kernel
theorem dX1_prepare_35 : decode cX1_prepare 35 = .ok (.getfield 12, 3) := by decide +kernel
theorem dX1_prepare_38 : decode cX1_prepare 38 = .ok (.aload_n 0, 1) := by decide +kernel
theorem dX1_prepare_39 : decode cX1_prepare 39 = .ok (.getfield 32, 3) := by decide +kernel
theorem dX1_prepare_42 : decode cX1_prepare 42 = .ok (.getfield 36, 3) := by decide +kernel
theorem dX1_prepare_45 : decode cX1_prepare 45 = .ok (.invokevirtual 44, 3) := by decide +kernel
theorem dX1_prepare_48 : decode cX1_prepare 48 = .ok (.iconst 0, 1) := by decide +kernel
theorem dX1_prepare_49 : decode cX1_prepare 49 = .ok (.istore_n 2, 1) := by decide +kernel
theorem dX1_prepare_50 : decode cX1_prepare 50 = .ok (.iload_n 2, 1) := by decide +kernel
theorem dX1_prepare_51 : decode cX1_prepare 51 = .ok (.aload_n 0, 1) := by decide +kernel
theorem dX1_prepare_52 : decode cX1_prepare 52 = .ok (.getfield 32, 3) := by decide +kernel
theorem dX1_prepare_55 : decode cX1_prepare 55 = .ok (.getfield 48, 3) := by decide +kernel
theorem dX1_prepare_58 : decode cX1_prepare 58 = .ok (.if_icmp .ge 70, 3) := by decide +kernel
theorem dX1_prepare_61 : decode cX1_prepare 61 = .ok (.aload_n 0, 1) := by decide +kernel
theorem dX1_prepare_62 : decode cX1_prepare 62 = .ok (.getfield 32, 3) := by decide +kernel
theorem dX1_prepare_65 : decode cX1_prepare 65 = .ok (.getfield 51, 3) := by decide +kernel
theorem dX1_prepare_68 : decode cX1_prepare 68 = .ok (.iload_n 2, 1) := by decide +kernel
theorem dX1_prepare_69 : decode cX1_prepare 69 = .ok (.iaload, 1) := by decide +kernel
theorem dX1_prepare_70 : decode cX1_prepare 70 = .ok (.istore_n 3, 1) := by decide +kernel
theorem dX1_prepare_71 : decode cX1_prepare 71 = .ok (.iload_n 1, 1) := by decide +kernel
theorem dX1_prepare_72 : decode cX1_prepare 72 = .ok (.iload_n 2, 1) := by decide +kernel
theorem dX1_prepare_73 : decode cX1_prepare 73 = .ok (.ishr, 1) := by decide +kernel
theorem dX1_prepare_74 : decode cX1_prepare 74 = .ok (.iconst 1, 1) := by decide +kernel
theorem dX1_prepare_75 : decode cX1_prepare 75 = .ok (.iand, 1) := by decide +kernel
theorem dX1_prepare_76 : decode cX1_prepare 76 = .ok (.ifCond .ne 6, 3) := by decide +kernel
theorem dX1_prepare_79 : decode cX1_prepare 79 = .ok (.goto 43, 3) := by decide +kernel
theorem dX1_prepare_82 : decode cX1_prepare 82 = .ok (.iload_n 3, 1) := by decide +kernel
theorem dX1_prepare_83 : decode cX1_prepare 83 = .ok (.invokestatic 54, 3) := by decide +kernel
theorem dX1_prepare_86 : decode cX1_prepare 86 = .ok (.ifCond .eq 21, 3) := by decide +kernel
theorem dX1_prepare_89 : decode cX1_prepare 89 = .ok (.aload_n 0, 1) := by decide +kernel
theorem dX1_prepare_90 : decode cX1_prepare 90 = .ok (.getfield 12, 3) := by decide +kernel
theorem dX1_prepare_93 : decode cX1_prepare 93 = .ok (.iload_n 3, 1) := by decide +kernel
theorem dX1_prepare_94 : decode cX1_prepare 94 = .ok (.invokestatic 60, 3) := by decide +kernel
theorem dX1_prepare_97 : decode cX1_prepare 97 = .ok (.iload_n 3, 1) := by decide +kernel
theorem dX1_prepare_98 : decode cX1_prepare 98 = .ok (.invokestatic 64, 3) := by decide +kernel
theorem dX1_prepare_101 : decode cX1_prepare 101 = .ok (.invokevirtual 67, 3) := by decide +kernel
theorem dX1_prepare_104 : decode cX1_prepare 104 = .ok (.goto 18, 3) := by decide +kernel
theorem dX1_prepare_107 : decode cX1_prepare 107 = .ok (.aload_n 0, 1) := by decide +kernel
theorem dX1_prepare_108 : decode cX1_prepare 108 = .ok (.getfield 12, 3) := by decide +kernel
theorem dX1_prepare_111 : decode cX1_prepare 111 = .ok (.iload_n 3, 1) := by decide +kernel
theorem dX1_prepare_112 : decode cX1_prepare 112 = .ok (.invokestatic 60, 3) := by decide +kernel
theorem dX1_prepare_115 : decode cX1_prepare 115 = .ok (.iload_n 3, 1) := by decide +kernel
theorem dX1_prepare_116 : decode cX1_prepare 116 = .ok (.invokestatic 64, 3) := by decide +kernel
theorem dX1_prepare_119 : decode cX1_prepare 119 = .ok (.invokevirtual 71, 3) := by decide +kernel
theorem dX1_prepare_122 : decode cX1_prepare 122 = .ok (.iinc 2 1, 3) := by decide +kernel
theorem dX1_prepare_125 : decode cX1_prepare 125 = .ok (.goto (-75), 3) := by decide +kernel
theorem dX1_prepare_128 : decode cX1_prepare 128 = .ok (.aload_n 0, 1) := by decide +kernel
theorem dX1_prepare_129 : decode cX1_prepare 129 = .ok (.iload_n 1, 1) := by decide +kernel
theorem dX1_prepare_130 : decode cX1_prepare 130 = .ok (.putfield 25, 3) := by decide +kernel
theorem dX1_prepare_133 : decode cX1_prepare 133 = .ok (.aload_n 0, 1) := by decide +kernel
theorem dX1_prepare_134 : decode cX1_prepare 134 = .ok (.aload_n 0, 1) := by decide +kernel
theorem dX1_prepare_135 : decode cX1_prepare 135 = .ok (.getfield 32, 3) := by decide +kernel
theorem dX1_prepare_138 : decode cX1_prepare 138 = .ok (.getfield 36, 3) := by decide +kernel
theorem dX1_prepare_141 : decode cX1_prepare 141 = .ok (.putfield 29, 3) := by decide +kernel
theorem dX1_prepare_144 : decode cX1_prepare 144 = .ok (.aload_n 0, 1) := by decide +kernel
theorem dX1_prepare_145 : decode cX1_prepare 145 = .ok (.getfield 12, 3) := by decide +kernel
theorem dX1_prepare_148 : decode cX1_prepare 148 = .ok (.areturn, 1) := by decide +kernel
theorem dX1_against_0 : decode cX1_against 0 = .ok (.aload_n 0, 1) := by decide +kernel
theorem dX1_against_1 : decode cX1_against 1 = .ok (.getfield 18, 3) := by decide +kernel
theorem dX1_against_4 : decode cX1_against 4 = .ok (.aload_n 0, 1) := by decide +kernel
theorem dX1_against_5 : decode cX1_against 5 = .ok (.getfield 12, 3) := by decide +kernel
theorem dX1_against_8 : decode cX1_against 8 = .ok (.invokevirtual 74, 3) := by decide +kernel
theorem dX1_against_11 : decode cX1_against 11 = .ok (.iload_n 1, 1) := by decide +kernel
theorem dX1_against_12 : decode cX1_against 12 = .ok (.iconst (-1), 1) := by decide +kernel
theorem dX1_against_13 : decode cX1_against 13 = .ok (.if_icmp .ne 8, 3) := by decide +kernel
theorem dX1_against_16 : decode cX1_against 16 = .ok (.aload_n 0, 1) := by decide +kernel
theorem dX1_against_17 : decode cX1_against 17 = .ok (.getfield 18, 3) := by decide +kernel
theorem dX1_against_20 : decode cX1_against 20 = .ok (.areturn, 1) := by decide +kernel
theorem dX1_against_21 : decode cX1_against 21 = .ok (.iload_n 1, 1) := by decide +kernel
theorem dX1_against_22 : decode cX1_against 22 = .ok (.invokestatic 54, 3) := by decide +kernel
theorem dX1_against_25 : decode cX1_against 25 = .ok (.ifCond .eq 21, 3) := by decide +kernel
theorem dX1_against_28 : decode cX1_against 28 = .ok (.aload_n 0, 1) := by decide +kernel
theorem dX1_against_29 : decode cX1_against 29 = .ok (.getfield 18, 3) := by decide +kernel
theorem dX1_against_32 : decode cX1_against 32 = .ok (.iload_n 1, 1) := by decide +kernel
theorem dX1_against_33 : decode cX1_against 33 = .ok (.invokestatic 60, 3) := by decide +kernel
theorem dX1_against_36 : decode cX1_against 36 = .ok (.iload_n 1, 1) := by decide +kernel
theorem dX1_against_37 : decode cX1_against 37 = .ok (.invokestatic 64, 3) := by decide +kernel
theorem dX1_against_40 : decode cX1_against 40 = .ok (.invokevirtual 67, 3) := by decide +kernel
theorem dX1_against_43 : decode cX1_against 43 = .ok (.goto 18, 3) := by decide +kernel
theorem dX1_against_46 : decode cX1_against 46 = .ok (.aload_n 0, 1) := by decide +kernel
theorem dX1_against_47 : decode cX1_against 47 = .ok (.getfield 18, 3) := by decide +kernel
theorem dX1_against_50 : decode cX1_against 50 = .ok (.iload_n 1, 1) := by decide +kernel
theorem dX1_against_51 : decode cX1_against 51 = .ok (.invokestatic 60, 3) := by decide +kernel
theorem dX1_against_54 : decode cX1_against 54 = .ok (.iload_n 1, 1) := by decide +kernel
theorem dX1_against_55 : decode cX1_against 55 = .ok (.invokestatic 64, 3) := by decide +kernel
theorem dX1_against_58 : decode cX1_against 58 = .ok (.invokevirtual 71, 3) := by decide +kernel
theorem dX1_against_61 : decode cX1_against 61 = .ok (.aload_n 0, 1) := by decide +kernel
theorem dX1_against_62 : decode cX1_against 62 = .ok (.getfield 18, 3) := by decide +kernel
theorem dX1_against_65 : decode cX1_against 65 = .ok (.areturn, 1) := by decide +kernel
theorem dX1_consistent_0 : decode cX1_consistent 0 = .ok (.aload_n 0, 1) := by decide +kernel
theorem dX1_consistent_1 : decode cX1_consistent 1 = .ok (.iload_n 1, 1) := by decide +kernel
theorem dX1_consistent_2 : decode cX1_consistent 2 = .ok (.invokevirtual 78, 3) := by decide +kernel
theorem dX1_consistent_5 : decode cX1_consistent 5 = .ok (.invokevirtual 82, 3) := by decide +kernel
theorem dX1_consistent_8 : decode cX1_consistent 8 = .ok (.ireturn, 1) := by decide +kernel
theorem dX1_entails_0 : decode cX1_entails 0 = .ok (.aload_n 0, 1) := by decide +kernel
theorem dX1_entails_1 : decode cX1_entails 1 = .ok (.iload_n 1, 1) := by decide +kernel
theorem dX1_entails_2 : decode cX1_entails 2 = .ok (.invokevirtual 78, 3) := by decide +kernel
theorem dX1_entails_5 : decode cX1_entails 5 = .ok (.pop, 1) := by decide +kernel
theorem dX1_entails_6 : decode cX1_entails 6 = .ok (.aload_n 0, 1) := by decide +kernel
theorem dX1_entails_7 : decode cX1_entails 7 = .ok (.iload_n 2, 1) := by decide +kernel
theorem dX1_entails_8 : decode cX1_entails 8 = .ok (.invokestatic 86, 3) := by decide +kernel
theorem dX1_entails_11 : decode cX1_entails 11 = .ok (.invokevirtual 89, 3) := by decide +kernel
theorem dX1_entails_14 : decode cX1_entails 14 = .ok (.invokevirtual 82, 3) := by decide +kernel
theorem dX1_entails_17 : decode cX1_entails 17 = .ok (.ifCond .ne 7, 3) := by decide +kernel
theorem dX1_entails_20 : decode cX1_entails 20 = .ok (.iconst 1, 1) := by decide +kernel
theorem dX1_entails_21 : decode cX1_entails 21 = .ok (.goto 4, 3) := by decide +kernel
theorem dX1_entails_24 : decode cX1_entails 24 = .ok (.iconst 0, 1) := by decide +kernel
theorem dX1_entails_25 : decode cX1_entails 25 = .ok (.ireturn, 1) := by decide +kernel
theorem dX1_entailsAlone_0 : decode cX1_entailsAlone 0 = .ok (.aload_n 0, 1) := by decide +kernel
theorem dX1_entailsAlone_1 : decode cX1_entailsAlone 1 = .ok (.getfield 12, 3) := by decide +kernel
theorem dX1_entailsAlone_4 : decode cX1_entailsAlone 4 = .ok (.invokevirtual 41, 3) := by decide +kernel
theorem dX1_entailsAlone_7 : decode cX1_entailsAlone 7 = .ok (.aload_n 0, 1) := by decide +kernel
theorem dX1_entailsAlone_8 : decode cX1_entailsAlone 8 = .ok (.getfield 12, 3) := by decide +kernel
theorem dX1_entailsAlone_11 : decode cX1_entailsAlone 11 = .ok (.aload_n 0, 1) := by decide +kernel
theorem dX1_entailsAlone_12 : decode cX1_entailsAlone 12 = .ok (.getfield 32, 3) := by decide +kernel
theorem dX1_entailsAlone_15 : decode cX1_entailsAlone 15 = .ok (.getfield 36, 3) := by decide +kernel
theorem dX1_entailsAlone_18 : decode cX1_entailsAlone 18 = .ok (.invokevirtual 44, 3) := by decide +kernel
theorem dX1_entailsAlone_21 : decode cX1_entailsAlone 21 = .ok (.aload_n 0, 1) := by decide +kernel
theorem dX1_entailsAlone_22 : decode cX1_entailsAlone 22 = .ok (.getfield 12, 3) := by decide +kernel
theorem dX1_entailsAlone_25 : decode cX1_entailsAlone 25 = .ok (.iload_n 1, 1) := by decide +kernel
theorem dX1_entailsAlone_26 : decode cX1_entailsAlone 26 = .ok (.invokevirtual 92, 3) := by decide +kernel
theorem dX1_entailsAlone_29 : decode cX1_entailsAlone 29 = .ok (.aload_n 0, 1) := by decide +kernel
theorem dX1_entailsAlone_30 : decode cX1_entailsAlone 30 = .ok (.iconst (-1), 1) := by decide +kernel
theorem dX1_entailsAlone_31 : decode cX1_entailsAlone 31 = .ok (.putfield 25, 3) := by decide +kernel
theorem dX1_entailsAlone_34 : decode cX1_entailsAlone 34 = .ok (.aload_n 0, 1) := by decide +kernel
theorem dX1_entailsAlone_35 : decode cX1_entailsAlone 35 = .ok (.iload_n 2, 1) := by decide +kernel
theorem dX1_entailsAlone_36 : decode cX1_entailsAlone 36 = .ok (.invokestatic 86, 3) := by decide +kernel
theorem dX1_entailsAlone_39 : decode cX1_entailsAlone 39 = .ok (.invokevirtual 89, 3) := by decide +kernel
theorem dX1_entailsAlone_42 : decode cX1_entailsAlone 42 = .ok (.invokevirtual 82, 3) := by decide +kernel
theorem dX1_entailsAlone_45 : decode cX1_entailsAlone 45 = .ok (.ifCond .ne 7, 3) := by decide +kernel
theorem dX1_entailsAlone_48 : decode cX1_entailsAlone 48 = .ok (.iconst 1, 1) := by decide +kernel
theorem dX1_entailsAlone_49 : decode cX1_entailsAlone 49 = .ok (.goto 4, 3) := by decide +kernel
theorem dX1_entailsAlone_52 : decode cX1_entailsAlone 52 = .ok (.iconst 0, 1) := by decide +kernel
theorem dX1_entailsAlone_53 : decode cX1_entailsAlone 53 = .ok (.ireturn, 1) := by decide +kernel
theorem dX1_indispensable_0 : decode cX1_indispensable 0 = .ok (.aload_n 0, 1) := by decide +kernel
theorem dX1_indispensable_1 : decode cX1_indispensable 1 = .ok (.getfield 32, 3) := by decide +kernel
theorem dX1_indispensable_4 : decode cX1_indispensable 4 = .ok (.invokevirtual 95, 3) := by decide +kernel
theorem dX1_indispensable_7 : decode cX1_indispensable 7 = .ok (.istore_n 2, 1) := by decide +kernel
theorem dX1_indispensable_8 : decode cX1_indispensable 8 = .ok (.iconst 0, 1) := by decide +kernel
theorem dX1_indispensable_9 : decode cX1_indispensable 9 = .ok (.istore_n 3, 1) := by decide +kernel
theorem dX1_indispensable_10 : decode cX1_indispensable 10 = .ok (.iconst 0, 1) := by decide +kernel
theorem dX1_indispensable_11 : decode cX1_indispensable 11 = .ok (.istore 4, 2) := by decide +kernel
theorem dX1_indispensable_13 : decode cX1_indispensable 13 = .ok (.iload 4, 2) := by decide +kernel
theorem dX1_indispensable_15 : decode cX1_indispensable 15 = .ok (.aload_n 0, 1) := by decide +kernel
theorem dX1_indispensable_16 : decode cX1_indispensable 16 = .ok (.getfield 32, 3) := by decide +kernel
theorem dX1_indispensable_19 : decode cX1_indispensable 19 = .ok (.getfield 48, 3) := by decide +kernel
theorem dX1_indispensable_22 : decode cX1_indispensable 22 = .ok (.if_icmp .ge 41, 3) := by decide +kernel
theorem dX1_indispensable_25 : decode cX1_indispensable 25 = .ok (.iload_n 2, 1) := by decide +kernel
theorem dX1_indispensable_26 : decode cX1_indispensable 26 = .ok (.iload 4, 2) := by decide +kernel
theorem dX1_indispensable_28 : decode cX1_indispensable 28 = .ok (.ishr, 1) := by decide +kernel
theorem dX1_indispensable_29 : decode cX1_indispensable 29 = .ok (.iconst 1, 1) := by decide +kernel
theorem dX1_indispensable_30 : decode cX1_indispensable 30 = .ok (.iand, 1) := by decide +kernel
theorem dX1_indispensable_31 : decode cX1_indispensable 31 = .ok (.ifCond .eq 26, 3) := by decide +kernel
theorem dX1_indispensable_34 : decode cX1_indispensable 34 = .ok (.aload_n 0, 1) := by decide +kernel
theorem dX1_indispensable_35 : decode cX1_indispensable 35 = .ok (.iload_n 2, 1) := by decide +kernel
theorem dX1_indispensable_36 : decode cX1_indispensable 36 = .ok (.iconst 1, 1) := by decide +kernel
theorem dX1_indispensable_37 : decode cX1_indispensable 37 = .ok (.iload 4, 2) := by decide +kernel
theorem dX1_indispensable_39 : decode cX1_indispensable 39 = .ok (.ishl, 1) := by decide +kernel
theorem dX1_indispensable_40 : decode cX1_indispensable 40 = .ok (.iconst (-1), 1) := by decide +kernel
theorem dX1_indispensable_41 : decode cX1_indispensable 41 = .ok (.ixor, 1) := by decide +kernel
theorem dX1_indispensable_42 : decode cX1_indispensable 42 = .ok (.iand, 1) := by decide +kernel
theorem dX1_indispensable_43 : decode cX1_indispensable 43 = .ok (.iload_n 1, 1) := by decide +kernel
theorem dX1_indispensable_44 : decode cX1_indispensable 44 = .ok (.invokevirtual 99, 3) := by decide +kernel
theorem dX1_indispensable_47 : decode cX1_indispensable 47 = .ok (.ifCond .ne 10, 3) := by decide +kernel
theorem dX1_indispensable_50 : decode cX1_indispensable 50 = .ok (.iload_n 3, 1) := by decide +kernel
theorem dX1_indispensable_51 : decode cX1_indispensable 51 = .ok (.iconst 1, 1) := by decide +kernel
theorem dX1_indispensable_52 : decode cX1_indispensable 52 = .ok (.iload 4, 2) := by decide +kernel
theorem dX1_indispensable_54 : decode cX1_indispensable 54 = .ok (.ishl, 1) := by decide +kernel
theorem dX1_indispensable_55 : decode cX1_indispensable 55 = .ok (.ior, 1) := by decide +kernel
theorem dX1_indispensable_56 : decode cX1_indispensable 56 = .ok (.istore_n 3, 1) := by decide +kernel
theorem dX1_indispensable_57 : decode cX1_indispensable 57 = .ok (.iinc 4 1, 3) := by decide +kernel
theorem dX1_indispensable_60 : decode cX1_indispensable 60 = .ok (.goto (-47), 3) := by decide +kernel
theorem dX1_indispensable_63 : decode cX1_indispensable 63 = .ok (.iload_n 3, 1) := by decide +kernel
theorem dX1_indispensable_64 : decode cX1_indispensable 64 = .ok (.ireturn, 1) := by decide +kernel
theorem dX1_superfluous_0 : decode cX1_superfluous 0 = .ok (.aload_n 0, 1) := by decide +kernel
theorem dX1_superfluous_1 : decode cX1_superfluous 1 = .ok (.getfield 32, 3) := by decide +kernel
theorem dX1_superfluous_4 : decode cX1_superfluous 4 = .ok (.invokevirtual 95, 3) := by decide +kernel
theorem dX1_superfluous_7 : decode cX1_superfluous 7 = .ok (.istore_n 1, 1) := by decide +kernel
theorem dX1_superfluous_8 : decode cX1_superfluous 8 = .ok (.iconst 0, 1) := by decide +kernel
theorem dX1_superfluous_9 : decode cX1_superfluous 9 = .ok (.istore_n 2, 1) := by decide +kernel
theorem dX1_superfluous_10 : decode cX1_superfluous 10 = .ok (.iconst 0, 1) := by decide +kernel
theorem dX1_superfluous_11 : decode cX1_superfluous 11 = .ok (.istore_n 3, 1) := by decide +kernel
theorem dX1_superfluous_12 : decode cX1_superfluous 12 = .ok (.iload_n 3, 1) := by decide +kernel
theorem dX1_superfluous_13 : decode cX1_superfluous 13 = .ok (.aload_n 0, 1) := by decide +kernel
theorem dX1_superfluous_14 : decode cX1_superfluous 14 = .ok (.getfield 32, 3) := by decide +kernel
theorem dX1_superfluous_17 : decode cX1_superfluous 17 = .ok (.getfield 48, 3) := by decide +kernel
theorem dX1_superfluous_20 : decode cX1_superfluous 20 = .ok (.if_icmp .ge 46, 3) := by decide +kernel
theorem dX1_superfluous_23 : decode cX1_superfluous 23 = .ok (.iload_n 1, 1) := by decide +kernel
theorem dX1_superfluous_24 : decode cX1_superfluous 24 = .ok (.iload_n 3, 1) := by decide +kernel
theorem dX1_superfluous_25 : decode cX1_superfluous 25 = .ok (.ishr, 1) := by decide +kernel
theorem dX1_superfluous_26 : decode cX1_superfluous 26 = .ok (.iconst 1, 1) := by decide +kernel
theorem dX1_superfluous_27 : decode cX1_superfluous 27 = .ok (.iand, 1) := by decide +kernel
theorem dX1_superfluous_28 : decode cX1_superfluous 28 = .ok (.ifCond .eq 32, 3) := by decide +kernel
theorem dX1_superfluous_31 : decode cX1_superfluous 31 = .ok (.aload_n 0, 1) := by decide +kernel
theorem dX1_superfluous_32 : decode cX1_superfluous 32 = .ok (.iload_n 1, 1) := by decide +kernel
theorem dX1_superfluous_33 : decode cX1_superfluous 33 = .ok (.iconst 1, 1) := by decide +kernel
theorem dX1_superfluous_34 : decode cX1_superfluous 34 = .ok (.iload_n 3, 1) := by decide +kernel
theorem dX1_superfluous_35 : decode cX1_superfluous 35 = .ok (.ishl, 1) := by decide +kernel
theorem dX1_superfluous_36 : decode cX1_superfluous 36 = .ok (.iconst (-1), 1) := by decide +kernel
theorem dX1_superfluous_37 : decode cX1_superfluous 37 = .ok (.ixor, 1) := by decide +kernel
theorem dX1_superfluous_38 : decode cX1_superfluous 38 = .ok (.iand, 1) := by decide +kernel
theorem dX1_superfluous_39 : decode cX1_superfluous 39 = .ok (.aload_n 0, 1) := by decide +kernel
theorem dX1_superfluous_40 : decode cX1_superfluous 40 = .ok (.getfield 32, 3) := by decide +kernel
theorem dX1_superfluous_43 : decode cX1_superfluous 43 = .ok (.getfield 51, 3) := by decide +kernel
theorem dX1_superfluous_46 : decode cX1_superfluous 46 = .ok (.iload_n 3, 1) := by decide +kernel
theorem dX1_superfluous_47 : decode cX1_superfluous 47 = .ok (.iaload, 1) := by decide +kernel
theorem dX1_superfluous_48 : decode cX1_superfluous 48 = .ok (.invokevirtual 99, 3) := by decide +kernel
theorem dX1_superfluous_51 : decode cX1_superfluous 51 = .ok (.ifCond .eq 9, 3) := by decide +kernel
theorem dX1_superfluous_54 : decode cX1_superfluous 54 = .ok (.iload_n 2, 1) := by decide +kernel
theorem dX1_superfluous_55 : decode cX1_superfluous 55 = .ok (.iconst 1, 1) := by decide +kernel
theorem dX1_superfluous_56 : decode cX1_superfluous 56 = .ok (.iload_n 3, 1) := by decide +kernel
theorem dX1_superfluous_57 : decode cX1_superfluous 57 = .ok (.ishl, 1) := by decide +kernel
theorem dX1_superfluous_58 : decode cX1_superfluous 58 = .ok (.ior, 1) := by decide +kernel
theorem dX1_superfluous_59 : decode cX1_superfluous 59 = .ok (.istore_n 2, 1) := by decide +kernel
theorem dX1_superfluous_60 : decode cX1_superfluous 60 = .ok (.iinc 3 1, 3) := by decide +kernel
theorem dX1_superfluous_63 : decode cX1_superfluous 63 = .ok (.goto (-51), 3) := by decide +kernel
theorem dX1_superfluous_66 : decode cX1_superfluous 66 = .ok (.iload_n 2, 1) := by decide +kernel
theorem dX1_superfluous_67 : decode cX1_superfluous 67 = .ok (.ireturn, 1) := by decide +kernel
theorem dX1_countEntailed_0 : decode cX1_countEntailed 0 = .ok (.iconst 0, 1) := by decide +kernel
theorem dX1_countEntailed_1 : decode cX1_countEntailed 1 = .ok (.istore 4, 2) := by decide +kernel
theorem dX1_countEntailed_3 : decode cX1_countEntailed 3 = .ok (.iconst 0, 1) := by decide +kernel
theorem dX1_countEntailed_4 : decode cX1_countEntailed 4 = .ok (.istore 5, 2) := by decide +kernel
theorem dX1_countEntailed_6 : decode cX1_countEntailed 6 = .ok (.iload 5, 2) := by decide +kernel
theorem dX1_countEntailed_8 : decode cX1_countEntailed 8 = .ok (.aload_n 0, 1) := by decide +kernel
theorem dX1_countEntailed_9 : decode cX1_countEntailed 9 = .ok (.getfield 32, 3) := by decide +kernel
theorem dX1_countEntailed_12 : decode cX1_countEntailed 12 = .ok (.getfield 48, 3) := by decide +kernel
theorem dX1_countEntailed_15 : decode cX1_countEntailed 15 = .ok (.if_icmp .ge 63, 3) := by decide +kernel
theorem dX1_countEntailed_18 : decode cX1_countEntailed 18 = .ok (.iload_n 3, 1) := by decide +kernel
theorem dX1_countEntailed_19 : decode cX1_countEntailed 19 = .ok (.ifCond .eq 19, 3) := by decide +kernel
theorem dX1_countEntailed_22 : decode cX1_countEntailed 22 = .ok (.aload_n 0, 1) := by decide +kernel
theorem dX1_countEntailed_23 : decode cX1_countEntailed 23 = .ok (.getfield 32, 3) := by decide +kernel
theorem dX1_countEntailed_26 : decode cX1_countEntailed 26 = .ok (.getfield 51, 3) := by decide +kernel
theorem dX1_countEntailed_29 : decode cX1_countEntailed 29 = .ok (.iload 5, 2) := by decide +kernel
theorem dX1_countEntailed_31 : decode cX1_countEntailed 31 = .ok (.iaload, 1) := by decide +kernel
theorem dX1_countEntailed_32 : decode cX1_countEntailed 32 = .ok (.invokestatic 86, 3) := by decide +kernel
theorem dX1_countEntailed_35 : decode cX1_countEntailed 35 = .ok (.goto 13, 3) := by decide +kernel
theorem dX1_countEntailed_38 : decode cX1_countEntailed 38 = .ok (.aload_n 0, 1) := by decide +kernel
theorem dX1_countEntailed_39 : decode cX1_countEntailed 39 = .ok (.getfield 32, 3) := by decide +kernel
theorem dX1_countEntailed_42 : decode cX1_countEntailed 42 = .ok (.getfield 51, 3) := by decide +kernel
theorem dX1_countEntailed_45 : decode cX1_countEntailed 45 = .ok (.iload 5, 2) := by decide +kernel
theorem dX1_countEntailed_47 : decode cX1_countEntailed 47 = .ok (.iaload, 1) := by decide +kernel
theorem dX1_countEntailed_48 : decode cX1_countEntailed 48 = .ok (.istore 6, 2) := by decide +kernel
theorem dX1_countEntailed_50 : decode cX1_countEntailed 50 = .ok (.iload_n 2, 1) := by decide +kernel
theorem dX1_countEntailed_51 : decode cX1_countEntailed 51 = .ok (.iload 5, 2) := by decide +kernel
theorem dX1_countEntailed_53 : decode cX1_countEntailed 53 = .ok (.ishr, 1) := by decide +kernel
theorem dX1_countEntailed_54 : decode cX1_countEntailed 54 = .ok (.iconst 1, 1) := by decide +kernel
theorem dX1_countEntailed_55 : decode cX1_countEntailed 55 = .ok (.iand, 1) := by decide +kernel
theorem dX1_countEntailed_56 : decode cX1_countEntailed 56 = .ok (.ifCond .eq 16, 3) := by decide +kernel
theorem dX1_countEntailed_59 : decode cX1_countEntailed 59 = .ok (.aload_n 0, 1) := by decide +kernel
theorem dX1_countEntailed_60 : decode cX1_countEntailed 60 = .ok (.iload_n 1, 1) := by decide +kernel
theorem dX1_countEntailed_61 : decode cX1_countEntailed 61 = .ok (.iload 6, 2) := by decide +kernel
theorem dX1_countEntailed_63 : decode cX1_countEntailed 63 = .ok (.invokevirtual 99, 3) := by decide +kernel
theorem dX1_countEntailed_66 : decode cX1_countEntailed 66 = .ok (.ifCond .eq 6, 3) := by decide +kernel
theorem dX1_countEntailed_69 : decode cX1_countEntailed 69 = .ok (.iinc 4 1, 3) := by decide +kernel
theorem dX1_countEntailed_72 : decode cX1_countEntailed 72 = .ok (.iinc 5 1, 3) := by decide +kernel
theorem dX1_countEntailed_75 : decode cX1_countEntailed 75 = .ok (.goto (-69), 3) := by decide +kernel
theorem dX1_countEntailed_78 : decode cX1_countEntailed 78 = .ok (.iload 4, 2) := by decide +kernel
theorem dX1_countEntailed_80 : decode cX1_countEntailed 80 = .ok (.ireturn, 1) := by decide +kernel
theorem dX1_allThatAre_0 : decode cX1_allThatAre 0 = .ok (.aload_n 0, 1) := by decide +kernel
theorem dX1_allThatAre_1 : decode cX1_allThatAre 1 = .ok (.aload_n 0, 1) := by decide +kernel
theorem dX1_allThatAre_2 : decode cX1_allThatAre 2 = .ok (.getfield 32, 3) := by decide +kernel
theorem dX1_allThatAre_5 : decode cX1_allThatAre 5 = .ok (.invokevirtual 95, 3) := by decide +kernel
theorem dX1_allThatAre_8 : decode cX1_allThatAre 8 = .ok (.invokevirtual 78, 3) := by decide +kernel
theorem dX1_allThatAre_11 : decode cX1_allThatAre 11 = .ok (.astore_n 2, 1) := by decide +kernel
theorem dX1_allThatAre_12 : decode cX1_allThatAre 12 = .ok (.iconst 0, 1) := by decide +kernel
theorem dX1_allThatAre_13 : decode cX1_allThatAre 13 = .ok (.istore_n 3, 1) := by decide +kernel
theorem dX1_allThatAre_14 : decode cX1_allThatAre 14 = .ok (.iconst 0, 1) := by decide +kernel
theorem dX1_allThatAre_15 : decode cX1_allThatAre 15 = .ok (.istore 4, 2) := by decide +kernel
theorem dX1_allThatAre_17 : decode cX1_allThatAre 17 = .ok (.iload 4, 2) := by decide +kernel
theorem dX1_allThatAre_19 : decode cX1_allThatAre 19 = .ok (.bipush 24, 2) := by decide +kernel
theorem dX1_allThatAre_21 : decode cX1_allThatAre 21 = .ok (.if_icmp .ge 28, 3) := by decide +kernel
theorem dX1_allThatAre_24 : decode cX1_allThatAre 24 = .ok (.aload_n 2, 1) := by decide +kernel
theorem dX1_allThatAre_25 : decode cX1_allThatAre 25 = .ok (.iload_n 1, 1) := by decide +kernel
theorem dX1_allThatAre_26 : decode cX1_allThatAre 26 = .ok (.iload 4, 2) := by decide +kernel
theorem dX1_allThatAre_28 : decode cX1_allThatAre 28 = .ok (.iconst 1, 1) := by decide +kernel
theorem dX1_allThatAre_29 : decode cX1_allThatAre 29 = .ok (.ixor, 1) := by decide +kernel
theorem dX1_allThatAre_30 : decode cX1_allThatAre 30 = .ok (.invokevirtual 103, 3) := by decide +kernel
theorem dX1_allThatAre_33 : decode cX1_allThatAre 33 = .ok (.ifCond .ne 10, 3) := by decide +kernel
theorem dX1_allThatAre_36 : decode cX1_allThatAre 36 = .ok (.iload_n 3, 1) := by decide +kernel
theorem dX1_allThatAre_37 : decode cX1_allThatAre 37 = .ok (.iconst 1, 1) := by decide +kernel
theorem dX1_allThatAre_38 : decode cX1_allThatAre 38 = .ok (.iload 4, 2) := by decide +kernel
theorem dX1_allThatAre_40 : decode cX1_allThatAre 40 = .ok (.ishl, 1) := by decide +kernel
theorem dX1_allThatAre_41 : decode cX1_allThatAre 41 = .ok (.ior, 1) := by decide +kernel
theorem dX1_allThatAre_42 : decode cX1_allThatAre 42 = .ok (.istore_n 3, 1) := by decide +kernel
theorem dX1_allThatAre_43 : decode cX1_allThatAre 43 = .ok (.iinc 4 1, 3) := by decide +kernel
theorem dX1_allThatAre_46 : decode cX1_allThatAre 46 = .ok (.goto (-29), 3) := by decide +kernel
theorem dX1_allThatAre_49 : decode cX1_allThatAre 49 = .ok (.iload_n 3, 1) := by decide +kernel
theorem dX1_allThatAre_50 : decode cX1_allThatAre 50 = .ok (.ireturn, 1) := by decide +kernel
theorem dX1_nobodyIs_0 : decode cX1_nobodyIs 0 = .ok (.aload_n 0, 1) := by decide +kernel
theorem dX1_nobodyIs_1 : decode cX1_nobodyIs 1 = .ok (.aload_n 0, 1) := by decide +kernel
theorem dX1_nobodyIs_2 : decode cX1_nobodyIs 2 = .ok (.getfield 32, 3) := by decide +kernel
theorem dX1_nobodyIs_5 : decode cX1_nobodyIs 5 = .ok (.invokevirtual 95, 3) := by decide +kernel
theorem dX1_nobodyIs_8 : decode cX1_nobodyIs 8 = .ok (.invokevirtual 78, 3) := by decide +kernel
theorem dX1_nobodyIs_11 : decode cX1_nobodyIs 11 = .ok (.astore_n 1, 1) := by decide +kernel
theorem dX1_nobodyIs_12 : decode cX1_nobodyIs 12 = .ok (.iconst 0, 1) := by decide +kernel
theorem dX1_nobodyIs_13 : decode cX1_nobodyIs 13 = .ok (.istore_n 2, 1) := by decide +kernel
theorem dX1_nobodyIs_14 : decode cX1_nobodyIs 14 = .ok (.iconst 0, 1) := by decide +kernel
theorem dX1_nobodyIs_15 : decode cX1_nobodyIs 15 = .ok (.istore_n 3, 1) := by decide +kernel
theorem dX1_nobodyIs_16 : decode cX1_nobodyIs 16 = .ok (.iload_n 3, 1) := by decide +kernel
theorem dX1_nobodyIs_17 : decode cX1_nobodyIs 17 = .ok (.bipush 24, 2) := by decide +kernel
theorem dX1_nobodyIs_19 : decode cX1_nobodyIs 19 = .ok (.if_icmp .ge 24, 3) := by decide +kernel
theorem dX1_nobodyIs_22 : decode cX1_nobodyIs 22 = .ok (.aload_n 1, 1) := by decide +kernel
theorem dX1_nobodyIs_23 : decode cX1_nobodyIs 23 = .ok (.iload_n 3, 1) := by decide +kernel
theorem dX1_nobodyIs_24 : decode cX1_nobodyIs 24 = .ok (.iload_n 3, 1) := by decide +kernel
theorem dX1_nobodyIs_25 : decode cX1_nobodyIs 25 = .ok (.invokevirtual 103, 3) := by decide +kernel
theorem dX1_nobodyIs_28 : decode cX1_nobodyIs 28 = .ok (.ifCond .ne 9, 3) := by decide +kernel
theorem dX1_nobodyIs_31 : decode cX1_nobodyIs 31 = .ok (.iload_n 2, 1) := by decide +kernel
theorem dX1_nobodyIs_32 : decode cX1_nobodyIs 32 = .ok (.iconst 1, 1) := by decide +kernel
theorem dX1_nobodyIs_33 : decode cX1_nobodyIs 33 = .ok (.iload_n 3, 1) := by decide +kernel
theorem dX1_nobodyIs_34 : decode cX1_nobodyIs 34 = .ok (.ishl, 1) := by decide +kernel
theorem dX1_nobodyIs_35 : decode cX1_nobodyIs 35 = .ok (.ior, 1) := by decide +kernel
theorem dX1_nobodyIs_36 : decode cX1_nobodyIs 36 = .ok (.istore_n 2, 1) := by decide +kernel
theorem dX1_nobodyIs_37 : decode cX1_nobodyIs 37 = .ok (.iinc 3 1, 3) := by decide +kernel
theorem dX1_nobodyIs_40 : decode cX1_nobodyIs 40 = .ok (.goto (-24), 3) := by decide +kernel
theorem dX1_nobodyIs_43 : decode cX1_nobodyIs 43 = .ok (.iload_n 2, 1) := by decide +kernel
theorem dX1_nobodyIs_44 : decode cX1_nobodyIs 44 = .ok (.ireturn, 1) := by decide +kernel
theorem dX1_next_0 : decode cX1_next 0 = .ok (.iload_n 0, 1) := by decide +kernel
theorem dX1_next_1 : decode cX1_next 1 = .ok (.invokestatic 60, 3) := by decide +kernel
theorem dX1_next_4 : decode cX1_next 4 = .ok (.istore_n 2, 1) := by decide +kernel
theorem dX1_next_5 : decode cX1_next 5 = .ok (.iload_n 0, 1) := by decide +kernel
theorem dX1_next_6 : decode cX1_next 6 = .ok (.invokestatic 64, 3) := by decide +kernel
theorem dX1_next_9 : decode cX1_next 9 = .ok (.istore_n 3, 1) := by decide +kernel
theorem dX1_next_10 : decode cX1_next 10 = .ok (.iload_n 0, 1) := by decide +kernel
theorem dX1_next_11 : decode cX1_next 11 = .ok (.invokestatic 54, 3) := by decide +kernel
theorem dX1_next_14 : decode cX1_next 14 = .ok (.ifCond .ne 5, 3) := by decide +kernel
theorem dX1_next_17 : decode cX1_next 17 = .ok (.iconst (-1), 1) := by decide +kernel
theorem dX1_next_18 : decode cX1_next 18 = .ok (.ireturn, 1) := by decide +kernel
theorem dX1_next_19 : decode cX1_next 19 = .ok (.iload_n 1, 1) := by decide +kernel
theorem dX1_next_20 : decode cX1_next 20 = .ok (.iload_n 2, 1) := by decide +kernel
theorem dX1_next_21 : decode cX1_next 21 = .ok (.if_icmp .ne 5, 3) := by decide +kernel
theorem dX1_next_24 : decode cX1_next 24 = .ok (.iload_n 3, 1) := by decide +kernel
theorem dX1_next_25 : decode cX1_next 25 = .ok (.ireturn, 1) := by decide +kernel
theorem dX1_next_26 : decode cX1_next 26 = .ok (.iload_n 1, 1) := by decide +kernel
theorem dX1_next_27 : decode cX1_next 27 = .ok (.iload_n 3, 1) := by decide +kernel
theorem dX1_next_28 : decode cX1_next 28 = .ok (.iconst 1, 1) := by decide +kernel
theorem dX1_next_29 : decode cX1_next 29 = .ok (.ixor, 1) := by decide +kernel
theorem dX1_next_30 : decode cX1_next 30 = .ok (.if_icmp .ne 9, 3) := by decide +kernel
theorem dX1_next_33 : decode cX1_next 33 = .ok (.iload_n 2, 1) := by decide +kernel
theorem dX1_next_34 : decode cX1_next 34 = .ok (.iconst 1, 1) := by decide +kernel
theorem dX1_next_35 : decode cX1_next 35 = .ok (.ixor, 1) := by decide +kernel
theorem dX1_next_36 : decode cX1_next 36 = .ok (.goto 4, 3) := by decide +kernel
theorem dX1_next_39 : decode cX1_next 39 = .ok (.iconst (-1), 1) := by decide +kernel
theorem dX1_next_40 : decode cX1_next 40 = .ok (.ireturn, 1) := by decide +kernel
theorem dX1_chainOf_0 : decode cX1_chainOf 0 = .ok (.aload_n 0, 1) := by decide +kernel
theorem dX1_chainOf_1 : decode cX1_chainOf 1 = .ok (.iload_n 2, 1) := by decide +kernel
theorem dX1_chainOf_2 : decode cX1_chainOf 2 = .ok (.invokevirtual 106, 3) := by decide +kernel
theorem dX1_chainOf_5 : decode cX1_chainOf 5 = .ok (.aload_n 0, 1) := by decide +kernel
theorem dX1_chainOf_6 : decode cX1_chainOf 6 = .ok (.getfield 21, 3) := by decide +kernel
theorem dX1_chainOf_9 : decode cX1_chainOf 9 = .ok (.iload_n 1, 1) := by decide +kernel
theorem dX1_chainOf_10 : decode cX1_chainOf 10 = .ok (.iaload, 1) := by decide +kernel
theorem dX1_chainOf_11 : decode cX1_chainOf 11 = .ok (.istore 4, 2) := by decide +kernel
theorem dX1_chainOf_13 : decode cX1_chainOf 13 = .ok (.iload 4, 2) := by decide +kernel
theorem dX1_chainOf_15 : decode cX1_chainOf 15 = .ok (.bipush 24, 2) := by decide +kernel
theorem dX1_chainOf_17 : decode cX1_chainOf 17 = .ok (.if_icmp .gt 10, 3) := by decide +kernel
theorem dX1_chainOf_20 : decode cX1_chainOf 20 = .ok (.iload 4, 2) := by decide +kernel
theorem dX1_chainOf_22 : decode cX1_chainOf 22 = .ok (.aload_n 3, 1) := by decide +kernel
theorem dX1_chainOf_23 : decode cX1_chainOf 23 = .ok (.arraylength, 1) := by decide +kernel
theorem dX1_chainOf_24 : decode cX1_chainOf 24 = .ok (.if_icmp .le 6, 3) := by decide +kernel
theorem dX1_chainOf_27 : decode cX1_chainOf 27 = .ok (.bipush (-2), 2) := by decide +kernel
theorem dX1_chainOf_29 : decode cX1_chainOf 29 = .ok (.ireturn, 1) := by decide +kernel
theorem dX1_chainOf_30 : decode cX1_chainOf 30 = .ok (.iload_n 1, 1) := by decide +kernel
theorem dX1_chainOf_31 : decode cX1_chainOf 31 = .ok (.istore 5, 2) := by decide +kernel
theorem dX1_chainOf_33 : decode cX1_chainOf 33 = .ok (.iconst 0, 1) := by decide +kernel
theorem dX1_chainOf_34 : decode cX1_chainOf 34 = .ok (.istore 6, 2) := by decide +kernel
theorem dX1_chainOf_36 : decode cX1_chainOf 36 = .ok (.iload 6, 2) := by decide +kernel
theorem dX1_chainOf_38 : decode cX1_chainOf 38 = .ok (.iload 4, 2) := by decide +kernel
theorem dX1_chainOf_40 : decode cX1_chainOf 40 = .ok (.if_icmp .ge 99, 3) := by decide +kernel
theorem dX1_chainOf_43 : decode cX1_chainOf 43 = .ok (.iconst 0, 1) := by decide +kernel
theorem dX1_chainOf_44 : decode cX1_chainOf 44 = .ok (.istore 7, 2) := by decide +kernel
theorem dX1_chainOf_46 : decode cX1_chainOf 46 = .ok (.iload 7, 2) := by decide +kernel
theorem dX1_chainOf_48 : decode cX1_chainOf 48 = .ok (.aload_n 0, 1) := by decide +kernel
theorem dX1_chainOf_49 : decode cX1_chainOf 49 = .ok (.getfield 32, 3) := by decide +kernel
theorem dX1_chainOf_52 : decode cX1_chainOf 52 = .ok (.getfield 48, 3) := by decide +kernel
theorem dX1_chainOf_55 : decode cX1_chainOf 55 = .ok (.if_icmp .ge 78, 3) := by decide +kernel
theorem dX1_chainOf_58 : decode cX1_chainOf 58 = .ok (.aload_n 0, 1) := by decide +kernel
theorem dX1_chainOf_59 : decode cX1_chainOf 59 = .ok (.getfield 32, 3) := by decide +kernel
theorem dX1_chainOf_62 : decode cX1_chainOf 62 = .ok (.iload 7, 2) := by decide +kernel
theorem dX1_chainOf_64 : decode cX1_chainOf 64 = .ok (.invokevirtual 109, 3) := by decide +kernel
theorem dX1_chainOf_67 : decode cX1_chainOf 67 = .ok (.ifCond .eq 21, 3) := by decide +kernel
theorem dX1_chainOf_70 : decode cX1_chainOf 70 = .ok (.aload_n 0, 1) := by decide +kernel
theorem dX1_chainOf_71 : decode cX1_chainOf 71 = .ok (.getfield 32, 3) := by decide +kernel
theorem dX1_chainOf_74 : decode cX1_chainOf 74 = .ok (.getfield 51, 3) := by decide +kernel
theorem dX1_chainOf_77 : decode cX1_chainOf 77 = .ok (.iload 7, 2) := by decide +kernel
theorem dX1_chainOf_79 : decode cX1_chainOf 79 = .ok (.iaload, 1) := by decide +kernel
theorem dX1_chainOf_80 : decode cX1_chainOf 80 = .ok (.iload 5, 2) := by decide +kernel
theorem dX1_chainOf_82 : decode cX1_chainOf 82 = .ok (.invokestatic 112, 3) := by decide +kernel
theorem dX1_chainOf_85 : decode cX1_chainOf 85 = .ok (.goto 4, 3) := by decide +kernel
theorem dX1_chainOf_88 : decode cX1_chainOf 88 = .ok (.iconst (-1), 1) := by decide +kernel
theorem dX1_chainOf_89 : decode cX1_chainOf 89 = .ok (.istore 8, 2) := by decide +kernel
theorem dX1_chainOf_91 : decode cX1_chainOf 91 = .ok (.iload 8, 2) := by decide +kernel
theorem dX1_chainOf_93 : decode cX1_chainOf 93 = .ok (.iconst (-1), 1) := by decide +kernel
theorem dX1_chainOf_94 : decode cX1_chainOf 94 = .ok (.if_icmp .eq 33, 3) := by decide +kernel
theorem dX1_chainOf_97 : decode cX1_chainOf 97 = .ok (.aload_n 0, 1) := by decide +kernel
theorem dX1_chainOf_98 : decode cX1_chainOf 98 = .ok (.getfield 21, 3) := by decide +kernel
theorem dX1_chainOf_101 : decode cX1_chainOf 101 = .ok (.iload 8, 2) := by decide +kernel
theorem dX1_chainOf_103 : decode cX1_chainOf 103 = .ok (.iaload, 1) := by decide +kernel
theorem dX1_chainOf_104 : decode cX1_chainOf 104 = .ok (.iload 4, 2) := by decide +kernel
theorem dX1_chainOf_106 : decode cX1_chainOf 106 = .ok (.iload 6, 2) := by decide +kernel
theorem dX1_chainOf_108 : decode cX1_chainOf 108 = .ok (.isub, 1) := by decide +kernel
theorem dX1_chainOf_109 : decode cX1_chainOf 109 = .ok (.iconst 1, 1) := by decide +kernel
theorem dX1_chainOf_110 : decode cX1_chainOf 110 = .ok (.isub, 1) := by decide +kernel
theorem dX1_chainOf_111 : decode cX1_chainOf 111 = .ok (.if_icmp .ne 16, 3) := by decide +kernel
theorem dX1_chainOf_114 : decode cX1_chainOf 114 = .ok (.aload_n 3, 1) := by decide +kernel
theorem dX1_chainOf_115 : decode cX1_chainOf 115 = .ok (.iload 6, 2) := by decide +kernel
theorem dX1_chainOf_117 : decode cX1_chainOf 117 = .ok (.iload 7, 2) := by decide +kernel
theorem dX1_chainOf_119 : decode cX1_chainOf 119 = .ok (.iastore, 1) := by decide +kernel
theorem dX1_chainOf_120 : decode cX1_chainOf 120 = .ok (.iload 8, 2) := by decide +kernel
theorem dX1_chainOf_122 : decode cX1_chainOf 122 = .ok (.istore 5, 2) := by decide +kernel
theorem dX1_chainOf_124 : decode cX1_chainOf 124 = .ok (.goto 9, 3) := by decide +kernel
theorem dX1_chainOf_127 : decode cX1_chainOf 127 = .ok (.iinc 7 1, 3) := by decide +kernel
theorem dX1_chainOf_130 : decode cX1_chainOf 130 = .ok (.goto (-84), 3) := by decide +kernel
theorem dX1_chainOf_133 : decode cX1_chainOf 133 = .ok (.iinc 6 1, 3) := by decide +kernel
theorem dX1_chainOf_136 : decode cX1_chainOf 136 = .ok (.goto (-100), 3) := by decide +kernel
theorem dX1_chainOf_139 : decode cX1_chainOf 139 = .ok (.iload 4, 2) := by decide +kernel
theorem dX1_chainOf_141 : decode cX1_chainOf 141 = .ok (.ireturn, 1) := by decide +kernel
theorem dX1_measureDistances_0 : decode cX1_measureDistances 0 = .ok (.iconst 0, 1) := by decide +kernel
theorem dX1_measureDistances_1 : decode cX1_measureDistances 1 = .ok (.istore_n 2, 1) := by decide +kernel
theorem dX1_measureDistances_2 : decode cX1_measureDistances 2 = .ok (.iload_n 2, 1) := by decide +kernel
theorem dX1_measureDistances_3 : decode cX1_measureDistances 3 = .ok (.bipush 24, 2) := by decide +kernel
theorem dX1_measureDistances_5 : decode cX1_measureDistances 5 = .ok (.if_icmp .ge 26, 3) := by decide +kernel
theorem dX1_measureDistances_8 : decode cX1_measureDistances 8 = .ok (.aload_n 0, 1) := by decide +kernel
theorem dX1_measureDistances_9 : decode cX1_measureDistances 9 = .ok (.getfield 21, 3) := by decide +kernel
theorem dX1_measureDistances_12 : decode cX1_measureDistances 12 = .ok (.iload_n 2, 1) := by decide +kernel
theorem dX1_measureDistances_13 : decode cX1_measureDistances 13 = .ok (.iload_n 2, 1) := by decide +kernel
theorem dX1_measureDistances_14 : decode cX1_measureDistances 14 = .ok (.iload_n 1, 1) := by decide +kernel
theorem dX1_measureDistances_15 : decode cX1_measureDistances 15 = .ok (.if_icmp .ne 7, 3) := by decide +kernel
theorem dX1_measureDistances_18 : decode cX1_measureDistances 18 = .ok (.iconst 0, 1) := by decide +kernel
theorem dX1_measureDistances_19 : decode cX1_measureDistances 19 = .ok (.goto 5, 3) := by decide +kernel
theorem dX1_measureDistances_22 : decode cX1_measureDistances 22 = .ok (.bipush 25, 2) := by decide +kernel
theorem dX1_measureDistances_24 : decode cX1_measureDistances 24 = .ok (.iastore, 1) := by decide +kernel
theorem dX1_measureDistances_25 : decode cX1_measureDistances 25 = .ok (.iinc 2 1, 3) := by decide +kernel
theorem dX1_measureDistances_28 : decode cX1_measureDistances 28 = .ok (.goto (-26), 3) := by decide +kernel
theorem dX1_measureDistances_31 : decode cX1_measureDistances 31 = .ok (.iconst 1, 1) := by decide +kernel
theorem dX1_measureDistances_32 : decode cX1_measureDistances 32 = .ok (.istore_n 2, 1) := by decide +kernel
theorem dX1_measureDistances_33 : decode cX1_measureDistances 33 = .ok (.iconst 1, 1) := by decide +kernel
theorem dX1_measureDistances_34 : decode cX1_measureDistances 34 = .ok (.istore_n 3, 1) := by decide +kernel
theorem dX1_measureDistances_35 : decode cX1_measureDistances 35 = .ok (.iload_n 3, 1) := by decide +kernel
theorem dX1_measureDistances_36 : decode cX1_measureDistances 36 = .ok (.bipush 24, 2) := by decide +kernel
theorem dX1_measureDistances_38 : decode cX1_measureDistances 38 = .ok (.if_icmp .ge 108, 3) := by decide +kernel
theorem dX1_measureDistances_41 : decode cX1_measureDistances 41 = .ok (.iload_n 2, 1) := by decide +kernel
theorem dX1_measureDistances_42 : decode cX1_measureDistances 42 = .ok (.ifCond .eq 104, 3) := by decide +kernel
theorem dX1_measureDistances_45 : decode cX1_measureDistances 45 = .ok (.iconst 0, 1) := by decide +kernel
theorem dX1_measureDistances_46 : decode cX1_measureDistances 46 = .ok (.istore_n 2, 1) := by decide +kernel
theorem dX1_measureDistances_47 : decode cX1_measureDistances 47 = .ok (.iconst 0, 1) := by decide +kernel
theorem dX1_measureDistances_48 : decode cX1_measureDistances 48 = .ok (.istore 4, 2) := by decide +kernel
theorem dX1_measureDistances_50 : decode cX1_measureDistances 50 = .ok (.iload 4, 2) := by decide +kernel
theorem dX1_measureDistances_52 : decode cX1_measureDistances 52 = .ok (.aload_n 0, 1) := by decide +kernel
theorem dX1_measureDistances_53 : decode cX1_measureDistances 53 = .ok (.getfield 32, 3) := by decide +kernel
theorem dX1_measureDistances_56 : decode cX1_measureDistances 56 = .ok (.getfield 48, 3) := by decide +kernel
theorem dX1_measureDistances_59 : decode cX1_measureDistances 59 = .ok (.if_icmp .ge 81, 3) := by decide +kernel
theorem dX1_measureDistances_62 : decode cX1_measureDistances 62 = .ok (.aload_n 0, 1) := by decide +kernel
theorem dX1_measureDistances_63 : decode cX1_measureDistances 63 = .ok (.getfield 32, 3) := by decide +kernel
theorem dX1_measureDistances_66 : decode cX1_measureDistances 66 = .ok (.getfield 51, 3) := by decide +kernel
theorem dX1_measureDistances_69 : decode cX1_measureDistances 69 = .ok (.iload 4, 2) := by decide +kernel
theorem dX1_measureDistances_71 : decode cX1_measureDistances 71 = .ok (.iaload, 1) := by decide +kernel
theorem dX1_measureDistances_72 : decode cX1_measureDistances 72 = .ok (.istore 5, 2) := by decide +kernel
theorem dX1_measureDistances_74 : decode cX1_measureDistances 74 = .ok (.aload_n 0, 1) := by decide +kernel
theorem dX1_measureDistances_75 : decode cX1_measureDistances 75 = .ok (.getfield 32, 3) := by decide +kernel
theorem dX1_measureDistances_78 : decode cX1_measureDistances 78 = .ok (.iload 4, 2) := by decide +kernel
theorem dX1_measureDistances_80 : decode cX1_measureDistances 80 = .ok (.invokevirtual 109, 3) := by decide +kernel
theorem dX1_measureDistances_83 : decode cX1_measureDistances 83 = .ok (.ifCond .eq 51, 3) := by decide +kernel
theorem dX1_measureDistances_86 : decode cX1_measureDistances 86 = .ok (.iload 5, 2) := by decide +kernel
theorem dX1_measureDistances_88 : decode cX1_measureDistances 88 = .ok (.invokestatic 54, 3) := by decide +kernel
theorem dX1_measureDistances_91 : decode cX1_measureDistances 91 = .ok (.ifCond .eq 43, 3) := by decide +kernel
theorem dX1_measureDistances_94 : decode cX1_measureDistances 94 = .ok (.iload_n 2, 1) := by decide +kernel
theorem dX1_measureDistances_95 : decode cX1_measureDistances 95 = .ok (.aload_n 0, 1) := by decide +kernel
theorem dX1_measureDistances_96 : decode cX1_measureDistances 96 = .ok (.iload 5, 2) := by decide +kernel
theorem dX1_measureDistances_98 : decode cX1_measureDistances 98 = .ok (.invokestatic 60, 3) := by decide +kernel
theorem dX1_measureDistances_101 : decode cX1_measureDistances 101 = .ok (.iload 5, 2) := by decide +kernel
theorem dX1_measureDistances_103 : decode cX1_measureDistances 103 = .ok (.invokestatic 64, 3) := by decide +kernel
theorem dX1_measureDistances_106 : decode cX1_measureDistances 106 = .ok (.iload_n 3, 1) := by decide +kernel
theorem dX1_measureDistances_107 : decode cX1_measureDistances 107 = .ok (.invokevirtual 116, 3) := by decide +kernel
theorem dX1_measureDistances_110 : decode cX1_measureDistances 110 = .ok (.ior, 1) := by decide +kernel
theorem dX1_measureDistances_111 : decode cX1_measureDistances 111 = .ok (.istore_n 2, 1) := by decide +kernel
theorem dX1_measureDistances_112 : decode cX1_measureDistances 112 = .ok (.iload_n 2, 1) := by decide +kernel
theorem dX1_measureDistances_113 : decode cX1_measureDistances 113 = .ok (.aload_n 0, 1) := by decide +kernel
theorem dX1_measureDistances_114 : decode cX1_measureDistances 114 = .ok (.iload 5, 2) := by decide +kernel
theorem dX1_measureDistances_116 : decode cX1_measureDistances 116 = .ok (.invokestatic 64, 3) := by decide +kernel
theorem dX1_measureDistances_119 : decode cX1_measureDistances 119 = .ok (.iconst 1, 1) := by decide +kernel
theorem dX1_measureDistances_120 : decode cX1_measureDistances 120 = .ok (.ixor, 1) := by decide +kernel
theorem dX1_measureDistances_121 : decode cX1_measureDistances 121 = .ok (.iload 5, 2) := by decide +kernel
theorem dX1_measureDistances_123 : decode cX1_measureDistances 123 = .ok (.invokestatic 60, 3) := by decide +kernel
theorem dX1_measureDistances_126 : decode cX1_measureDistances 126 = .ok (.iconst 1, 1) := by decide +kernel
theorem dX1_measureDistances_127 : decode cX1_measureDistances 127 = .ok (.ixor, 1) := by decide +kernel
theorem dX1_measureDistances_128 : decode cX1_measureDistances 128 = .ok (.iload_n 3, 1) := by decide +kernel
theorem dX1_measureDistances_129 : decode cX1_measureDistances 129 = .ok (.invokevirtual 116, 3) := by decide +kernel
theorem dX1_measureDistances_132 : decode cX1_measureDistances 132 = .ok (.ior, 1) := by decide +kernel
theorem dX1_measureDistances_133 : decode cX1_measureDistances 133 = .ok (.istore_n 2, 1) := by decide +kernel
theorem dX1_measureDistances_134 : decode cX1_measureDistances 134 = .ok (.iinc 4 1, 3) := by decide +kernel
theorem dX1_measureDistances_137 : decode cX1_measureDistances 137 = .ok (.goto (-87), 3) := by decide +kernel
theorem dX1_measureDistances_140 : decode cX1_measureDistances 140 = .ok (.iinc 3 1, 3) := by decide +kernel
theorem dX1_measureDistances_143 : decode cX1_measureDistances 143 = .ok (.goto (-108), 3) := by decide +kernel
theorem dX1_measureDistances_146 : decode cX1_measureDistances 146 = .ok (.return_, 1) := by decide +kernel
theorem dX1_reaches_0 : decode cX1_reaches 0 = .ok (.aload_n 0, 1) := by decide +kernel
theorem dX1_reaches_1 : decode cX1_reaches 1 = .ok (.getfield 21, 3) := by decide +kernel
theorem dX1_reaches_4 : decode cX1_reaches 4 = .ok (.iload_n 2, 1) := by decide +kernel
theorem dX1_reaches_5 : decode cX1_reaches 5 = .ok (.iaload, 1) := by decide +kernel
theorem dX1_reaches_6 : decode cX1_reaches 6 = .ok (.iload_n 3, 1) := by decide +kernel
theorem dX1_reaches_7 : decode cX1_reaches 7 = .ok (.iconst 1, 1) := by decide +kernel
theorem dX1_reaches_8 : decode cX1_reaches 8 = .ok (.isub, 1) := by decide +kernel
theorem dX1_reaches_9 : decode cX1_reaches 9 = .ok (.if_icmp .ne 13, 3) := by decide +kernel
theorem dX1_reaches_12 : decode cX1_reaches 12 = .ok (.aload_n 0, 1) := by decide +kernel
theorem dX1_reaches_13 : decode cX1_reaches 13 = .ok (.getfield 21, 3) := by decide +kernel
theorem dX1_reaches_16 : decode cX1_reaches 16 = .ok (.iload_n 1, 1) := by decide +kernel
theorem dX1_reaches_17 : decode cX1_reaches 17 = .ok (.iaload, 1) := by decide +kernel
theorem dX1_reaches_18 : decode cX1_reaches 18 = .ok (.iload_n 3, 1) := by decide +kernel
theorem dX1_reaches_19 : decode cX1_reaches 19 = .ok (.if_icmp .gt 5, 3) := by decide +kernel
theorem dX1_reaches_22 : decode cX1_reaches 22 = .ok (.iconst 0, 1) := by decide +kernel
theorem dX1_reaches_23 : decode cX1_reaches 23 = .ok (.ireturn, 1) := by decide +kernel
theorem dX1_reaches_24 : decode cX1_reaches 24 = .ok (.aload_n 0, 1) := by decide +kernel
theorem dX1_reaches_25 : decode cX1_reaches 25 = .ok (.getfield 21, 3) := by decide +kernel
theorem dX1_reaches_28 : decode cX1_reaches 28 = .ok (.iload_n 1, 1) := by decide +kernel
theorem dX1_reaches_29 : decode cX1_reaches 29 = .ok (.iload_n 3, 1) := by decide +kernel
theorem dX1_reaches_30 : decode cX1_reaches 30 = .ok (.iastore, 1) := by decide +kernel
theorem dX1_reaches_31 : decode cX1_reaches 31 = .ok (.iconst 1, 1) := by decide +kernel
theorem dX1_reaches_32 : decode cX1_reaches 32 = .ok (.ireturn, 1) := by decide +kernel
theorem dX2_init_0 : decode cX2_init 0 = .ok (.aload_n 0, 1) := by decide +kernel
theorem dX2_init_1 : decode cX2_init 1 = .ok (.invokespecial 3, 3) := by decide +kernel
theorem dX2_init_4 : decode cX2_init 4 = .ok (.aload_n 0, 1) := by decide +kernel
theorem dX2_init_5 : decode cX2_init 5 = .ok (.bipush 16, 2) := by decide +kernel
theorem dX2_init_7 : decode cX2_init 7 = .ok (.newarray .int, 2) := by decide +kernel
theorem dX2_init_9 : decode cX2_init 9 = .ok (.putfield 9, 3) := by decide +kernel
theorem dX2_init_12 : decode cX2_init 12 = .ok (.aload_n 0, 1) := by decide +kernel
theorem dX2_init_13 : decode cX2_init 13 = .ok (.bipush 16, 2) := by decide +kernel
theorem dX2_init_15 : decode cX2_init 15 = .ok (.newarray .int, 2) := by decide +kernel
theorem dX2_init_17 : decode cX2_init 17 = .ok (.putfield 15, 3) := by decide +kernel
theorem dX2_init_20 : decode cX2_init 20 = .ok (.aload_n 0, 1) := by decide +kernel
theorem dX2_init_21 : decode cX2_init 21 = .ok (.ldc 18, 2) := by decide +kernel
theorem dX2_init_23 : decode cX2_init 23 = .ok (.putfield 19, 3) := by decide +kernel
theorem dX2_init_26 : decode cX2_init 26 = .ok (.aload_n 0, 1) := by decide +kernel
theorem dX2_init_27 : decode cX2_init 27 = .ok (.bipush 6, 2) := by decide +kernel
theorem dX2_init_29 : decode cX2_init 29 = .ok (.newarray .int, 2) := by decide +kernel
theorem dX2_init_31 : decode cX2_init 31 = .ok (.putfield 23, 3) := by decide +kernel
theorem dX2_init_34 : decode cX2_init 34 = .ok (.aload_n 0, 1) := by decide +kernel
theorem dX2_init_35 : decode cX2_init 35 = .ok (.iconst 3, 1) := by decide +kernel
theorem dX2_init_36 : decode cX2_init 36 = .ok (.newarray .boolean, 2) := by decide +kernel
theorem dX2_init_38 : decode cX2_init 38 = .ok (.putfield 26, 3) := by decide +kernel
theorem dX2_init_41 : decode cX2_init 41 = .ok (.aload_n 0, 1) := by decide +kernel
theorem dX2_init_42 : decode cX2_init 42 = .ok (.iconst 3, 1) := by decide +kernel
theorem dX2_init_43 : decode cX2_init 43 = .ok (.newarray .int, 2) := by decide +kernel
theorem dX2_init_45 : decode cX2_init 45 = .ok (.putfield 30, 3) := by decide +kernel
theorem dX2_init_48 : decode cX2_init 48 = .ok (.aload_n 0, 1) := by decide +kernel
theorem dX2_init_49 : decode cX2_init 49 = .ok (.iconst 3, 1) := by decide +kernel
theorem dX2_init_50 : decode cX2_init 50 = .ok (.newarray .int, 2) := by decide +kernel
theorem dX2_init_52 : decode cX2_init 52 = .ok (.putfield 33, 3) := by decide +kernel
theorem dX2_init_55 : decode cX2_init 55 = .ok (.aload_n 0, 1) := by decide +kernel
theorem dX2_init_56 : decode cX2_init 56 = .ok (.iconst 3, 1) := by decide +kernel
theorem dX2_init_57 : decode cX2_init 57 = .ok (.newarray .int, 2) := by decide +kernel
theorem dX2_init_59 : decode cX2_init 59 = .ok (.putfield 36, 3) := by decide +kernel
theorem dX2_init_62 : decode cX2_init 62 = .ok (.aload_n 0, 1) := by decide +kernel
theorem dX2_init_63 : decode cX2_init 63 = .ok (.iconst 3, 1) := by decide +kernel
theorem dX2_init_64 : decode cX2_init 64 = .ok (.newarray .int, 2) := by decide +kernel
theorem dX2_init_66 : decode cX2_init 66 = .ok (.putfield 39, 3) := by decide +kernel
theorem dX2_init_69 : decode cX2_init 69 = .ok (.aload_n 0, 1) := by decide +kernel
theorem dX2_init_70 : decode cX2_init 70 = .ok (.iconst 3, 1) := by decide +kernel
theorem dX2_init_71 : decode cX2_init 71 = .ok (.newarray .int, 2) := by decide +kernel
theorem dX2_init_73 : decode cX2_init 73 = .ok (.putfield 42, 3) := by decide +kernel
theorem dX2_init_76 : decode cX2_init 76 = .ok (.return_, 1) := by decide +kernel
theorem dX2_hear_0 : decode cX2_hear 0 = .ok (.aload_n 1, 1) := by decide +kernel
theorem dX2_hear_1 : decode cX2_hear 1 = .ok (.invokevirtual 45, 3) := by decide +kernel
theorem dX2_hear_4 : decode cX2_hear 4 = .ok (.aload_n 0, 1) := by decide +kernel
theorem dX2_hear_5 : decode cX2_hear 5 = .ok (.getfield 50, 3) := by decide +kernel
theorem dX2_hear_8 : decode cX2_hear 8 = .ok (.istore_n 2, 1) := by decide +kernel
theorem dX2_hear_9 : decode cX2_hear 9 = .ok (.iconst 0, 1) := by decide +kernel
theorem dX2_hear_10 : decode cX2_hear 10 = .ok (.istore_n 3, 1) := by decide +kernel
theorem dX2_hear_11 : decode cX2_hear 11 = .ok (.aload_n 1, 1) := by decide +kernel
theorem dX2_hear_12 : decode cX2_hear 12 = .ok (.invokevirtual 53, 3) := by decide +kernel
theorem dX2_hear_15 : decode cX2_hear 15 = .ok (.ifCond .ne 7, 3) := by decide +kernel
theorem dX2_hear_18 : decode cX2_hear 18 = .ok (.iconst 1, 1) := by decide +kernel
theorem dX2_hear_19 : decode cX2_hear 19 = .ok (.goto 4, 3) := by decide +kernel
theorem dX2_hear_22 : decode cX2_hear 22 = .ok (.iconst 0, 1) := by decide +kernel
theorem dX2_hear_23 : decode cX2_hear 23 = .ok (.istore 4, 2) := by decide +kernel
theorem dX2_hear_25 : decode cX2_hear 25 = .ok (.iconst 0, 1) := by decide +kernel
theorem dX2_hear_26 : decode cX2_hear 26 = .ok (.istore 5, 2) := by decide +kernel
theorem dX2_hear_28 : decode cX2_hear 28 = .ok (.iload 4, 2) := by decide +kernel
theorem dX2_hear_30 : decode cX2_hear 30 = .ok (.ifCond .eq 113, 3) := by decide +kernel
theorem dX2_hear_33 : decode cX2_hear 33 = .ok (.iload 5, 2) := by decide +kernel
theorem dX2_hear_35 : decode cX2_hear 35 = .ok (.bipush 16, 2) := by decide +kernel
theorem dX2_hear_37 : decode cX2_hear 37 = .ok (.if_icmp .gt 106, 3) := by decide +kernel
theorem dX2_hear_40 : decode cX2_hear 40 = .ok (.iload_n 2, 1) := by decide +kernel
theorem dX2_hear_41 : decode cX2_hear 41 = .ok (.bipush 16, 2) := by decide +kernel
theorem dX2_hear_43 : decode cX2_hear 43 = .ok (.if_icmp .lt 8, 3) := by decide +kernel
theorem dX2_hear_46 : decode cX2_hear 46 = .ok (.aload_n 1, 1) := by decide +kernel
theorem dX2_hear_47 : decode cX2_hear 47 = .ok (.invokevirtual 57, 3) := by decide +kernel
theorem dX2_hear_50 : decode cX2_hear 50 = .ok (.ireturn, 1) := by decide +kernel
theorem dX2_hear_51 : decode cX2_hear 51 = .ok (.aload_n 1, 1) := by decide +kernel
theorem dX2_hear_52 : decode cX2_hear 52 = .ok (.invokevirtual 61, 3) := by decide +kernel
theorem dX2_hear_55 : decode cX2_hear 55 = .ok (.istore 6, 2) := by decide +kernel
theorem dX2_hear_57 : decode cX2_hear 57 = .ok (.iload 6, 2) := by decide +kernel
theorem dX2_hear_59 : decode cX2_hear 59 = .ok (.iconst (-1), 1) := by decide +kernel
theorem dX2_hear_60 : decode cX2_hear 60 = .ok (.if_icmp .eq 12, 3) := by decide +kernel
theorem dX2_hear_63 : decode cX2_hear 63 = .ok (.aload_n 1, 1) := by decide +kernel
theorem dX2_hear_64 : decode cX2_hear 64 = .ok (.bipush 64, 2) := by decide +kernel
theorem dX2_hear_66 : decode cX2_hear 66 = .ok (.invokevirtual 64, 3) := by decide +kernel
theorem dX2_hear_69 : decode cX2_hear 69 = .ok (.ifCond .ne 8, 3) := by decide +kernel
theorem dX2_hear_72 : decode cX2_hear 72 = .ok (.aload_n 1, 1) := by decide +kernel
theorem dX2_hear_73 : decode cX2_hear 73 = .ok (.invokevirtual 57, 3) := by decide +kernel
theorem dX2_hear_76 : decode cX2_hear 76 = .ok (.ireturn, 1) := by decide +kernel
theorem dX2_hear_77 : decode cX2_hear 77 = .ok (.aload_n 1, 1) := by decide +kernel
theorem dX2_hear_78 : decode cX2_hear 78 = .ok (.bipush 48, 2) := by decide +kernel
theorem dX2_hear_80 : decode cX2_hear 80 = .ok (.bipush 55, 2) := by decide +kernel
theorem dX2_hear_82 : decode cX2_hear 82 = .ok (.invokevirtual 68, 3) := by decide +kernel
theorem dX2_hear_85 : decode cX2_hear 85 = .ok (.istore 7, 2) := by decide +kernel
theorem dX2_hear_87 : decode cX2_hear 87 = .ok (.iload 7, 2) := by decide +kernel
theorem dX2_hear_89 : decode cX2_hear 89 = .ok (.iconst (-1), 1) := by decide +kernel
theorem dX2_hear_90 : decode cX2_hear 90 = .ok (.if_icmp .ne 8, 3) := by decide +kernel
theorem dX2_hear_93 : decode cX2_hear 93 = .ok (.aload_n 1, 1) := by decide +kernel
theorem dX2_hear_94 : decode cX2_hear 94 = .ok (.invokevirtual 57, 3) := by decide +kernel
theorem dX2_hear_97 : decode cX2_hear 97 = .ok (.ireturn, 1) := by decide +kernel
theorem dX2_hear_98 : decode cX2_hear 98 = .ok (.aload_n 0, 1) := by decide +kernel
theorem dX2_hear_99 : decode cX2_hear 99 = .ok (.getfield 9, 3) := by decide +kernel
theorem dX2_hear_102 : decode cX2_hear 102 = .ok (.iload_n 2, 1) := by decide +kernel
theorem dX2_hear_103 : decode cX2_hear 103 = .ok (.iload 6, 2) := by decide +kernel
theorem dX2_hear_105 : decode cX2_hear 105 = .ok (.iastore, 1) := by decide +kernel
theorem dX2_hear_106 : decode cX2_hear 106 = .ok (.aload_n 0, 1) := by decide +kernel
theorem dX2_hear_107 : decode cX2_hear 107 = .ok (.getfield 15, 3) := by decide +kernel
theorem dX2_hear_110 : decode cX2_hear 110 = .ok (.iload_n 2, 1) := by decide +kernel
theorem dX2_hear_111 : decode cX2_hear 111 = .ok (.iload 7, 2) := by decide +kernel
theorem dX2_hear_113 : decode cX2_hear 113 = .ok (.iastore, 1) := by decide +kernel
theorem dX2_hear_114 : decode cX2_hear 114 = .ok (.iload_n 3, 1) := by decide +kernel
theorem dX2_hear_115 : decode cX2_hear 115 = .ok (.iload_n 2, 1) := by decide +kernel
theorem dX2_hear_116 : decode cX2_hear 116 = .ok (.aload_n 1, 1) := by decide +kernel
theorem dX2_hear_117 : decode cX2_hear 117 = .ok (.bipush 63, 2) := by decide +kernel
theorem dX2_hear_119 : decode cX2_hear 119 = .ok (.invokevirtual 64, 3) := by decide +kernel
theorem dX2_hear_122 : decode cX2_hear 122 = .ok (.invokestatic 72, 3) := by decide +kernel
theorem dX2_hear_125 : decode cX2_hear 125 = .ok (.istore_n 3, 1) := by decide +kernel
theorem dX2_hear_126 : decode cX2_hear 126 = .ok (.iinc 2 1, 3) := by decide +kernel
theorem dX2_hear_129 : decode cX2_hear 129 = .ok (.aload_n 1, 1) := by decide +kernel
theorem dX2_hear_130 : decode cX2_hear 130 = .ok (.bipush 59, 2) := by decide +kernel
theorem dX2_hear_132 : decode cX2_hear 132 = .ok (.invokevirtual 64, 3) := by decide +kernel
theorem dX2_hear_135 : decode cX2_hear 135 = .ok (.istore 4, 2) := by decide +kernel
theorem dX2_hear_137 : decode cX2_hear 137 = .ok (.iinc 5 1, 3) := by decide +kernel
theorem dX2_hear_140 : decode cX2_hear 140 = .ok (.goto (-112), 3) := by decide +kernel
theorem dX2_hear_143 : decode cX2_hear 143 = .ok (.aload_n 1, 1) := by decide +kernel
theorem dX2_hear_144 : decode cX2_hear 144 = .ok (.invokevirtual 53, 3) := by decide +kernel
theorem dX2_hear_147 : decode cX2_hear 147 = .ok (.ifCond .ne 8, 3) := by decide +kernel
theorem dX2_hear_150 : decode cX2_hear 150 = .ok (.aload_n 1, 1) := by decide +kernel
theorem dX2_hear_151 : decode cX2_hear 151 = .ok (.invokevirtual 57, 3) := by decide +kernel
theorem dX2_hear_154 : decode cX2_hear 154 = .ok (.ireturn, 1) := by decide +kernel
theorem dX2_hear_155 : decode cX2_hear 155 = .ok (.iload_n 2, 1) := by decide +kernel
theorem dX2_hear_156 : decode cX2_hear 156 = .ok (.aload_n 0, 1) := by decide +kernel
theorem dX2_hear_157 : decode cX2_hear 157 = .ok (.getfield 50, 3) := by decide +kernel
theorem dX2_hear_160 : decode cX2_hear 160 = .ok (.isub, 1) := by decide +kernel
theorem dX2_hear_161 : decode cX2_hear 161 = .ok (.istore 5, 2) := by decide +kernel
theorem dX2_hear_163 : decode cX2_hear 163 = .ok (.aload_n 0, 1) := by decide +kernel
theorem dX2_hear_164 : decode cX2_hear 164 = .ok (.dup, 1) := by decide +kernel
theorem dX2_hear_165 : decode cX2_hear 165 = .ok (.getfield 78, 3) := by decide +kernel
theorem dX2_hear_168 : decode cX2_hear 168 = .ok (.iload_n 3, 1) := by decide +kernel
theorem dX2_hear_169 : decode cX2_hear 169 = .ok (.ior, 1) := by decide +kernel
theorem dX2_hear_170 : decode cX2_hear 170 = .ok (.putfield 78, 3) := by decide +kernel
theorem dX2_hear_173 : decode cX2_hear 173 = .ok (.aload_n 0, 1) := by decide +kernel
theorem dX2_hear_174 : decode cX2_hear 174 = .ok (.iload_n 2, 1) := by decide +kernel
theorem dX2_hear_175 : decode cX2_hear 175 = .ok (.putfield 50, 3) := by decide +kernel
theorem dX2_hear_178 : decode cX2_hear 178 = .ok (.iload 5, 2) := by decide +kernel
theorem dX2_hear_180 : decode cX2_hear 180 = .ok (.ireturn, 1) := by decide +kernel
theorem dX2_tellOf_0 : decode cX2_tellOf 0 = .ok (.iload_n 2, 1) := by decide +kernel
theorem dX2_tellOf_1 : decode cX2_tellOf 1 = .ok (.tableswitch 50 0 2 #[27, 34, 41], 27) := by decide +kernel
theorem dX2_tellOf_28 : decode cX2_tellOf 28 = .ok (.aload_n 0, 1) := by decide +kernel
theorem dX2_tellOf_29 : decode cX2_tellOf 29 = .ok (.getfield 9, 3) := by decide +kernel
theorem dX2_tellOf_32 : decode cX2_tellOf 32 = .ok (.iload_n 1, 1) := by decide +kernel
theorem dX2_tellOf_33 : decode cX2_tellOf 33 = .ok (.iaload, 1) := by decide +kernel
theorem dX2_tellOf_34 : decode cX2_tellOf 34 = .ok (.ireturn, 1) := by decide +kernel
theorem dX2_tellOf_35 : decode cX2_tellOf 35 = .ok (.aload_n 0, 1) := by decide +kernel
theorem dX2_tellOf_36 : decode cX2_tellOf 36 = .ok (.getfield 15, 3) := by decide +kernel
theorem dX2_tellOf_39 : decode cX2_tellOf 39 = .ok (.iload_n 1, 1) := by decide +kernel
theorem dX2_tellOf_40 : decode cX2_tellOf 40 = .ok (.iaload, 1) := by decide +kernel
theorem dX2_tellOf_41 : decode cX2_tellOf 41 = .ok (.ireturn, 1) := by decide +kernel
theorem dX2_tellOf_42 : decode cX2_tellOf 42 = .ok (.aload_n 0, 1) := by decide +kernel
theorem dX2_tellOf_43 : decode cX2_tellOf 43 = .ok (.getfield 78, 3) := by decide +kernel
theorem dX2_tellOf_46 : decode cX2_tellOf 46 = .ok (.iload_n 1, 1) := by decide +kernel
theorem dX2_tellOf_47 : decode cX2_tellOf 47 = .ok (.ishr, 1) := by decide +kernel
theorem dX2_tellOf_48 : decode cX2_tellOf 48 = .ok (.iconst 1, 1) := by decide +kernel
theorem dX2_tellOf_49 : decode cX2_tellOf 49 = .ok (.iand, 1) := by decide +kernel
theorem dX2_tellOf_50 : decode cX2_tellOf 50 = .ok (.ireturn, 1) := by decide +kernel
theorem dX2_tellOf_51 : decode cX2_tellOf 51 = .ok (.aload_n 0, 1) := by decide +kernel
theorem dX2_tellOf_52 : decode cX2_tellOf 52 = .ok (.getfield 81, 3) := by decide +kernel
theorem dX2_tellOf_55 : decode cX2_tellOf 55 = .ok (.iload_n 1, 1) := by decide +kernel
theorem dX2_tellOf_56 : decode cX2_tellOf 56 = .ok (.ishr, 1) := by decide +kernel
theorem dX2_tellOf_57 : decode cX2_tellOf 57 = .ok (.iconst 1, 1) := by decide +kernel
theorem dX2_tellOf_58 : decode cX2_tellOf 58 = .ok (.iand, 1) := by decide +kernel
theorem dX2_tellOf_59 : decode cX2_tellOf 59 = .ok (.ireturn, 1) := by decide +kernel
theorem dX2_everything_0 : decode cX2_everything 0 = .ok (.iconst 1, 1) := by decide +kernel
theorem dX2_everything_1 : decode cX2_everything 1 = .ok (.aload_n 0, 1) := by decide +kernel
theorem dX2_everything_2 : decode cX2_everything 2 = .ok (.getfield 50, 3) := by decide +kernel
theorem dX2_everything_5 : decode cX2_everything 5 = .ok (.ishl, 1) := by decide +kernel
theorem dX2_everything_6 : decode cX2_everything 6 = .ok (.iconst 1, 1) := by decide +kernel
theorem dX2_everything_7 : decode cX2_everything 7 = .ok (.isub, 1) := by decide +kernel
theorem dX2_everything_8 : decode cX2_everything 8 = .ok (.ireturn, 1) := by decide +kernel
theorem dX2_active_0 : decode cX2_active 0 = .ok (.aload_n 0, 1) := by decide +kernel
theorem dX2_active_1 : decode cX2_active 1 = .ok (.invokevirtual 84, 3) := by decide +kernel
theorem dX2_active_4 : decode cX2_active 4 = .ok (.aload_n 0, 1) := by decide +kernel
theorem dX2_active_5 : decode cX2_active 5 = .ok (.getfield 81, 3) := by decide +kernel
theorem dX2_active_8 : decode cX2_active 8 = .ok (.iconst (-1), 1) := by decide +kernel
theorem dX2_active_9 : decode cX2_active 9 = .ok (.ixor, 1) := by decide +kernel
theorem dX2_active_10 : decode cX2_active 10 = .ok (.iand, 1) := by decide +kernel
theorem dX2_active_11 : decode cX2_active 11 = .ok (.ireturn, 1) := by decide +kernel
theorem dX2_activeOf_0 : decode cX2_activeOf 0 = .ok (.iconst 0, 1) := by decide +kernel
theorem dX2_activeOf_1 : decode cX2_activeOf 1 = .ok (.istore_n 2, 1) := by decide +kernel
theorem dX2_activeOf_2 : decode cX2_activeOf 2 = .ok (.iconst 0, 1) := by decide +kernel
theorem dX2_activeOf_3 : decode cX2_activeOf 3 = .ok (.istore_n 3, 1) := by decide +kernel
theorem dX2_activeOf_4 : decode cX2_activeOf 4 = .ok (.iload_n 3, 1) := by decide +kernel
theorem dX2_activeOf_5 : decode cX2_activeOf 5 = .ok (.aload_n 0, 1) := by decide +kernel
theorem dX2_activeOf_6 : decode cX2_activeOf 6 = .ok (.getfield 50, 3) := by decide +kernel
theorem dX2_activeOf_9 : decode cX2_activeOf 9 = .ok (.if_icmp .ge 28, 3) := by decide +kernel
theorem dX2_activeOf_12 : decode cX2_activeOf 12 = .ok (.iload_n 1, 1) := by decide +kernel
theorem dX2_activeOf_13 : decode cX2_activeOf 13 = .ok (.aload_n 0, 1) := by decide +kernel
theorem dX2_activeOf_14 : decode cX2_activeOf 14 = .ok (.getfield 15, 3) := by decide +kernel
theorem dX2_activeOf_17 : decode cX2_activeOf 17 = .ok (.iload_n 3, 1) := by decide +kernel
theorem dX2_activeOf_18 : decode cX2_activeOf 18 = .ok (.iaload, 1) := by decide +kernel
theorem dX2_activeOf_19 : decode cX2_activeOf 19 = .ok (.ishr, 1) := by decide +kernel
theorem dX2_activeOf_20 : decode cX2_activeOf 20 = .ok (.iconst 1, 1) := by decide +kernel
theorem dX2_activeOf_21 : decode cX2_activeOf 21 = .ok (.iand, 1) := by decide +kernel
theorem dX2_activeOf_22 : decode cX2_activeOf 22 = .ok (.ifCond .eq 9, 3) := by decide +kernel
theorem dX2_activeOf_25 : decode cX2_activeOf 25 = .ok (.iload_n 2, 1) := by decide +kernel
theorem dX2_activeOf_26 : decode cX2_activeOf 26 = .ok (.iconst 1, 1) := by decide +kernel
theorem dX2_activeOf_27 : decode cX2_activeOf 27 = .ok (.iload_n 3, 1) := by decide +kernel
theorem dX2_activeOf_28 : decode cX2_activeOf 28 = .ok (.ishl, 1) := by decide +kernel
theorem dX2_activeOf_29 : decode cX2_activeOf 29 = .ok (.ior, 1) := by decide +kernel
theorem dX2_activeOf_30 : decode cX2_activeOf 30 = .ok (.istore_n 2, 1) := by decide +kernel
theorem dX2_activeOf_31 : decode cX2_activeOf 31 = .ok (.iinc 3 1, 3) := by decide +kernel
theorem dX2_activeOf_34 : decode cX2_activeOf 34 = .ok (.goto (-30), 3) := by decide +kernel
theorem dX2_activeOf_37 : decode cX2_activeOf 37 = .ok (.iload_n 2, 1) := by decide +kernel
theorem dX2_activeOf_38 : decode cX2_activeOf 38 = .ok (.aload_n 0, 1) := by decide +kernel
theorem dX2_activeOf_39 : decode cX2_activeOf 39 = .ok (.invokevirtual 87, 3) := by decide +kernel
theorem dX2_activeOf_42 : decode cX2_activeOf 42 = .ok (.iand, 1) := by decide +kernel
theorem dX2_activeOf_43 : decode cX2_activeOf 43 = .ok (.ireturn, 1) := by decide +kernel
theorem dX2_isActive_0 : decode cX2_isActive 0 = .ok (.iload_n 1, 1) := by decide +kernel
theorem dX2_isActive_1 : decode cX2_isActive 1 = .ok (.ifCond .lt 26, 3) := by decide +kernel
theorem dX2_isActive_4 : decode cX2_isActive 4 = .ok (.iload_n 1, 1) := by decide +kernel
theorem dX2_isActive_5 : decode cX2_isActive 5 = .ok (.aload_n 0, 1) := by decide +kernel
theorem dX2_isActive_6 : decode cX2_isActive 6 = .ok (.getfield 50, 3) := by decide +kernel
theorem dX2_isActive_9 : decode cX2_isActive 9 = .ok (.if_icmp .ge 18, 3) := by decide +kernel
theorem dX2_isActive_12 : decode cX2_isActive 12 = .ok (.aload_n 0, 1) := by decide +kernel
theorem dX2_isActive_13 : decode cX2_isActive 13 = .ok (.getfield 81, 3) := by decide +kernel
theorem dX2_isActive_16 : decode cX2_isActive 16 = .ok (.iload_n 1, 1) := by decide +kernel
theorem dX2_isActive_17 : decode cX2_isActive 17 = .ok (.ishr, 1) := by decide +kernel
theorem dX2_isActive_18 : decode cX2_isActive 18 = .ok (.iconst 1, 1) := by decide +kernel
theorem dX2_isActive_19 : decode cX2_isActive 19 = .ok (.iand, 1) := by decide +kernel
theorem dX2_isActive_20 : decode cX2_isActive 20 = .ok (.ifCond .ne 7, 3) := by decide +kernel
theorem dX2_isActive_23 : decode cX2_isActive 23 = .ok (.iconst 1, 1) := by decide +kernel
theorem dX2_isActive_24 : decode cX2_isActive 24 = .ok (.goto 4, 3) := by decide +kernel
theorem dX2_isActive_27 : decode cX2_isActive 27 = .ok (.iconst 0, 1) := by decide +kernel
theorem dX2_isActive_28 : decode cX2_isActive 28 = .ok (.ireturn, 1) := by decide +kernel
theorem dX2_isTold_0 : decode cX2_isTold 0 = .ok (.iconst 0, 1) := by decide +kernel
theorem dX2_isTold_1 : decode cX2_isTold 1 = .ok (.istore_n 2, 1) := by decide +kernel
theorem dX2_isTold_2 : decode cX2_isTold 2 = .ok (.iload_n 2, 1) := by decide +kernel
theorem dX2_isTold_3 : decode cX2_isTold 3 = .ok (.aload_n 0, 1) := by decide +kernel
theorem dX2_isTold_4 : decode cX2_isTold 4 = .ok (.getfield 50, 3) := by decide +kernel
theorem dX2_isTold_7 : decode cX2_isTold 7 = .ok (.if_icmp .ge 21, 3) := by decide +kernel
theorem dX2_isTold_10 : decode cX2_isTold 10 = .ok (.aload_n 0, 1) := by decide +kernel
theorem dX2_isTold_11 : decode cX2_isTold 11 = .ok (.getfield 9, 3) := by decide +kernel
theorem dX2_isTold_14 : decode cX2_isTold 14 = .ok (.iload_n 2, 1) := by decide +kernel
theorem dX2_isTold_15 : decode cX2_isTold 15 = .ok (.iaload, 1) := by decide +kernel
theorem dX2_isTold_16 : decode cX2_isTold 16 = .ok (.iload_n 1, 1) := by decide +kernel
theorem dX2_isTold_17 : decode cX2_isTold 17 = .ok (.if_icmp .ne 5, 3) := by decide +kernel
theorem dX2_isTold_20 : decode cX2_isTold 20 = .ok (.iconst 1, 1) := by decide +kernel
theorem dX2_isTold_21 : decode cX2_isTold 21 = .ok (.ireturn, 1) := by decide +kernel
theorem dX2_isTold_22 : decode cX2_isTold 22 = .ok (.iinc 2 1, 3) := by decide +kernel
theorem dX2_isTold_25 : decode cX2_isTold 25 = .ok (.goto (-23), 3) := by decide +kernel
theorem dX2_isTold_28 : decode cX2_isTold 28 = .ok (.iconst 0, 1) := by decide +kernel
theorem dX2_isTold_29 : decode cX2_isTold 29 = .ok (.ireturn, 1) := by decide +kernel
theorem dX2_isWanted_0 : decode cX2_isWanted 0 = .ok (.iconst 0, 1) := by decide +kernel
theorem dX2_isWanted_1 : decode cX2_isWanted 1 = .ok (.istore_n 2, 1) := by decide +kernel
theorem dX2_isWanted_2 : decode cX2_isWanted 2 = .ok (.iload_n 2, 1) := by decide +kernel
theorem dX2_isWanted_3 : decode cX2_isWanted 3 = .ok (.aload_n 0, 1) := by decide +kernel
theorem dX2_isWanted_4 : decode cX2_isWanted 4 = .ok (.getfield 90, 3) := by decide +kernel
theorem dX2_isWanted_7 : decode cX2_isWanted 7 = .ok (.if_icmp .ge 21, 3) := by decide +kernel
theorem dX2_isWanted_10 : decode cX2_isWanted 10 = .ok (.aload_n 0, 1) := by decide +kernel
theorem dX2_isWanted_11 : decode cX2_isWanted 11 = .ok (.getfield 23, 3) := by decide +kernel
theorem dX2_isWanted_14 : decode cX2_isWanted 14 = .ok (.iload_n 2, 1) := by decide +kernel
theorem dX2_isWanted_15 : decode cX2_isWanted 15 = .ok (.iaload, 1) := by decide +kernel
theorem dX2_isWanted_16 : decode cX2_isWanted 16 = .ok (.iload_n 1, 1) := by decide +kernel
theorem dX2_isWanted_17 : decode cX2_isWanted 17 = .ok (.if_icmp .ne 5, 3) := by decide +kernel
theorem dX2_isWanted_20 : decode cX2_isWanted 20 = .ok (.iconst 1, 1) := by decide +kernel
theorem dX2_isWanted_21 : decode cX2_isWanted 21 = .ok (.ireturn, 1) := by decide +kernel
theorem dX2_isWanted_22 : decode cX2_isWanted 22 = .ok (.iinc 2 1, 3) := by decide +kernel
theorem dX2_isWanted_25 : decode cX2_isWanted 25 = .ok (.goto (-23), 3) := by decide +kernel
theorem dX2_isWanted_28 : decode cX2_isWanted 28 = .ok (.iconst 0, 1) := by decide +kernel
theorem dX2_isWanted_29 : decode cX2_isWanted 29 = .ok (.ireturn, 1) := by decide +kernel
theorem dX2_wish_0 : decode cX2_wish 0 = .ok (.aload_n 0, 1) := by decide +kernel
theorem dX2_wish_1 : decode cX2_wish 1 = .ok (.getfield 90, 3) := by decide +kernel
theorem dX2_wish_4 : decode cX2_wish 4 = .ok (.bipush 6, 2) := by decide +kernel
theorem dX2_wish_6 : decode cX2_wish 6 = .ok (.if_icmp .lt 5, 3) := by decide +kernel
theorem dX2_wish_9 : decode cX2_wish 9 = .ok (.iconst (-1), 1) := by decide +kernel
theorem dX2_wish_10 : decode cX2_wish 10 = .ok (.ireturn, 1) := by decide +kernel
theorem dX2_wish_11 : decode cX2_wish 11 = .ok (.aload_n 0, 1) := by decide +kernel
theorem dX2_wish_12 : decode cX2_wish 12 = .ok (.getfield 23, 3) := by decide +kernel
theorem dX2_wish_15 : decode cX2_wish 15 = .ok (.aload_n 0, 1) := by decide +kernel
theorem dX2_wish_16 : decode cX2_wish 16 = .ok (.getfield 90, 3) := by decide +kernel
theorem dX2_wish_19 : decode cX2_wish 19 = .ok (.iload_n 1, 1) := by decide +kernel
theorem dX2_wish_20 : decode cX2_wish 20 = .ok (.iastore, 1) := by decide +kernel
theorem dX2_wish_21 : decode cX2_wish 21 = .ok (.aload_n 0, 1) := by decide +kernel
theorem dX2_wish_22 : decode cX2_wish 22 = .ok (.dup, 1) := by decide +kernel
theorem dX2_wish_23 : decode cX2_wish 23 = .ok (.getfield 90, 3) := by decide +kernel
theorem dX2_wish_26 : decode cX2_wish 26 = .ok (.iconst 1, 1) := by decide +kernel
theorem dX2_wish_27 : decode cX2_wish 27 = .ok (.iadd, 1) := by decide +kernel
theorem dX2_wish_28 : decode cX2_wish 28 = .ok (.putfield 90, 3) := by decide +kernel
theorem dX2_wish_31 : decode cX2_wish 31 = .ok (.aload_n 0, 1) := by decide +kernel
theorem dX2_wish_32 : decode cX2_wish 32 = .ok (.getfield 90, 3) := by decide +kernel
theorem dX2_wish_35 : decode cX2_wish 35 = .ok (.ireturn, 1) := by decide +kernel
theorem dX2_store_0 : decode cX2_store 0 = .ok (.iload_n 1, 1) := by decide +kernel
theorem dX2_store_1 : decode cX2_store 1 = .ok (.ifCond .lt 8, 3) := by decide +kernel
theorem dX2_store_4 : decode cX2_store 4 = .ok (.iload_n 1, 1) := by decide +kernel
theorem dX2_store_5 : decode cX2_store 5 = .ok (.iconst 3, 1) := by decide +kernel
theorem dX2_store_6 : decode cX2_store 6 = .ok (.if_icmp .lt 5, 3) := by decide +kernel
theorem dX2_store_9 : decode cX2_store 9 = .ok (.iconst 0, 1) := by decide +kernel
theorem dX2_store_10 : decode cX2_store 10 = .ok (.ireturn, 1) := by decide +kernel
theorem dX2_store_11 : decode cX2_store 11 = .ok (.aload_n 0, 1) := by decide +kernel
theorem dX2_store_12 : decode cX2_store 12 = .ok (.getfield 26, 3) := by decide +kernel
theorem dX2_store_15 : decode cX2_store 15 = .ok (.iload_n 1, 1) := by decide +kernel
theorem dX2_store_16 : decode cX2_store 16 = .ok (.iconst 1, 1) := by decide +kernel
theorem dX2_store_17 : decode cX2_store 17 = .ok (.bastore, 1) := by decide +kernel
theorem dX2_store_18 : decode cX2_store 18 = .ok (.aload_n 0, 1) := by decide +kernel
theorem dX2_store_19 : decode cX2_store 19 = .ok (.getfield 30, 3) := by decide +kernel
theorem dX2_store_22 : decode cX2_store 22 = .ok (.iload_n 1, 1) := by decide +kernel
theorem dX2_store_23 : decode cX2_store 23 = .ok (.aload_n 0, 1) := by decide +kernel
theorem dX2_store_24 : decode cX2_store 24 = .ok (.invokevirtual 84, 3) := by decide +kernel
theorem dX2_store_27 : decode cX2_store 27 = .ok (.iastore, 1) := by decide +kernel
theorem dX2_store_28 : decode cX2_store 28 = .ok (.aload_n 0, 1) := by decide +kernel
theorem dX2_store_29 : decode cX2_store 29 = .ok (.getfield 33, 3) := by decide +kernel
theorem dX2_store_32 : decode cX2_store 32 = .ok (.iload_n 1, 1) := by decide +kernel
theorem dX2_store_33 : decode cX2_store 33 = .ok (.aload_n 0, 1) := by decide +kernel
theorem dX2_store_34 : decode cX2_store 34 = .ok (.getfield 78, 3) := by decide +kernel
theorem dX2_store_37 : decode cX2_store 37 = .ok (.iastore, 1) := by decide +kernel
theorem dX2_store_38 : decode cX2_store 38 = .ok (.aload_n 0, 1) := by decide +kernel
theorem dX2_store_39 : decode cX2_store 39 = .ok (.getfield 36, 3) := by decide +kernel
theorem dX2_store_42 : decode cX2_store 42 = .ok (.iload_n 1, 1) := by decide +kernel
theorem dX2_store_43 : decode cX2_store 43 = .ok (.aload_n 0, 1) := by decide +kernel
theorem dX2_store_44 : decode cX2_store 44 = .ok (.getfield 81, 3) := by decide +kernel
theorem dX2_store_47 : decode cX2_store 47 = .ok (.iastore, 1) := by decide +kernel
theorem dX2_store_48 : decode cX2_store 48 = .ok (.aload_n 0, 1) := by decide +kernel
theorem dX2_store_49 : decode cX2_store 49 = .ok (.getfield 39, 3) := by decide +kernel
theorem dX2_store_52 : decode cX2_store 52 = .ok (.iload_n 1, 1) := by decide +kernel
theorem dX2_store_53 : decode cX2_store 53 = .ok (.aload_n 0, 1) := by decide +kernel
theorem dX2_store_54 : decode cX2_store 54 = .ok (.getfield 93, 3) := by decide +kernel
theorem dX2_store_57 : decode cX2_store 57 = .ok (.iastore, 1) := by decide +kernel
theorem dX2_store_58 : decode cX2_store 58 = .ok (.aload_n 0, 1) := by decide +kernel
theorem dX2_store_59 : decode cX2_store 59 = .ok (.getfield 42, 3) := by decide +kernel
theorem dX2_store_62 : decode cX2_store 62 = .ok (.iload_n 1, 1) := by decide +kernel
theorem dX2_store_63 : decode cX2_store 63 = .ok (.aload_n 0, 1) := by decide +kernel
theorem dX2_store_64 : decode cX2_store 64 = .ok (.getfield 19, 3) := by decide +kernel
theorem dX2_store_67 : decode cX2_store 67 = .ok (.iastore, 1) := by decide +kernel
theorem dX2_store_68 : decode cX2_store 68 = .ok (.iconst 1, 1) := by decide +kernel
theorem dX2_store_69 : decode cX2_store 69 = .ok (.ireturn, 1) := by decide +kernel
theorem dX2_restore_0 : decode cX2_restore 0 = .ok (.iload_n 1, 1) := by decide +kernel
theorem dX2_restore_1 : decode cX2_restore 1 = .ok (.ifCond .lt 17, 3) := by decide +kernel
theorem dX2_restore_4 : decode cX2_restore 4 = .ok (.iload_n 1, 1) := by decide +kernel
theorem dX2_restore_5 : decode cX2_restore 5 = .ok (.iconst 3, 1) := by decide +kernel
theorem dX2_restore_6 : decode cX2_restore 6 = .ok (.if_icmp .ge 12, 3) := by decide +kernel
theorem dX2_restore_9 : decode cX2_restore 9 = .ok (.aload_n 0, 1) := by decide +kernel
theorem dX2_restore_10 : decode cX2_restore 10 = .ok (.getfield 26, 3) := by decide +kernel
theorem dX2_restore_13 : decode cX2_restore 13 = .ok (.iload_n 1, 1) := by decide +kernel
theorem dX2_restore_14 : decode cX2_restore 14 = .ok (.baload, 1) := by decide +kernel
theorem dX2_restore_15 : decode cX2_restore 15 = .ok (.ifCond .ne 5, 3) := by decide +kernel
theorem dX2_restore_18 : decode cX2_restore 18 = .ok (.iconst 0, 1) := by decide +kernel
theorem dX2_restore_19 : decode cX2_restore 19 = .ok (.ireturn, 1) := by decide +kernel
theorem dX2_restore_20 : decode cX2_restore 20 = .ok (.aload_n 0, 1) := by decide +kernel
theorem dX2_restore_21 : decode cX2_restore 21 = .ok (.getfield 30, 3) := by decide +kernel
theorem dX2_restore_24 : decode cX2_restore 24 = .ok (.iload_n 1, 1) := by decide +kernel
theorem dX2_restore_25 : decode cX2_restore 25 = .ok (.iaload, 1) := by decide +kernel
theorem dX2_restore_26 : decode cX2_restore 26 = .ok (.iconst (-1), 1) := by decide +kernel
theorem dX2_restore_27 : decode cX2_restore 27 = .ok (.ixor, 1) := by decide +kernel
theorem dX2_restore_28 : decode cX2_restore 28 = .ok (.istore_n 2, 1) := by decide +kernel
theorem dX2_restore_29 : decode cX2_restore 29 = .ok (.aload_n 0, 1) := by decide +kernel
theorem dX2_restore_30 : decode cX2_restore 30 = .ok (.aload_n 0, 1) := by decide +kernel
theorem dX2_restore_31 : decode cX2_restore 31 = .ok (.getfield 33, 3) := by decide +kernel
theorem dX2_restore_34 : decode cX2_restore 34 = .ok (.iload_n 1, 1) := by decide +kernel
theorem dX2_restore_35 : decode cX2_restore 35 = .ok (.iaload, 1) := by decide +kernel
theorem dX2_restore_36 : decode cX2_restore 36 = .ok (.aload_n 0, 1) := by decide +kernel
theorem dX2_restore_37 : decode cX2_restore 37 = .ok (.getfield 78, 3) := by decide +kernel
theorem dX2_restore_40 : decode cX2_restore 40 = .ok (.iload_n 2, 1) := by decide +kernel
theorem dX2_restore_41 : decode cX2_restore 41 = .ok (.iand, 1) := by decide +kernel
theorem dX2_restore_42 : decode cX2_restore 42 = .ok (.ior, 1) := by decide +kernel
theorem dX2_restore_43 : decode cX2_restore 43 = .ok (.putfield 78, 3) := by decide +kernel
theorem dX2_restore_46 : decode cX2_restore 46 = .ok (.aload_n 0, 1) := by decide +kernel
theorem dX2_restore_47 : decode cX2_restore 47 = .ok (.aload_n 0, 1) := by decide +kernel
theorem dX2_restore_48 : decode cX2_restore 48 = .ok (.getfield 36, 3) := by decide +kernel
theorem dX2_restore_51 : decode cX2_restore 51 = .ok (.iload_n 1, 1) := by decide +kernel
theorem dX2_restore_52 : decode cX2_restore 52 = .ok (.iaload, 1) := by decide +kernel
theorem dX2_restore_53 : decode cX2_restore 53 = .ok (.aload_n 0, 1) := by decide +kernel
theorem dX2_restore_54 : decode cX2_restore 54 = .ok (.getfield 81, 3) := by decide +kernel
theorem dX2_restore_57 : decode cX2_restore 57 = .ok (.iload_n 2, 1) := by decide +kernel
theorem dX2_restore_58 : decode cX2_restore 58 = .ok (.iand, 1) := by decide +kernel
theorem dX2_restore_59 : decode cX2_restore 59 = .ok (.ior, 1) := by decide +kernel
theorem dX2_restore_60 : decode cX2_restore 60 = .ok (.putfield 81, 3) := by decide +kernel
theorem dX2_restore_63 : decode cX2_restore 63 = .ok (.aload_n 0, 1) := by decide +kernel
theorem dX2_restore_64 : decode cX2_restore 64 = .ok (.aload_n 0, 1) := by decide +kernel
theorem dX2_restore_65 : decode cX2_restore 65 = .ok (.getfield 39, 3) := by decide +kernel
theorem dX2_restore_68 : decode cX2_restore 68 = .ok (.iload_n 1, 1) := by decide +kernel
theorem dX2_restore_69 : decode cX2_restore 69 = .ok (.iaload, 1) := by decide +kernel
theorem dX2_restore_70 : decode cX2_restore 70 = .ok (.putfield 93, 3) := by decide +kernel
theorem dX2_restore_73 : decode cX2_restore 73 = .ok (.aload_n 0, 1) := by decide +kernel
theorem dX2_restore_74 : decode cX2_restore 74 = .ok (.aload_n 0, 1) := by decide +kernel
theorem dX2_restore_75 : decode cX2_restore 75 = .ok (.getfield 42, 3) := by decide +kernel
theorem dX2_restore_78 : decode cX2_restore 78 = .ok (.iload_n 1, 1) := by decide +kernel
theorem dX2_restore_79 : decode cX2_restore 79 = .ok (.iaload, 1) := by decide +kernel
theorem dX2_restore_80 : decode cX2_restore 80 = .ok (.putfield 19, 3) := by decide +kernel
theorem dX2_restore_83 : decode cX2_restore 83 = .ok (.iconst 1, 1) := by decide +kernel
theorem dX2_restore_84 : decode cX2_restore 84 = .ok (.ireturn, 1) := by decide +kernel
theorem dX3_init_0 : decode cX3_init 0 = .ok (.aload_n 0, 1) := by decide +kernel
theorem dX3_init_1 : decode cX3_init 1 = .ok (.invokespecial 3, 3) := by decide +kernel
theorem dX3_init_4 : decode cX3_init 4 = .ok (.aload_n 0, 1) := by decide +kernel
theorem dX3_init_5 : decode cX3_init 5 = .ok (.bipush 40, 2) := by decide +kernel
theorem dX3_init_7 : decode cX3_init 7 = .ok (.newarray .int, 2) := by decide +kernel
theorem dX3_init_9 : decode cX3_init 9 = .ok (.putfield 11, 3) := by decide +kernel
theorem dX3_init_12 : decode cX3_init 12 = .ok (.aload_n 0, 1) := by decide +kernel
theorem dX3_init_13 : decode cX3_init 13 = .ok (.bipush 40, 2) := by decide +kernel
theorem dX3_init_15 : decode cX3_init 15 = .ok (.newarray .int, 2) := by decide +kernel
theorem dX3_init_17 : decode cX3_init 17 = .ok (.putfield 15, 3) := by decide +kernel
theorem dX3_init_20 : decode cX3_init 20 = .ok (.aload_n 0, 1) := by decide +kernel
theorem dX3_init_21 : decode cX3_init 21 = .ok (.bipush 40, 2) := by decide +kernel
theorem dX3_init_23 : decode cX3_init 23 = .ok (.newarray .int, 2) := by decide +kernel
theorem dX3_init_25 : decode cX3_init 25 = .ok (.putfield 18, 3) := by decide +kernel
theorem dX3_init_28 : decode cX3_init 28 = .ok (.aload_n 0, 1) := by decide +kernel
theorem dX3_init_29 : decode cX3_init 29 = .ok (.bipush 40, 2) := by decide +kernel
theorem dX3_init_31 : decode cX3_init 31 = .ok (.newarray .int, 2) := by decide +kernel
theorem dX3_init_33 : decode cX3_init 33 = .ok (.putfield 21, 3) := by decide +kernel
theorem dX3_init_36 : decode cX3_init 36 = .ok (.aload_n 0, 1) := by decide +kernel
theorem dX3_init_37 : decode cX3_init 37 = .ok (.bipush 40, 2) := by decide +kernel
theorem dX3_init_39 : decode cX3_init 39 = .ok (.newarray .int, 2) := by decide +kernel
theorem dX3_init_41 : decode cX3_init 41 = .ok (.putfield 24, 3) := by decide +kernel
theorem dX3_init_44 : decode cX3_init 44 = .ok (.aload_n 0, 1) := by decide +kernel
theorem dX3_init_45 : decode cX3_init 45 = .ok (.aload_n 1, 1) := by decide +kernel
theorem dX3_init_46 : decode cX3_init 46 = .ok (.putfield 27, 3) := by decide +kernel
theorem dX3_init_49 : decode cX3_init 49 = .ok (.return_, 1) := by decide +kernel
theorem dX3_hear_0 : decode cX3_hear 0 = .ok (.aload_n 0, 1) := by decide +kernel
theorem dX3_hear_1 : decode cX3_hear 1 = .ok (.aload_n 1, 1) := by decide +kernel
theorem dX3_hear_2 : decode cX3_hear 2 = .ok (.invokevirtual 31, 3) := by decide +kernel
theorem dX3_hear_5 : decode cX3_hear 5 = .ok (.istore_n 2, 1) := by decide +kernel
theorem dX3_hear_6 : decode cX3_hear 6 = .ok (.iconst 0, 1) := by decide +kernel
theorem dX3_hear_7 : decode cX3_hear 7 = .ok (.istore_n 3, 1) := by decide +kernel
theorem dX3_hear_8 : decode cX3_hear 8 = .ok (.iload_n 3, 1) := by decide +kernel
theorem dX3_hear_9 : decode cX3_hear 9 = .ok (.iload_n 2, 1) := by decide +kernel
theorem dX3_hear_10 : decode cX3_hear 10 = .ok (.if_icmp .ge 37, 3) := by decide +kernel
theorem dX3_hear_13 : decode cX3_hear 13 = .ok (.aload_n 0, 1) := by decide +kernel
theorem dX3_hear_14 : decode cX3_hear 14 = .ok (.aload_n 0, 1) := by decide +kernel
theorem dX3_hear_15 : decode cX3_hear 15 = .ok (.getfield 35, 3) := by decide +kernel
theorem dX3_hear_18 : decode cX3_hear 18 = .ok (.iload_n 3, 1) := by decide +kernel
theorem dX3_hear_19 : decode cX3_hear 19 = .ok (.iadd, 1) := by decide +kernel
theorem dX3_hear_20 : decode cX3_hear 20 = .ok (.invokevirtual 39, 3) := by decide +kernel
theorem dX3_hear_23 : decode cX3_hear 23 = .ok (.istore 4, 2) := by decide +kernel
theorem dX3_hear_25 : decode cX3_hear 25 = .ok (.iload 4, 2) := by decide +kernel
theorem dX3_hear_27 : decode cX3_hear 27 = .ok (.ifCond .eq 14, 3) := by decide +kernel
theorem dX3_hear_30 : decode cX3_hear 30 = .ok (.bipush (-100), 2) := by decide +kernel
theorem dX3_hear_32 : decode cX3_hear 32 = .ok (.bipush 10, 2) := by decide +kernel
theorem dX3_hear_34 : decode cX3_hear 34 = .ok (.iload_n 3, 1) := by decide +kernel
theorem dX3_hear_35 : decode cX3_hear 35 = .ok (.imul, 1) := by decide +kernel
theorem dX3_hear_36 : decode cX3_hear 36 = .ok (.isub, 1) := by decide +kernel
theorem dX3_hear_37 : decode cX3_hear 37 = .ok (.iload 4, 2) := by decide +kernel
theorem dX3_hear_39 : decode cX3_hear 39 = .ok (.isub, 1) := by decide +kernel
theorem dX3_hear_40 : decode cX3_hear 40 = .ok (.ireturn, 1) := by decide +kernel
theorem dX3_hear_41 : decode cX3_hear 41 = .ok (.iinc 3 1, 3) := by decide +kernel
theorem dX3_hear_44 : decode cX3_hear 44 = .ok (.goto (-36), 3) := by decide +kernel
theorem dX3_hear_47 : decode cX3_hear 47 = .ok (.iload_n 2, 1) := by decide +kernel
theorem dX3_hear_48 : decode cX3_hear 48 = .ok (.ifCond .le 13, 3) := by decide +kernel
theorem dX3_hear_51 : decode cX3_hear 51 = .ok (.aload_n 0, 1) := by decide +kernel
theorem dX3_hear_52 : decode cX3_hear 52 = .ok (.dup, 1) := by decide +kernel
theorem dX3_hear_53 : decode cX3_hear 53 = .ok (.getfield 35, 3) := by decide +kernel
theorem dX3_hear_56 : decode cX3_hear 56 = .ok (.iload_n 2, 1) := by decide +kernel
theorem dX3_hear_57 : decode cX3_hear 57 = .ok (.iadd, 1) := by decide +kernel
theorem dX3_hear_58 : decode cX3_hear 58 = .ok (.putfield 35, 3) := by decide +kernel
theorem dX3_hear_61 : decode cX3_hear 61 = .ok (.iload_n 2, 1) := by decide +kernel
theorem dX3_hear_62 : decode cX3_hear 62 = .ok (.ireturn, 1) := by decide +kernel
theorem dX3_read_0 : decode cX3_read 0 = .ok (.aload_n 1, 1) := by decide +kernel
theorem dX3_read_1 : decode cX3_read 1 = .ok (.invokevirtual 43, 3) := by decide +kernel
theorem dX3_read_4 : decode cX3_read 4 = .ok (.aload_n 0, 1) := by decide +kernel
theorem dX3_read_5 : decode cX3_read 5 = .ok (.getfield 35, 3) := by decide +kernel
theorem dX3_read_8 : decode cX3_read 8 = .ok (.istore_n 2, 1) := by decide +kernel
theorem dX3_read_9 : decode cX3_read 9 = .ok (.aload_n 1, 1) := by decide +kernel
theorem dX3_read_10 : decode cX3_read 10 = .ok (.invokevirtual 48, 3) := by decide +kernel
theorem dX3_read_13 : decode cX3_read 13 = .ok (.ifCond .ne 7, 3) := by decide +kernel
theorem dX3_read_16 : decode cX3_read 16 = .ok (.iconst 1, 1) := by decide +kernel
theorem dX3_read_17 : decode cX3_read 17 = .ok (.goto 4, 3) := by decide +kernel
theorem dX3_read_20 : decode cX3_read 20 = .ok (.iconst 0, 1) := by decide +kernel
theorem dX3_read_21 : decode cX3_read 21 = .ok (.istore_n 3, 1) := by decide +kernel
theorem dX3_read_22 : decode cX3_read 22 = .ok (.iload_n 3, 1) := by decide +kernel
theorem dX3_read_23 : decode cX3_read 23 = .ok (.ifCond .eq 36, 3) := by decide +kernel
theorem dX3_read_26 : decode cX3_read 26 = .ok (.iload_n 2, 1) := by decide +kernel
theorem dX3_read_27 : decode cX3_read 27 = .ok (.bipush 40, 2) := by decide +kernel
theorem dX3_read_29 : decode cX3_read 29 = .ok (.if_icmp .ge 30, 3) := by decide +kernel
theorem dX3_read_32 : decode cX3_read 32 = .ok (.aload_n 0, 1) := by decide +kernel
theorem dX3_read_33 : decode cX3_read 33 = .ok (.aload_n 1, 1) := by decide +kernel
theorem dX3_read_34 : decode cX3_read 34 = .ok (.iload_n 2, 1) := by decide +kernel
theorem dX3_read_35 : decode cX3_read 35 = .ok (.invokevirtual 52, 3) := by decide +kernel
theorem dX3_read_38 : decode cX3_read 38 = .ok (.ifCond .ne 8, 3) := by decide +kernel
theorem dX3_read_41 : decode cX3_read 41 = .ok (.aload_n 1, 1) := by decide +kernel
theorem dX3_read_42 : decode cX3_read 42 = .ok (.invokevirtual 56, 3) := by decide +kernel
theorem dX3_read_45 : decode cX3_read 45 = .ok (.ireturn, 1) := by decide +kernel
theorem dX3_read_46 : decode cX3_read 46 = .ok (.iinc 2 1, 3) := by decide +kernel
theorem dX3_read_49 : decode cX3_read 49 = .ok (.aload_n 1, 1) := by decide +kernel
theorem dX3_read_50 : decode cX3_read 50 = .ok (.bipush 59, 2) := by decide +kernel
theorem dX3_read_52 : decode cX3_read 52 = .ok (.invokevirtual 60, 3) := by decide +kernel
theorem dX3_read_55 : decode cX3_read 55 = .ok (.istore_n 3, 1) := by decide +kernel
theorem dX3_read_56 : decode cX3_read 56 = .ok (.goto (-34), 3) := by decide +kernel
theorem dX3_read_59 : decode cX3_read 59 = .ok (.aload_n 1, 1) := by decide +kernel
theorem dX3_read_60 : decode cX3_read 60 = .ok (.invokevirtual 48, 3) := by decide +kernel
theorem dX3_read_63 : decode cX3_read 63 = .ok (.ifCond .eq 12, 3) := by decide +kernel
theorem dX3_read_66 : decode cX3_read 66 = .ok (.iload_n 2, 1) := by decide +kernel
theorem dX3_read_67 : decode cX3_read 67 = .ok (.aload_n 0, 1) := by decide +kernel
theorem dX3_read_68 : decode cX3_read 68 = .ok (.getfield 35, 3) := by decide +kernel
theorem dX3_read_71 : decode cX3_read 71 = .ok (.isub, 1) := by decide +kernel
theorem dX3_read_72 : decode cX3_read 72 = .ok (.goto 7, 3) := by decide +kernel
theorem dX3_read_75 : decode cX3_read 75 = .ok (.aload_n 1, 1) := by decide +kernel
theorem dX3_read_76 : decode cX3_read 76 = .ok (.invokevirtual 56, 3) := by decide +kernel
theorem dX3_read_79 : decode cX3_read 79 = .ok (.ireturn, 1) := by decide +kernel
theorem dX3_readLine_0 : decode cX3_readLine 0 = .ok (.aload_n 0, 1) := by decide +kernel
theorem dX3_readLine_1 : decode cX3_readLine 1 = .ok (.getfield 15, 3) := by decide +kernel
theorem dX3_readLine_4 : decode cX3_readLine 4 = .ok (.iload_n 2, 1) := by decide +kernel
theorem dX3_readLine_5 : decode cX3_readLine 5 = .ok (.aload_n 1, 1) := by decide +kernel
theorem dX3_readLine_6 : decode cX3_readLine 6 = .ok (.bipush 48, 2) := by decide +kernel
theorem dX3_readLine_8 : decode cX3_readLine 8 = .ok (.bipush 51, 2) := by decide +kernel
theorem dX3_readLine_10 : decode cX3_readLine 10 = .ok (.invokevirtual 64, 3) := by decide +kernel
theorem dX3_readLine_13 : decode cX3_readLine 13 = .ok (.iastore, 1) := by decide +kernel
theorem dX3_readLine_14 : decode cX3_readLine 14 = .ok (.aload_n 0, 1) := by decide +kernel
theorem dX3_readLine_15 : decode cX3_readLine 15 = .ok (.getfield 15, 3) := by decide +kernel
theorem dX3_readLine_18 : decode cX3_readLine 18 = .ok (.iload_n 2, 1) := by decide +kernel
theorem dX3_readLine_19 : decode cX3_readLine 19 = .ok (.iaload, 1) := by decide +kernel
theorem dX3_readLine_20 : decode cX3_readLine 20 = .ok (.iconst (-1), 1) := by decide +kernel
theorem dX3_readLine_21 : decode cX3_readLine 21 = .ok (.if_icmp .eq 12, 3) := by decide +kernel
theorem dX3_readLine_24 : decode cX3_readLine 24 = .ok (.aload_n 1, 1) := by decide +kernel
theorem dX3_readLine_25 : decode cX3_readLine 25 = .ok (.bipush 58, 2) := by decide +kernel
theorem dX3_readLine_27 : decode cX3_readLine 27 = .ok (.invokevirtual 60, 3) := by decide +kernel
theorem dX3_readLine_30 : decode cX3_readLine 30 = .ok (.ifCond .ne 5, 3) := by decide +kernel
theorem dX3_readLine_33 : decode cX3_readLine 33 = .ok (.iconst 0, 1) := by decide +kernel
theorem dX3_readLine_34 : decode cX3_readLine 34 = .ok (.ireturn, 1) := by decide +kernel
theorem dX3_readLine_35 : decode cX3_readLine 35 = .ok (.aload_n 0, 1) := by decide +kernel
theorem dX3_readLine_36 : decode cX3_readLine 36 = .ok (.getfield 18, 3) := by decide +kernel
theorem dX3_readLine_39 : decode cX3_readLine 39 = .ok (.iload_n 2, 1) := by decide +kernel
theorem dX3_readLine_40 : decode cX3_readLine 40 = .ok (.aload_n 1, 1) := by decide +kernel
theorem dX3_readLine_41 : decode cX3_readLine 41 = .ok (.invokevirtual 68, 3) := by decide +kernel
theorem dX3_readLine_44 : decode cX3_readLine 44 = .ok (.iastore, 1) := by decide +kernel
theorem dX3_readLine_45 : decode cX3_readLine 45 = .ok (.aload_n 0, 1) := by decide +kernel
theorem dX3_readLine_46 : decode cX3_readLine 46 = .ok (.getfield 18, 3) := by decide +kernel
theorem dX3_readLine_49 : decode cX3_readLine 49 = .ok (.iload_n 2, 1) := by decide +kernel
theorem dX3_readLine_50 : decode cX3_readLine 50 = .ok (.iaload, 1) := by decide +kernel
theorem dX3_readLine_51 : decode cX3_readLine 51 = .ok (.iconst (-1), 1) := by decide +kernel
theorem dX3_readLine_52 : decode cX3_readLine 52 = .ok (.if_icmp .ne 5, 3) := by decide +kernel
theorem dX3_readLine_55 : decode cX3_readLine 55 = .ok (.iconst 0, 1) := by decide +kernel
theorem dX3_readLine_56 : decode cX3_readLine 56 = .ok (.ireturn, 1) := by decide +kernel
theorem dX3_readLine_57 : decode cX3_readLine 57 = .ok (.aload_n 0, 1) := by decide +kernel
theorem dX3_readLine_58 : decode cX3_readLine 58 = .ok (.getfield 21, 3) := by decide +kernel
theorem dX3_readLine_61 : decode cX3_readLine 61 = .ok (.iload_n 2, 1) := by decide +kernel
theorem dX3_readLine_62 : decode cX3_readLine 62 = .ok (.iconst (-1), 1) := by decide +kernel
theorem dX3_readLine_63 : decode cX3_readLine 63 = .ok (.iastore, 1) := by decide +kernel
theorem dX3_readLine_64 : decode cX3_readLine 64 = .ok (.aload_n 1, 1) := by decide +kernel
theorem dX3_readLine_65 : decode cX3_readLine 65 = .ok (.bipush 43, 2) := by decide +kernel
theorem dX3_readLine_67 : decode cX3_readLine 67 = .ok (.invokevirtual 60, 3) := by decide +kernel
theorem dX3_readLine_70 : decode cX3_readLine 70 = .ok (.ifCond .eq 25, 3) := by decide +kernel
theorem dX3_readLine_73 : decode cX3_readLine 73 = .ok (.aload_n 0, 1) := by decide +kernel
theorem dX3_readLine_74 : decode cX3_readLine 74 = .ok (.getfield 21, 3) := by decide +kernel
theorem dX3_readLine_77 : decode cX3_readLine 77 = .ok (.iload_n 2, 1) := by decide +kernel
theorem dX3_readLine_78 : decode cX3_readLine 78 = .ok (.aload_n 1, 1) := by decide +kernel
theorem dX3_readLine_79 : decode cX3_readLine 79 = .ok (.invokevirtual 68, 3) := by decide +kernel
theorem dX3_readLine_82 : decode cX3_readLine 82 = .ok (.iastore, 1) := by decide +kernel
theorem dX3_readLine_83 : decode cX3_readLine 83 = .ok (.aload_n 0, 1) := by decide +kernel
theorem dX3_readLine_84 : decode cX3_readLine 84 = .ok (.getfield 21, 3) := by decide +kernel
theorem dX3_readLine_87 : decode cX3_readLine 87 = .ok (.iload_n 2, 1) := by decide +kernel
theorem dX3_readLine_88 : decode cX3_readLine 88 = .ok (.iaload, 1) := by decide +kernel
theorem dX3_readLine_89 : decode cX3_readLine 89 = .ok (.iconst (-1), 1) := by decide +kernel
theorem dX3_readLine_90 : decode cX3_readLine 90 = .ok (.if_icmp .ne 5, 3) := by decide +kernel
theorem dX3_readLine_93 : decode cX3_readLine 93 = .ok (.iconst 0, 1) := by decide +kernel
theorem dX3_readLine_94 : decode cX3_readLine 94 = .ok (.ireturn, 1) := by decide +kernel
theorem dX3_readLine_95 : decode cX3_readLine 95 = .ok (.aload_n 0, 1) := by decide +kernel
theorem dX3_readLine_96 : decode cX3_readLine 96 = .ok (.getfield 11, 3) := by decide +kernel
theorem dX3_readLine_99 : decode cX3_readLine 99 = .ok (.iload_n 2, 1) := by decide +kernel
theorem dX3_readLine_100 : decode cX3_readLine 100 = .ok (.aload_n 1, 1) := by decide +kernel
theorem dX3_readLine_101 : decode cX3_readLine 101 = .ok (.invokevirtual 71, 3) := by decide +kernel
theorem dX3_readLine_104 : decode cX3_readLine 104 = .ok (.iastore, 1) := by decide +kernel
theorem dX3_readLine_105 : decode cX3_readLine 105 = .ok (.aload_n 0, 1) := by decide +kernel
theorem dX3_readLine_106 : decode cX3_readLine 106 = .ok (.getfield 11, 3) := by decide +kernel
theorem dX3_readLine_109 : decode cX3_readLine 109 = .ok (.iload_n 2, 1) := by decide +kernel
theorem dX3_readLine_110 : decode cX3_readLine 110 = .ok (.iaload, 1) := by decide +kernel
theorem dX3_readLine_111 : decode cX3_readLine 111 = .ok (.iconst (-1), 1) := by decide +kernel
theorem dX3_readLine_112 : decode cX3_readLine 112 = .ok (.if_icmp .eq 7, 3) := by decide +kernel
theorem dX3_readLine_115 : decode cX3_readLine 115 = .ok (.iconst 1, 1) := by decide +kernel
theorem dX3_readLine_116 : decode cX3_readLine 116 = .ok (.goto 4, 3) := by decide +kernel
theorem dX3_readLine_119 : decode cX3_readLine 119 = .ok (.iconst 0, 1) := by decide +kernel
theorem dX3_readLine_120 : decode cX3_readLine 120 = .ok (.ireturn, 1) := by decide +kernel
theorem dX3_weigh_0 : decode cX3_weigh 0 = .ok (.aload_n 0, 1) := by decide +kernel
theorem dX3_weigh_1 : decode cX3_weigh 1 = .ok (.aload_n 0, 1) := by decide +kernel
theorem dX3_weigh_2 : decode cX3_weigh 2 = .ok (.getfield 18, 3) := by decide +kernel
theorem dX3_weigh_5 : decode cX3_weigh 5 = .ok (.iload_n 1, 1) := by decide +kernel
theorem dX3_weigh_6 : decode cX3_weigh 6 = .ok (.iaload, 1) := by decide +kernel
theorem dX3_weigh_7 : decode cX3_weigh 7 = .ok (.iload_n 1, 1) := by decide +kernel
theorem dX3_weigh_8 : decode cX3_weigh 8 = .ok (.invokevirtual 74, 3) := by decide +kernel
theorem dX3_weigh_11 : decode cX3_weigh 11 = .ok (.ifCond .eq 27, 3) := by decide +kernel
theorem dX3_weigh_14 : decode cX3_weigh 14 = .ok (.aload_n 0, 1) := by decide +kernel
theorem dX3_weigh_15 : decode cX3_weigh 15 = .ok (.getfield 21, 3) := by decide +kernel
theorem dX3_weigh_18 : decode cX3_weigh 18 = .ok (.iload_n 1, 1) := by decide +kernel
theorem dX3_weigh_19 : decode cX3_weigh 19 = .ok (.iaload, 1) := by decide +kernel
theorem dX3_weigh_20 : decode cX3_weigh 20 = .ok (.iconst (-1), 1) := by decide +kernel
theorem dX3_weigh_21 : decode cX3_weigh 21 = .ok (.if_icmp .eq 19, 3) := by decide +kernel
theorem dX3_weigh_24 : decode cX3_weigh 24 = .ok (.aload_n 0, 1) := by decide +kernel
theorem dX3_weigh_25 : decode cX3_weigh 25 = .ok (.aload_n 0, 1) := by decide +kernel
theorem dX3_weigh_26 : decode cX3_weigh 26 = .ok (.getfield 21, 3) := by decide +kernel
theorem dX3_weigh_29 : decode cX3_weigh 29 = .ok (.iload_n 1, 1) := by decide +kernel
theorem dX3_weigh_30 : decode cX3_weigh 30 = .ok (.iaload, 1) := by decide +kernel
theorem dX3_weigh_31 : decode cX3_weigh 31 = .ok (.iload_n 1, 1) := by decide +kernel
theorem dX3_weigh_32 : decode cX3_weigh 32 = .ok (.invokevirtual 74, 3) := by decide +kernel
theorem dX3_weigh_35 : decode cX3_weigh 35 = .ok (.ifCond .ne 5, 3) := by decide +kernel
theorem dX3_weigh_38 : decode cX3_weigh 38 = .ok (.iconst 1, 1) := by decide +kernel
theorem dX3_weigh_39 : decode cX3_weigh 39 = .ok (.ireturn, 1) := by decide +kernel
theorem dX3_weigh_40 : decode cX3_weigh 40 = .ok (.iload_n 1, 1) := by decide +kernel
theorem dX3_weigh_41 : decode cX3_weigh 41 = .ok (.bipush 24, 2) := by decide +kernel
theorem dX3_weigh_43 : decode cX3_weigh 43 = .ok (.if_icmp .lt 5, 3) := by decide +kernel
theorem dX3_weigh_46 : decode cX3_weigh 46 = .ok (.iconst 2, 1) := by decide +kernel
theorem dX3_weigh_47 : decode cX3_weigh 47 = .ok (.ireturn, 1) := by decide +kernel
theorem dX3_weigh_48 : decode cX3_weigh 48 = .ok (.aload_n 0, 1) := by decide +kernel
theorem dX3_weigh_49 : decode cX3_weigh 49 = .ok (.aload_n 0, 1) := by decide +kernel
theorem dX3_weigh_50 : decode cX3_weigh 50 = .ok (.getfield 18, 3) := by decide +kernel
theorem dX3_weigh_53 : decode cX3_weigh 53 = .ok (.iload_n 1, 1) := by decide +kernel
theorem dX3_weigh_54 : decode cX3_weigh 54 = .ok (.iaload, 1) := by decide +kernel
theorem dX3_weigh_55 : decode cX3_weigh 55 = .ok (.invokevirtual 78, 3) := by decide +kernel
theorem dX3_weigh_58 : decode cX3_weigh 58 = .ok (.istore_n 2, 1) := by decide +kernel
theorem dX3_weigh_59 : decode cX3_weigh 59 = .ok (.aload_n 0, 1) := by decide +kernel
theorem dX3_weigh_60 : decode cX3_weigh 60 = .ok (.getfield 21, 3) := by decide +kernel
theorem dX3_weigh_63 : decode cX3_weigh 63 = .ok (.iload_n 1, 1) := by decide +kernel
theorem dX3_weigh_64 : decode cX3_weigh 64 = .ok (.iaload, 1) := by decide +kernel
theorem dX3_weigh_65 : decode cX3_weigh 65 = .ok (.iconst (-1), 1) := by decide +kernel
theorem dX3_weigh_66 : decode cX3_weigh 66 = .ok (.if_icmp .ne 28, 3) := by decide +kernel
theorem dX3_weigh_69 : decode cX3_weigh 69 = .ok (.iload_n 2, 1) := by decide +kernel
theorem dX3_weigh_70 : decode cX3_weigh 70 = .ok (.aload_n 0, 1) := by decide +kernel
theorem dX3_weigh_71 : decode cX3_weigh 71 = .ok (.getfield 11, 3) := by decide +kernel
theorem dX3_weigh_74 : decode cX3_weigh 74 = .ok (.iload_n 1, 1) := by decide +kernel
theorem dX3_weigh_75 : decode cX3_weigh 75 = .ok (.iaload, 1) := by decide +kernel
theorem dX3_weigh_76 : decode cX3_weigh 76 = .ok (.invokestatic 81, 3) := by decide +kernel
theorem dX3_weigh_79 : decode cX3_weigh 79 = .ok (.ifCond .eq 13, 3) := by decide +kernel
theorem dX3_weigh_82 : decode cX3_weigh 82 = .ok (.aload_n 0, 1) := by decide +kernel
theorem dX3_weigh_83 : decode cX3_weigh 83 = .ok (.iload_n 1, 1) := by decide +kernel
theorem dX3_weigh_84 : decode cX3_weigh 84 = .ok (.iload_n 2, 1) := by decide +kernel
theorem dX3_weigh_85 : decode cX3_weigh 85 = .ok (.iconst (-1), 1) := by decide +kernel
theorem dX3_weigh_86 : decode cX3_weigh 86 = .ok (.invokevirtual 84, 3) := by decide +kernel
theorem dX3_weigh_89 : decode cX3_weigh 89 = .ok (.goto 4, 3) := by decide +kernel
theorem dX3_weigh_92 : decode cX3_weigh 92 = .ok (.iconst 3, 1) := by decide +kernel
theorem dX3_weigh_93 : decode cX3_weigh 93 = .ok (.ireturn, 1) := by decide +kernel
theorem dX3_weigh_94 : decode cX3_weigh 94 = .ok (.aload_n 0, 1) := by decide +kernel
theorem dX3_weigh_95 : decode cX3_weigh 95 = .ok (.aload_n 0, 1) := by decide +kernel
theorem dX3_weigh_96 : decode cX3_weigh 96 = .ok (.getfield 21, 3) := by decide +kernel
theorem dX3_weigh_99 : decode cX3_weigh 99 = .ok (.iload_n 1, 1) := by decide +kernel
theorem dX3_weigh_100 : decode cX3_weigh 100 = .ok (.iaload, 1) := by decide +kernel
theorem dX3_weigh_101 : decode cX3_weigh 101 = .ok (.invokevirtual 78, 3) := by decide +kernel
theorem dX3_weigh_104 : decode cX3_weigh 104 = .ok (.istore_n 3, 1) := by decide +kernel
theorem dX3_weigh_105 : decode cX3_weigh 105 = .ok (.iload_n 2, 1) := by decide +kernel
theorem dX3_weigh_106 : decode cX3_weigh 106 = .ok (.iload_n 3, 1) := by decide +kernel
theorem dX3_weigh_107 : decode cX3_weigh 107 = .ok (.aload_n 0, 1) := by decide +kernel
theorem dX3_weigh_108 : decode cX3_weigh 108 = .ok (.getfield 11, 3) := by decide +kernel
theorem dX3_weigh_111 : decode cX3_weigh 111 = .ok (.iload_n 1, 1) := by decide +kernel
theorem dX3_weigh_112 : decode cX3_weigh 112 = .ok (.iaload, 1) := by decide +kernel
theorem dX3_weigh_113 : decode cX3_weigh 113 = .ok (.invokestatic 88, 3) := by decide +kernel
theorem dX3_weigh_116 : decode cX3_weigh 116 = .ok (.ifCond .ne 19, 3) := by decide +kernel
theorem dX3_weigh_119 : decode cX3_weigh 119 = .ok (.iload_n 3, 1) := by decide +kernel
theorem dX3_weigh_120 : decode cX3_weigh 120 = .ok (.iload_n 2, 1) := by decide +kernel
theorem dX3_weigh_121 : decode cX3_weigh 121 = .ok (.aload_n 0, 1) := by decide +kernel
theorem dX3_weigh_122 : decode cX3_weigh 122 = .ok (.getfield 11, 3) := by decide +kernel
theorem dX3_weigh_125 : decode cX3_weigh 125 = .ok (.iload_n 1, 1) := by decide +kernel
theorem dX3_weigh_126 : decode cX3_weigh 126 = .ok (.iaload, 1) := by decide +kernel
theorem dX3_weigh_127 : decode cX3_weigh 127 = .ok (.invokestatic 88, 3) := by decide +kernel
theorem dX3_weigh_130 : decode cX3_weigh 130 = .ok (.ifCond .ne 5, 3) := by decide +kernel
theorem dX3_weigh_133 : decode cX3_weigh 133 = .ok (.iconst 3, 1) := by decide +kernel
theorem dX3_weigh_134 : decode cX3_weigh 134 = .ok (.ireturn, 1) := by decide +kernel
theorem dX3_weigh_135 : decode cX3_weigh 135 = .ok (.aload_n 0, 1) := by decide +kernel
theorem dX3_weigh_136 : decode cX3_weigh 136 = .ok (.iload_n 1, 1) := by decide +kernel
theorem dX3_weigh_137 : decode cX3_weigh 137 = .ok (.iload_n 2, 1) := by decide +kernel
theorem dX3_weigh_138 : decode cX3_weigh 138 = .ok (.iload_n 3, 1) := by decide +kernel
theorem dX3_weigh_139 : decode cX3_weigh 139 = .ok (.invokevirtual 84, 3) := by decide +kernel
theorem dX3_weigh_142 : decode cX3_weigh 142 = .ok (.ireturn, 1) := by decide +kernel
theorem dX3_isKnown_0 : decode cX3_isKnown 0 = .ok (.iload_n 1, 1) := by decide +kernel
theorem dX3_isKnown_1 : decode cX3_isKnown 1 = .ok (.bipush 16, 2) := by decide +kernel
theorem dX3_isKnown_3 : decode cX3_isKnown 3 = .ok (.if_icmp .ge 14, 3) := by decide +kernel
theorem dX3_isKnown_6 : decode cX3_isKnown 6 = .ok (.aload_n 0, 1) := by decide +kernel
theorem dX3_isKnown_7 : decode cX3_isKnown 7 = .ok (.getfield 27, 3) := by decide +kernel
theorem dX3_isKnown_10 : decode cX3_isKnown 10 = .ok (.iload_n 1, 1) := by decide +kernel
theorem dX3_isKnown_11 : decode cX3_isKnown 11 = .ok (.invokevirtual 92, 3) := by decide +kernel
theorem dX3_isKnown_14 : decode cX3_isKnown 14 = .ok (.goto 16, 3) := by decide +kernel
theorem dX3_isKnown_17 : decode cX3_isKnown 17 = .ok (.iload_n 1, 1) := by decide +kernel
theorem dX3_isKnown_18 : decode cX3_isKnown 18 = .ok (.bipush 16, 2) := by decide +kernel
theorem dX3_isKnown_20 : decode cX3_isKnown 20 = .ok (.isub, 1) := by decide +kernel
theorem dX3_isKnown_21 : decode cX3_isKnown 21 = .ok (.iload_n 2, 1) := by decide +kernel
theorem dX3_isKnown_22 : decode cX3_isKnown 22 = .ok (.if_icmp .ge 7, 3) := by decide +kernel
theorem dX3_isKnown_25 : decode cX3_isKnown 25 = .ok (.iconst 1, 1) := by decide +kernel
theorem dX3_isKnown_26 : decode cX3_isKnown 26 = .ok (.goto 4, 3) := by decide +kernel
theorem dX3_isKnown_29 : decode cX3_isKnown 29 = .ok (.iconst 0, 1) := by decide +kernel
theorem dX3_isKnown_30 : decode cX3_isKnown 30 = .ok (.ireturn, 1) := by decide +kernel
theorem dX3_codeOf_0 : decode cX3_codeOf 0 = .ok (.iload_n 1, 1) := by decide +kernel
theorem dX3_codeOf_1 : decode cX3_codeOf 1 = .ok (.bipush 16, 2) := by decide +kernel
theorem dX3_codeOf_3 : decode cX3_codeOf 3 = .ok (.if_icmp .ge 15, 3) := by decide +kernel
theorem dX3_codeOf_6 : decode cX3_codeOf 6 = .ok (.aload_n 0, 1) := by decide +kernel
theorem dX3_codeOf_7 : decode cX3_codeOf 7 = .ok (.getfield 27, 3) := by decide +kernel
theorem dX3_codeOf_10 : decode cX3_codeOf 10 = .ok (.getfield 98, 3) := by decide +kernel
theorem dX3_codeOf_13 : decode cX3_codeOf 13 = .ok (.iload_n 1, 1) := by decide +kernel
theorem dX3_codeOf_14 : decode cX3_codeOf 14 = .ok (.iaload, 1) := by decide +kernel
theorem dX3_codeOf_15 : decode cX3_codeOf 15 = .ok (.goto 12, 3) := by decide +kernel
theorem dX3_codeOf_18 : decode cX3_codeOf 18 = .ok (.aload_n 0, 1) := by decide +kernel
theorem dX3_codeOf_19 : decode cX3_codeOf 19 = .ok (.getfield 11, 3) := by decide +kernel
theorem dX3_codeOf_22 : decode cX3_codeOf 22 = .ok (.iload_n 1, 1) := by decide +kernel
theorem dX3_codeOf_23 : decode cX3_codeOf 23 = .ok (.bipush 16, 2) := by decide +kernel
theorem dX3_codeOf_25 : decode cX3_codeOf 25 = .ok (.isub, 1) := by decide +kernel
theorem dX3_codeOf_26 : decode cX3_codeOf 26 = .ok (.iaload, 1) := by decide +kernel
theorem dX3_codeOf_27 : decode cX3_codeOf 27 = .ok (.ireturn, 1) := by decide +kernel
theorem dX3_hasTermsOfOne_0 : decode cX3_hasTermsOfOne 0 = .ok (.iload_n 0, 1) := by decide +kernel
theorem dX3_hasTermsOfOne_1 : decode cX3_hasTermsOfOne 1 = .ok (.invokestatic 99, 3) := by decide +kernel
theorem dX3_hasTermsOfOne_4 : decode cX3_hasTermsOfOne 4 = .ok (.istore_n 2, 1) := by decide +kernel
theorem dX3_hasTermsOfOne_5 : decode cX3_hasTermsOfOne 5 = .ok (.iload_n 0, 1) := by decide +kernel
theorem dX3_hasTermsOfOne_6 : decode cX3_hasTermsOfOne 6 = .ok (.invokestatic 104, 3) := by decide +kernel
theorem dX3_hasTermsOfOne_9 : decode cX3_hasTermsOfOne 9 = .ok (.istore_n 3, 1) := by decide +kernel
theorem dX3_hasTermsOfOne_10 : decode cX3_hasTermsOfOne 10 = .ok (.iload_n 1, 1) := by decide +kernel
theorem dX3_hasTermsOfOne_11 : decode cX3_hasTermsOfOne 11 = .ok (.invokestatic 99, 3) := by decide +kernel
theorem dX3_hasTermsOfOne_14 : decode cX3_hasTermsOfOne 14 = .ok (.istore 4, 2) := by decide +kernel
theorem dX3_hasTermsOfOne_16 : decode cX3_hasTermsOfOne 16 = .ok (.iload_n 1, 1) := by decide +kernel
theorem dX3_hasTermsOfOne_17 : decode cX3_hasTermsOfOne 17 = .ok (.invokestatic 104, 3) := by decide +kernel
theorem dX3_hasTermsOfOne_20 : decode cX3_hasTermsOfOne 20 = .ok (.istore 5, 2) := by decide +kernel
theorem dX3_hasTermsOfOne_22 : decode cX3_hasTermsOfOne 22 = .ok (.iload 4, 2) := by decide +kernel
theorem dX3_hasTermsOfOne_24 : decode cX3_hasTermsOfOne 24 = .ok (.iload_n 3, 1) := by decide +kernel
theorem dX3_hasTermsOfOne_25 : decode cX3_hasTermsOfOne 25 = .ok (.if_icmp .ne 9, 3) := by decide +kernel
theorem dX3_hasTermsOfOne_28 : decode cX3_hasTermsOfOne 28 = .ok (.iload 5, 2) := by decide +kernel
theorem dX3_hasTermsOfOne_30 : decode cX3_hasTermsOfOne 30 = .ok (.iload_n 2, 1) := by decide +kernel
theorem dX3_hasTermsOfOne_31 : decode cX3_hasTermsOfOne 31 = .ok (.if_icmp .eq 23, 3) := by decide +kernel
theorem dX3_hasTermsOfOne_34 : decode cX3_hasTermsOfOne 34 = .ok (.iload 4, 2) := by decide +kernel
theorem dX3_hasTermsOfOne_36 : decode cX3_hasTermsOfOne 36 = .ok (.iload_n 2, 1) := by decide +kernel
theorem dX3_hasTermsOfOne_37 : decode cX3_hasTermsOfOne 37 = .ok (.if_icmp .ne 21, 3) := by decide +kernel
theorem dX3_hasTermsOfOne_40 : decode cX3_hasTermsOfOne 40 = .ok (.iload 5, 2) := by decide +kernel
theorem dX3_hasTermsOfOne_42 : decode cX3_hasTermsOfOne 42 = .ok (.iload_n 3, 1) := by decide +kernel
theorem dX3_hasTermsOfOne_43 : decode cX3_hasTermsOfOne 43 = .ok (.if_icmp .eq 11, 3) := by decide +kernel
theorem dX3_hasTermsOfOne_46 : decode cX3_hasTermsOfOne 46 = .ok (.iload 5, 2) := by decide +kernel
theorem dX3_hasTermsOfOne_48 : decode cX3_hasTermsOfOne 48 = .ok (.iload_n 3, 1) := by decide +kernel
theorem dX3_hasTermsOfOne_49 : decode cX3_hasTermsOfOne 49 = .ok (.iconst 1, 1) := by decide +kernel
theorem dX3_hasTermsOfOne_50 : decode cX3_hasTermsOfOne 50 = .ok (.ixor, 1) := by decide +kernel
theorem dX3_hasTermsOfOne_51 : decode cX3_hasTermsOfOne 51 = .ok (.if_icmp .ne 7, 3) := by decide +kernel
theorem dX3_hasTermsOfOne_54 : decode cX3_hasTermsOfOne 54 = .ok (.iconst 1, 1) := by decide +kernel
theorem dX3_hasTermsOfOne_55 : decode cX3_hasTermsOfOne 55 = .ok (.goto 4, 3) := by decide +kernel
theorem dX3_hasTermsOfOne_58 : decode cX3_hasTermsOfOne 58 = .ok (.iconst 0, 1) := by decide +kernel
theorem dX3_hasTermsOfOne_59 : decode cX3_hasTermsOfOne 59 = .ok (.ireturn, 1) := by decide +kernel
theorem dX3_hasTermsOfTwo_0 : decode cX3_hasTermsOfTwo 0 = .ok (.iconst 1, 1) := by decide +kernel
theorem dX3_hasTermsOfTwo_1 : decode cX3_hasTermsOfTwo 1 = .ok (.istore_n 3, 1) := by decide +kernel
theorem dX3_hasTermsOfTwo_2 : decode cX3_hasTermsOfTwo 2 = .ok (.iload_n 3, 1) := by decide +kernel
theorem dX3_hasTermsOfTwo_3 : decode cX3_hasTermsOfTwo 3 = .ok (.iconst 4, 1) := by decide +kernel
theorem dX3_hasTermsOfTwo_4 : decode cX3_hasTermsOfTwo 4 = .ok (.if_icmp .gt 48, 3) := by decide +kernel
theorem dX3_hasTermsOfTwo_7 : decode cX3_hasTermsOfTwo 7 = .ok (.iload_n 3, 1) := by decide +kernel
theorem dX3_hasTermsOfTwo_8 : decode cX3_hasTermsOfTwo 8 = .ok (.iload_n 0, 1) := by decide +kernel
theorem dX3_hasTermsOfTwo_9 : decode cX3_hasTermsOfTwo 9 = .ok (.invokestatic 107, 3) := by decide +kernel
theorem dX3_hasTermsOfTwo_12 : decode cX3_hasTermsOfTwo 12 = .ok (.iload_n 3, 1) := by decide +kernel
theorem dX3_hasTermsOfTwo_13 : decode cX3_hasTermsOfTwo 13 = .ok (.iload_n 1, 1) := by decide +kernel
theorem dX3_hasTermsOfTwo_14 : decode cX3_hasTermsOfTwo 14 = .ok (.invokestatic 113, 3) := by decide +kernel
theorem dX3_hasTermsOfTwo_17 : decode cX3_hasTermsOfTwo 17 = .ok (.if_icmp .ne 29, 3) := by decide +kernel
theorem dX3_hasTermsOfTwo_20 : decode cX3_hasTermsOfTwo 20 = .ok (.iload_n 3, 1) := by decide +kernel
theorem dX3_hasTermsOfTwo_21 : decode cX3_hasTermsOfTwo 21 = .ok (.iload_n 0, 1) := by decide +kernel
theorem dX3_hasTermsOfTwo_22 : decode cX3_hasTermsOfTwo 22 = .ok (.invokestatic 116, 3) := by decide +kernel
theorem dX3_hasTermsOfTwo_25 : decode cX3_hasTermsOfTwo 25 = .ok (.iload_n 2, 1) := by decide +kernel
theorem dX3_hasTermsOfTwo_26 : decode cX3_hasTermsOfTwo 26 = .ok (.invokestatic 104, 3) := by decide +kernel
theorem dX3_hasTermsOfTwo_29 : decode cX3_hasTermsOfTwo 29 = .ok (.if_icmp .ne 17, 3) := by decide +kernel
theorem dX3_hasTermsOfTwo_32 : decode cX3_hasTermsOfTwo 32 = .ok (.iload_n 3, 1) := by decide +kernel
theorem dX3_hasTermsOfTwo_33 : decode cX3_hasTermsOfTwo 33 = .ok (.iload_n 1, 1) := by decide +kernel
theorem dX3_hasTermsOfTwo_34 : decode cX3_hasTermsOfTwo 34 = .ok (.invokestatic 119, 3) := by decide +kernel
theorem dX3_hasTermsOfTwo_37 : decode cX3_hasTermsOfTwo 37 = .ok (.iload_n 2, 1) := by decide +kernel
theorem dX3_hasTermsOfTwo_38 : decode cX3_hasTermsOfTwo 38 = .ok (.invokestatic 99, 3) := by decide +kernel
theorem dX3_hasTermsOfTwo_41 : decode cX3_hasTermsOfTwo 41 = .ok (.if_icmp .ne 5, 3) := by decide +kernel
theorem dX3_hasTermsOfTwo_44 : decode cX3_hasTermsOfTwo 44 = .ok (.iconst 1, 1) := by decide +kernel
theorem dX3_hasTermsOfTwo_45 : decode cX3_hasTermsOfTwo 45 = .ok (.ireturn, 1) := by decide +kernel
theorem dX3_hasTermsOfTwo_46 : decode cX3_hasTermsOfTwo 46 = .ok (.iinc 3 1, 3) := by decide +kernel
theorem dX3_hasTermsOfTwo_49 : decode cX3_hasTermsOfTwo 49 = .ok (.goto (-47), 3) := by decide +kernel
theorem dX3_hasTermsOfTwo_52 : decode cX3_hasTermsOfTwo 52 = .ok (.iconst 0, 1) := by decide +kernel
theorem dX3_hasTermsOfTwo_53 : decode cX3_hasTermsOfTwo 53 = .ok (.ireturn, 1) := by decide +kernel
theorem dX3_tryMoods_0 : decode cX3_tryMoods 0 = .ok (.iconst 4, 1) := by decide +kernel
theorem dX3_tryMoods_1 : decode cX3_tryMoods 1 = .ok (.istore 4, 2) := by decide +kernel
theorem dX3_tryMoods_3 : decode cX3_tryMoods 3 = .ok (.iload_n 3, 1) := by decide +kernel
theorem dX3_tryMoods_4 : decode cX3_tryMoods 4 = .ok (.iconst (-1), 1) := by decide +kernel
theorem dX3_tryMoods_5 : decode cX3_tryMoods 5 = .ok (.if_icmp .ne 8, 3) := by decide +kernel
theorem dX3_tryMoods_8 : decode cX3_tryMoods 8 = .ok (.bipush 19, 2) := by decide +kernel
theorem dX3_tryMoods_10 : decode cX3_tryMoods 10 = .ok (.goto 4, 3) := by decide +kernel
theorem dX3_tryMoods_13 : decode cX3_tryMoods 13 = .ok (.iconst 0, 1) := by decide +kernel
theorem dX3_tryMoods_14 : decode cX3_tryMoods 14 = .ok (.istore 5, 2) := by decide +kernel
theorem dX3_tryMoods_16 : decode cX3_tryMoods 16 = .ok (.iload_n 3, 1) := by decide +kernel
theorem dX3_tryMoods_17 : decode cX3_tryMoods 17 = .ok (.iconst (-1), 1) := by decide +kernel
theorem dX3_tryMoods_18 : decode cX3_tryMoods 18 = .ok (.if_icmp .ne 8, 3) := by decide +kernel
theorem dX3_tryMoods_21 : decode cX3_tryMoods 21 = .ok (.bipush 22, 2) := by decide +kernel
theorem dX3_tryMoods_23 : decode cX3_tryMoods 23 = .ok (.goto 5, 3) := by decide +kernel
theorem dX3_tryMoods_26 : decode cX3_tryMoods 26 = .ok (.bipush 19, 2) := by decide +kernel
theorem dX3_tryMoods_28 : decode cX3_tryMoods 28 = .ok (.istore 6, 2) := by decide +kernel
theorem dX3_tryMoods_30 : decode cX3_tryMoods 30 = .ok (.iload 5, 2) := by decide +kernel
theorem dX3_tryMoods_32 : decode cX3_tryMoods 32 = .ok (.istore 7, 2) := by decide +kernel
theorem dX3_tryMoods_34 : decode cX3_tryMoods 34 = .ok (.iload 7, 2) := by decide +kernel
theorem dX3_tryMoods_36 : decode cX3_tryMoods 36 = .ok (.iload 6, 2) := by decide +kernel
theorem dX3_tryMoods_38 : decode cX3_tryMoods 38 = .ok (.if_icmp .ge 93, 3) := by decide +kernel
theorem dX3_tryMoods_41 : decode cX3_tryMoods 41 = .ok (.aload_n 0, 1) := by decide +kernel
theorem dX3_tryMoods_42 : decode cX3_tryMoods 42 = .ok (.iload 7, 2) := by decide +kernel
theorem dX3_tryMoods_44 : decode cX3_tryMoods 44 = .ok (.iload_n 2, 1) := by decide +kernel
theorem dX3_tryMoods_45 : decode cX3_tryMoods 45 = .ok (.iload_n 3, 1) := by decide +kernel
theorem dX3_tryMoods_46 : decode cX3_tryMoods 46 = .ok (.aload_n 0, 1) := by decide +kernel
theorem dX3_tryMoods_47 : decode cX3_tryMoods 47 = .ok (.getfield 11, 3) := by decide +kernel
theorem dX3_tryMoods_50 : decode cX3_tryMoods 50 = .ok (.iload_n 1, 1) := by decide +kernel
theorem dX3_tryMoods_51 : decode cX3_tryMoods 51 = .ok (.iaload, 1) := by decide +kernel
theorem dX3_tryMoods_52 : decode cX3_tryMoods 52 = .ok (.invokevirtual 122, 3) := by decide +kernel
theorem dX3_tryMoods_55 : decode cX3_tryMoods 55 = .ok (.istore 8, 2) := by decide +kernel
theorem dX3_tryMoods_57 : decode cX3_tryMoods 57 = .ok (.iload 8, 2) := by decide +kernel
theorem dX3_tryMoods_59 : decode cX3_tryMoods 59 = .ok (.ifCond .eq 42, 3) := by decide +kernel
theorem dX3_tryMoods_62 : decode cX3_tryMoods 62 = .ok (.iload_n 3, 1) := by decide +kernel
theorem dX3_tryMoods_63 : decode cX3_tryMoods 63 = .ok (.iconst (-1), 1) := by decide +kernel
theorem dX3_tryMoods_64 : decode cX3_tryMoods 64 = .ok (.if_icmp .eq 37, 3) := by decide +kernel
theorem dX3_tryMoods_67 : decode cX3_tryMoods 67 = .ok (.aload_n 0, 1) := by decide +kernel
theorem dX3_tryMoods_68 : decode cX3_tryMoods 68 = .ok (.iload 7, 2) := by decide +kernel
theorem dX3_tryMoods_70 : decode cX3_tryMoods 70 = .ok (.iload_n 3, 1) := by decide +kernel
theorem dX3_tryMoods_71 : decode cX3_tryMoods 71 = .ok (.iload_n 2, 1) := by decide +kernel
theorem dX3_tryMoods_72 : decode cX3_tryMoods 72 = .ok (.aload_n 0, 1) := by decide +kernel
theorem dX3_tryMoods_73 : decode cX3_tryMoods 73 = .ok (.getfield 11, 3) := by decide +kernel
theorem dX3_tryMoods_76 : decode cX3_tryMoods 76 = .ok (.iload_n 1, 1) := by decide +kernel
theorem dX3_tryMoods_77 : decode cX3_tryMoods 77 = .ok (.iaload, 1) := by decide +kernel
theorem dX3_tryMoods_78 : decode cX3_tryMoods 78 = .ok (.invokevirtual 122, 3) := by decide +kernel
theorem dX3_tryMoods_81 : decode cX3_tryMoods 81 = .ok (.istore 9, 2) := by decide +kernel
theorem dX3_tryMoods_83 : decode cX3_tryMoods 83 = .ok (.iload 9, 2) := by decide +kernel
theorem dX3_tryMoods_85 : decode cX3_tryMoods 85 = .ok (.ifCond .ne 7, 3) := by decide +kernel
theorem dX3_tryMoods_88 : decode cX3_tryMoods 88 = .ok (.iconst 0, 1) := by decide +kernel
