theorem dX12_forms_64 : decode cX12_forms 64 = .ok (.goto (-38), 3) := by decide +kernel
theorem dX12_forms_67 : decode cX12_forms 67 = .ok (.aload_n 0, 1) := by decide +kernel
theorem dX12_forms_68 : decode cX12_forms 68 = .ok (.iconst 0, 1) := by decide +kernel
theorem dX12_forms_69 : decode cX12_forms 69 = .ok (.putfield 11, 3) := by decide +kernel
theorem dX12_forms_72 : decode cX12_forms 72 = .ok (.aload_n 0, 1) := by decide +kernel
theorem dX12_forms_73 : decode cX12_forms 73 = .ok (.aload_n 0, 1) := by decide +kernel
theorem dX12_forms_74 : decode cX12_forms 74 = .ok (.iload_n 1, 1) := by decide +kernel
theorem dX12_forms_75 : decode cX12_forms 75 = .ok (.iload_n 2, 1) := by decide +kernel
theorem dX12_forms_76 : decode cX12_forms 76 = .ok (.invokevirtual 268, 3) := by decide +kernel
theorem dX12_forms_79 : decode cX12_forms 79 = .ok (.invokevirtual 221, 3) := by decide +kernel
theorem dX12_forms_82 : decode cX12_forms 82 = .ok (.aload_n 0, 1) := by decide +kernel
theorem dX12_forms_83 : decode cX12_forms 83 = .ok (.aload_n 0, 1) := by decide +kernel
theorem dX12_forms_84 : decode cX12_forms 84 = .ok (.iload_n 1, 1) := by decide +kernel
theorem dX12_forms_85 : decode cX12_forms 85 = .ok (.iload_n 2, 1) := by decide +kernel
theorem dX12_forms_86 : decode cX12_forms 86 = .ok (.iconst 1, 1) := by decide +kernel
theorem dX12_forms_87 : decode cX12_forms 87 = .ok (.ixor, 1) := by decide +kernel
theorem dX12_forms_88 : decode cX12_forms 88 = .ok (.invokevirtual 268, 3) := by decide +kernel
theorem dX12_forms_91 : decode cX12_forms 91 = .ok (.invokevirtual 221, 3) := by decide +kernel
theorem dX12_forms_94 : decode cX12_forms 94 = .ok (.iload_n 3, 1) := by decide +kernel
theorem dX12_forms_95 : decode cX12_forms 95 = .ok (.ireturn, 1) := by decide +kernel
theorem dX12_figureOf_0 : decode cX12_figureOf 0 = .ok (.ldc_w 339, 3) := by decide +kernel
theorem dX12_figureOf_3 : decode cX12_figureOf 3 = .ok (.iload_n 0, 1) := by decide +kernel
theorem dX12_figureOf_4 : decode cX12_figureOf 4 = .ok (.invokevirtual 66, 3) := by decide +kernel
theorem dX12_figureOf_7 : decode cX12_figureOf 7 = .ok (.bipush 48, 2) := by decide +kernel
theorem dX12_figureOf_9 : decode cX12_figureOf 9 = .ok (.isub, 1) := by decide +kernel
theorem dX12_figureOf_10 : decode cX12_figureOf 10 = .ok (.ireturn, 1) := by decide +kernel
theorem dX12_formOfMood_0 : decode cX12_formOfMood 0 = .ok (.ldc 64, 2) := by decide +kernel
theorem dX12_formOfMood_2 : decode cX12_formOfMood 2 = .ok (.ldc_w 341, 3) := by decide +kernel
theorem dX12_formOfMood_5 : decode cX12_formOfMood 5 = .ok (.iconst 3, 1) := by decide +kernel
theorem dX12_formOfMood_6 : decode cX12_formOfMood 6 = .ok (.iload_n 0, 1) := by decide +kernel
theorem dX12_formOfMood_7 : decode cX12_formOfMood 7 = .ok (.imul, 1) := by decide +kernel
theorem dX12_formOfMood_8 : decode cX12_formOfMood 8 = .ok (.iload_n 1, 1) := by decide +kernel
theorem dX12_formOfMood_9 : decode cX12_formOfMood 9 = .ok (.iadd, 1) := by decide +kernel
theorem dX12_formOfMood_10 : decode cX12_formOfMood 10 = .ok (.invokevirtual 66, 3) := by decide +kernel
theorem dX12_formOfMood_13 : decode cX12_formOfMood 13 = .ok (.invokevirtual 343, 3) := by decide +kernel
theorem dX12_formOfMood_16 : decode cX12_formOfMood 16 = .ok (.ireturn, 1) := by decide +kernel
theorem dX12_allow_0 : decode cX12_allow 0 = .ok (.aload_n 0, 1) := by decide +kernel
theorem dX12_allow_1 : decode cX12_allow 1 = .ok (.iconst 0, 1) := by decide +kernel
theorem dX12_allow_2 : decode cX12_allow 2 = .ok (.putfield 3, 3) := by decide +kernel
theorem dX12_allow_5 : decode cX12_allow 5 = .ok (.iload_n 1, 1) := by decide +kernel
theorem dX12_allow_6 : decode cX12_allow 6 = .ok (.i2l, 1) := by decide +kernel
theorem dX12_allow_7 : decode cX12_allow 7 = .ok (.lconst 0, 1) := by decide +kernel
theorem dX12_allow_8 : decode cX12_allow 8 = .ok (.ldc2_w 346, 3) := by decide +kernel
theorem dX12_allow_11 : decode cX12_allow 11 = .ok (.invokestatic 16, 3) := by decide +kernel
theorem dX12_allow_14 : decode cX12_allow 14 = .ok (.ifCond .ne 5, 3) := by decide +kernel
theorem dX12_allow_17 : decode cX12_allow 17 = .ok (.iconst (-1), 1) := by decide +kernel
theorem dX12_allow_18 : decode cX12_allow 18 = .ok (.ireturn, 1) := by decide +kernel
theorem dX12_allow_19 : decode cX12_allow 19 = .ok (.aload_n 0, 1) := by decide +kernel
theorem dX12_allow_20 : decode cX12_allow 20 = .ok (.getfield 348, 3) := by decide +kernel
theorem dX12_allow_23 : decode cX12_allow 23 = .ok (.istore_n 2, 1) := by decide +kernel
theorem dX12_allow_24 : decode cX12_allow 24 = .ok (.aload_n 0, 1) := by decide +kernel
theorem dX12_allow_25 : decode cX12_allow 25 = .ok (.iload_n 1, 1) := by decide +kernel
theorem dX12_allow_26 : decode cX12_allow 26 = .ok (.putfield 348, 3) := by decide +kernel
theorem dX12_allow_29 : decode cX12_allow 29 = .ok (.iload_n 2, 1) := by decide +kernel
theorem dX12_allow_30 : decode cX12_allow 30 = .ok (.ireturn, 1) := by decide +kernel
theorem dX12_isLiving_0 : decode cX12_isLiving 0 = .ok (.iload_n 1, 1) := by decide +kernel
theorem dX12_isLiving_1 : decode cX12_isLiving 1 = .ok (.iconst 2, 1) := by decide +kernel
theorem dX12_isLiving_2 : decode cX12_isLiving 2 = .ok (.irem, 1) := by decide +kernel
theorem dX12_isLiving_3 : decode cX12_isLiving 3 = .ok (.ifCond .ne 20, 3) := by decide +kernel
theorem dX12_isLiving_6 : decode cX12_isLiving 6 = .ok (.aload_n 0, 1) := by decide +kernel
theorem dX12_isLiving_7 : decode cX12_isLiving 7 = .ok (.getfield 139, 3) := by decide +kernel
theorem dX12_isLiving_10 : decode cX12_isLiving 10 = .ok (.iload_n 1, 1) := by decide +kernel
theorem dX12_isLiving_11 : decode cX12_isLiving 11 = .ok (.iconst 2, 1) := by decide +kernel
theorem dX12_isLiving_12 : decode cX12_isLiving 12 = .ok (.idiv, 1) := by decide +kernel
theorem dX12_isLiving_13 : decode cX12_isLiving 13 = .ok (.invokestatic 129, 3) := by decide +kernel
theorem dX12_isLiving_16 : decode cX12_isLiving 16 = .ok (.ifCond .eq 7, 3) := by decide +kernel
theorem dX12_isLiving_19 : decode cX12_isLiving 19 = .ok (.iconst 1, 1) := by decide +kernel
theorem dX12_isLiving_20 : decode cX12_isLiving 20 = .ok (.goto 4, 3) := by decide +kernel
theorem dX12_isLiving_23 : decode cX12_isLiving 23 = .ok (.iconst 0, 1) := by decide +kernel
theorem dX12_isLiving_24 : decode cX12_isLiving 24 = .ok (.ireturn, 1) := by decide +kernel
theorem dX12_concludes_0 : decode cX12_concludes 0 = .ok (.iload_n 0, 1) := by decide +kernel
theorem dX12_concludes_1 : decode cX12_concludes 1 = .ok (.iconst 2, 1) := by decide +kernel
theorem dX12_concludes_2 : decode cX12_concludes 2 = .ok (.irem, 1) := by decide +kernel
theorem dX12_concludes_3 : decode cX12_concludes 3 = .ok (.iconst 1, 1) := by decide +kernel
theorem dX12_concludes_4 : decode cX12_concludes 4 = .ok (.if_icmp .ne 10, 3) := by decide +kernel
theorem dX12_concludes_7 : decode cX12_concludes 7 = .ok (.iload_n 1, 1) := by decide +kernel
theorem dX12_concludes_8 : decode cX12_concludes 8 = .ok (.invokestatic 24, 3) := by decide +kernel
theorem dX12_concludes_11 : decode cX12_concludes 11 = .ok (.goto 7, 3) := by decide +kernel
theorem dX12_concludes_14 : decode cX12_concludes 14 = .ok (.iload_n 1, 1) := by decide +kernel
theorem dX12_concludes_15 : decode cX12_concludes 15 = .ok (.invokestatic 27, 3) := by decide +kernel
theorem dX12_concludes_18 : decode cX12_concludes 18 = .ok (.istore_n 3, 1) := by decide +kernel
theorem dX12_concludes_19 : decode cX12_concludes 19 = .ok (.iload_n 0, 1) := by decide +kernel
theorem dX12_concludes_20 : decode cX12_concludes 20 = .ok (.iconst 2, 1) := by decide +kernel
theorem dX12_concludes_21 : decode cX12_concludes 21 = .ok (.irem, 1) := by decide +kernel
theorem dX12_concludes_22 : decode cX12_concludes 22 = .ok (.iconst 1, 1) := by decide +kernel
theorem dX12_concludes_23 : decode cX12_concludes 23 = .ok (.if_icmp .ne 10, 3) := by decide +kernel
theorem dX12_concludes_26 : decode cX12_concludes 26 = .ok (.iload_n 1, 1) := by decide +kernel
theorem dX12_concludes_27 : decode cX12_concludes 27 = .ok (.invokestatic 27, 3) := by decide +kernel
theorem dX12_concludes_30 : decode cX12_concludes 30 = .ok (.goto 7, 3) := by decide +kernel
theorem dX12_concludes_33 : decode cX12_concludes 33 = .ok (.iload_n 1, 1) := by decide +kernel
theorem dX12_concludes_34 : decode cX12_concludes 34 = .ok (.invokestatic 24, 3) := by decide +kernel
theorem dX12_concludes_37 : decode cX12_concludes 37 = .ok (.istore 4, 2) := by decide +kernel
theorem dX12_concludes_39 : decode cX12_concludes 39 = .ok (.iload_n 0, 1) := by decide +kernel
theorem dX12_concludes_40 : decode cX12_concludes 40 = .ok (.iconst 3, 1) := by decide +kernel
theorem dX12_concludes_41 : decode cX12_concludes 41 = .ok (.if_icmp .ge 10, 3) := by decide +kernel
theorem dX12_concludes_44 : decode cX12_concludes 44 = .ok (.iload_n 2, 1) := by decide +kernel
theorem dX12_concludes_45 : decode cX12_concludes 45 = .ok (.invokestatic 27, 3) := by decide +kernel
theorem dX12_concludes_48 : decode cX12_concludes 48 = .ok (.goto 7, 3) := by decide +kernel
theorem dX12_concludes_51 : decode cX12_concludes 51 = .ok (.iload_n 2, 1) := by decide +kernel
theorem dX12_concludes_52 : decode cX12_concludes 52 = .ok (.invokestatic 24, 3) := by decide +kernel
theorem dX12_concludes_55 : decode cX12_concludes 55 = .ok (.istore 5, 2) := by decide +kernel
theorem dX12_concludes_57 : decode cX12_concludes 57 = .ok (.iload_n 0, 1) := by decide +kernel
theorem dX12_concludes_58 : decode cX12_concludes 58 = .ok (.iconst 3, 1) := by decide +kernel
theorem dX12_concludes_59 : decode cX12_concludes 59 = .ok (.if_icmp .ge 10, 3) := by decide +kernel
theorem dX12_concludes_62 : decode cX12_concludes 62 = .ok (.iload_n 2, 1) := by decide +kernel
theorem dX12_concludes_63 : decode cX12_concludes 63 = .ok (.invokestatic 24, 3) := by decide +kernel
theorem dX12_concludes_66 : decode cX12_concludes 66 = .ok (.goto 7, 3) := by decide +kernel
theorem dX12_concludes_69 : decode cX12_concludes 69 = .ok (.iload_n 2, 1) := by decide +kernel
theorem dX12_concludes_70 : decode cX12_concludes 70 = .ok (.invokestatic 27, 3) := by decide +kernel
theorem dX12_concludes_73 : decode cX12_concludes 73 = .ok (.istore 6, 2) := by decide +kernel
theorem dX12_concludes_75 : decode cX12_concludes 75 = .ok (.iload 5, 2) := by decide +kernel
theorem dX12_concludes_77 : decode cX12_concludes 77 = .ok (.iload_n 3, 1) := by decide +kernel
theorem dX12_concludes_78 : decode cX12_concludes 78 = .ok (.if_icmp .ne 14, 3) := by decide +kernel
theorem dX12_concludes_81 : decode cX12_concludes 81 = .ok (.bipush 24, 2) := by decide +kernel
theorem dX12_concludes_83 : decode cX12_concludes 83 = .ok (.iload 6, 2) := by decide +kernel
theorem dX12_concludes_85 : decode cX12_concludes 85 = .ok (.imul, 1) := by decide +kernel
theorem dX12_concludes_86 : decode cX12_concludes 86 = .ok (.iload 4, 2) := by decide +kernel
theorem dX12_concludes_88 : decode cX12_concludes 88 = .ok (.iadd, 1) := by decide +kernel
theorem dX12_concludes_89 : decode cX12_concludes 89 = .ok (.goto 4, 3) := by decide +kernel
theorem dX12_concludes_92 : decode cX12_concludes 92 = .ok (.iconst (-1), 1) := by decide +kernel
theorem dX12_concludes_93 : decode cX12_concludes 93 = .ok (.ireturn, 1) := by decide +kernel
theorem dX12_proves_0 : decode cX12_proves 0 = .ok (.iload_n 1, 1) := by decide +kernel
theorem dX12_proves_1 : decode cX12_proves 1 = .ok (.bipush 19, 2) := by decide +kernel
theorem dX12_proves_3 : decode cX12_proves 3 = .ok (.if_icmp .ge 135, 3) := by decide +kernel
theorem dX12_proves_6 : decode cX12_proves 6 = .ok (.iload_n 1, 1) := by decide +kernel
theorem dX12_proves_7 : decode cX12_proves 7 = .ok (.invokestatic 351, 3) := by decide +kernel
theorem dX12_proves_10 : decode cX12_proves 10 = .ok (.iload_n 2, 1) := by decide +kernel
theorem dX12_proves_11 : decode cX12_proves 11 = .ok (.iload_n 3, 1) := by decide +kernel
theorem dX12_proves_12 : decode cX12_proves 12 = .ok (.invokestatic 354, 3) := by decide +kernel
theorem dX12_proves_15 : decode cX12_proves 15 = .ok (.istore 5, 2) := by decide +kernel
theorem dX12_proves_17 : decode cX12_proves 17 = .ok (.iload 5, 2) := by decide +kernel
theorem dX12_proves_19 : decode cX12_proves 19 = .ok (.ifCond .lt 27, 3) := by decide +kernel
theorem dX12_proves_22 : decode cX12_proves 22 = .ok (.iload_n 2, 1) := by decide +kernel
theorem dX12_proves_23 : decode cX12_proves 23 = .ok (.invokestatic 20, 3) := by decide +kernel
theorem dX12_proves_26 : decode cX12_proves 26 = .ok (.iload_n 1, 1) := by decide +kernel
theorem dX12_proves_27 : decode cX12_proves 27 = .ok (.iconst 0, 1) := by decide +kernel
theorem dX12_proves_28 : decode cX12_proves 28 = .ok (.invokestatic 357, 3) := by decide +kernel
theorem dX12_proves_31 : decode cX12_proves 31 = .ok (.if_icmp .ne 15, 3) := by decide +kernel
theorem dX12_proves_34 : decode cX12_proves 34 = .ok (.iload_n 3, 1) := by decide +kernel
theorem dX12_proves_35 : decode cX12_proves 35 = .ok (.invokestatic 20, 3) := by decide +kernel
theorem dX12_proves_38 : decode cX12_proves 38 = .ok (.iload_n 1, 1) := by decide +kernel
theorem dX12_proves_39 : decode cX12_proves 39 = .ok (.iconst 1, 1) := by decide +kernel
theorem dX12_proves_40 : decode cX12_proves 40 = .ok (.invokestatic 357, 3) := by decide +kernel
theorem dX12_proves_43 : decode cX12_proves 43 = .ok (.if_icmp .eq 5, 3) := by decide +kernel
theorem dX12_proves_46 : decode cX12_proves 46 = .ok (.iconst (-1), 1) := by decide +kernel
theorem dX12_proves_47 : decode cX12_proves 47 = .ok (.ireturn, 1) := by decide +kernel
theorem dX12_proves_48 : decode cX12_proves 48 = .ok (.iload_n 1, 1) := by decide +kernel
theorem dX12_proves_49 : decode cX12_proves 49 = .ok (.invokestatic 351, 3) := by decide +kernel
theorem dX12_proves_52 : decode cX12_proves 52 = .ok (.iconst 2, 1) := by decide +kernel
theorem dX12_proves_53 : decode cX12_proves 53 = .ok (.irem, 1) := by decide +kernel
theorem dX12_proves_54 : decode cX12_proves 54 = .ok (.iconst 1, 1) := by decide +kernel
theorem dX12_proves_55 : decode cX12_proves 55 = .ok (.if_icmp .ne 10, 3) := by decide +kernel
theorem dX12_proves_58 : decode cX12_proves 58 = .ok (.iload_n 2, 1) := by decide +kernel
theorem dX12_proves_59 : decode cX12_proves 59 = .ok (.invokestatic 24, 3) := by decide +kernel
theorem dX12_proves_62 : decode cX12_proves 62 = .ok (.goto 7, 3) := by decide +kernel
theorem dX12_proves_65 : decode cX12_proves 65 = .ok (.iload_n 2, 1) := by decide +kernel
theorem dX12_proves_66 : decode cX12_proves 66 = .ok (.invokestatic 27, 3) := by decide +kernel
theorem dX12_proves_69 : decode cX12_proves 69 = .ok (.istore 6, 2) := by decide +kernel
theorem dX12_proves_71 : decode cX12_proves 71 = .ok (.iload_n 1, 1) := by decide +kernel
theorem dX12_proves_72 : decode cX12_proves 72 = .ok (.bipush 18, 2) := by decide +kernel
theorem dX12_proves_74 : decode cX12_proves 74 = .ok (.if_icmp .ge 8, 3) := by decide +kernel
theorem dX12_proves_77 : decode cX12_proves 77 = .ok (.iload 6, 2) := by decide +kernel
theorem dX12_proves_79 : decode cX12_proves 79 = .ok (.goto 8, 3) := by decide +kernel
theorem dX12_proves_82 : decode cX12_proves 82 = .ok (.iload 5, 2) := by decide +kernel
theorem dX12_proves_84 : decode cX12_proves 84 = .ok (.bipush 24, 2) := by decide +kernel
theorem dX12_proves_86 : decode cX12_proves 86 = .ok (.irem, 1) := by decide +kernel
theorem dX12_proves_87 : decode cX12_proves 87 = .ok (.istore 7, 2) := by decide +kernel
theorem dX12_proves_89 : decode cX12_proves 89 = .ok (.iload_n 1, 1) := by decide +kernel
theorem dX12_proves_90 : decode cX12_proves 90 = .ok (.bipush 15, 2) := by decide +kernel
theorem dX12_proves_92 : decode cX12_proves 92 = .ok (.if_icmp .lt 17, 3) := by decide +kernel
theorem dX12_proves_95 : decode cX12_proves 95 = .ok (.iload 4, 2) := by decide +kernel
theorem dX12_proves_97 : decode cX12_proves 97 = .ok (.ifCond .eq 12, 3) := by decide +kernel
theorem dX12_proves_100 : decode cX12_proves 100 = .ok (.aload_n 0, 1) := by decide +kernel
theorem dX12_proves_101 : decode cX12_proves 101 = .ok (.iload 7, 2) := by decide +kernel
theorem dX12_proves_103 : decode cX12_proves 103 = .ok (.invokevirtual 360, 3) := by decide +kernel
theorem dX12_proves_106 : decode cX12_proves 106 = .ok (.ifCond .eq 7, 3) := by decide +kernel
theorem dX12_proves_109 : decode cX12_proves 109 = .ok (.iconst 1, 1) := by decide +kernel
theorem dX12_proves_110 : decode cX12_proves 110 = .ok (.goto 4, 3) := by decide +kernel
theorem dX12_proves_113 : decode cX12_proves 113 = .ok (.iconst 0, 1) := by decide +kernel
theorem dX12_proves_114 : decode cX12_proves 114 = .ok (.istore 8, 2) := by decide +kernel
theorem dX12_proves_116 : decode cX12_proves 116 = .ok (.iload 8, 2) := by decide +kernel
theorem dX12_proves_118 : decode cX12_proves 118 = .ok (.ifCond .eq 18, 3) := by decide +kernel
theorem dX12_proves_121 : decode cX12_proves 121 = .ok (.sipush 576, 3) := by decide +kernel
theorem dX12_proves_124 : decode cX12_proves 124 = .ok (.iload_n 1, 1) := by decide +kernel
theorem dX12_proves_125 : decode cX12_proves 125 = .ok (.iconst 2, 1) := by decide +kernel
theorem dX12_proves_126 : decode cX12_proves 126 = .ok (.invokestatic 357, 3) := by decide +kernel
theorem dX12_proves_129 : decode cX12_proves 129 = .ok (.imul, 1) := by decide +kernel
theorem dX12_proves_130 : decode cX12_proves 130 = .ok (.iload 5, 2) := by decide +kernel
theorem dX12_proves_132 : decode cX12_proves 132 = .ok (.iadd, 1) := by decide +kernel
theorem dX12_proves_133 : decode cX12_proves 133 = .ok (.goto 4, 3) := by decide +kernel
theorem dX12_proves_136 : decode cX12_proves 136 = .ok (.iconst (-1), 1) := by decide +kernel
theorem dX12_proves_137 : decode cX12_proves 137 = .ok (.ireturn, 1) := by decide +kernel
theorem dX12_proves_138 : decode cX12_proves 138 = .ok (.iload_n 2, 1) := by decide +kernel
theorem dX12_proves_139 : decode cX12_proves 139 = .ok (.invokestatic 20, 3) := by decide +kernel
theorem dX12_proves_142 : decode cX12_proves 142 = .ok (.istore 5, 2) := by decide +kernel
theorem dX12_proves_144 : decode cX12_proves 144 = .ok (.iload_n 2, 1) := by decide +kernel
theorem dX12_proves_145 : decode cX12_proves 145 = .ok (.invokestatic 24, 3) := by decide +kernel
theorem dX12_proves_148 : decode cX12_proves 148 = .ok (.istore 6, 2) := by decide +kernel
theorem dX12_proves_150 : decode cX12_proves 150 = .ok (.iload_n 2, 1) := by decide +kernel
theorem dX12_proves_151 : decode cX12_proves 151 = .ok (.invokestatic 27, 3) := by decide +kernel
theorem dX12_proves_154 : decode cX12_proves 154 = .ok (.istore 7, 2) := by decide +kernel
theorem dX12_proves_156 : decode cX12_proves 156 = .ok (.iload_n 1, 1) := by decide +kernel
theorem dX12_proves_157 : decode cX12_proves 157 = .ok (.bipush 19, 2) := by decide +kernel
theorem dX12_proves_159 : decode cX12_proves 159 = .ok (.if_icmp .ne 29, 3) := by decide +kernel
theorem dX12_proves_162 : decode cX12_proves 162 = .ok (.iload 5, 2) := by decide +kernel
theorem dX12_proves_164 : decode cX12_proves 164 = .ok (.iconst 1, 1) := by decide +kernel
theorem dX12_proves_165 : decode cX12_proves 165 = .ok (.if_icmp .eq 9, 3) := by decide +kernel
theorem dX12_proves_168 : decode cX12_proves 168 = .ok (.iload 5, 2) := by decide +kernel
theorem dX12_proves_170 : decode cX12_proves 170 = .ok (.iconst 2, 1) := by decide +kernel
theorem dX12_proves_171 : decode cX12_proves 171 = .ok (.if_icmp .ne 15, 3) := by decide +kernel
theorem dX12_proves_174 : decode cX12_proves 174 = .ok (.iload 5, 2) := by decide +kernel
theorem dX12_proves_176 : decode cX12_proves 176 = .ok (.iload 7, 2) := by decide +kernel
theorem dX12_proves_178 : decode cX12_proves 178 = .ok (.iload 6, 2) := by decide +kernel
theorem dX12_proves_180 : decode cX12_proves 180 = .ok (.invokestatic 30, 3) := by decide +kernel
theorem dX12_proves_183 : decode cX12_proves 183 = .ok (.goto 4, 3) := by decide +kernel
theorem dX12_proves_186 : decode cX12_proves 186 = .ok (.iconst (-1), 1) := by decide +kernel
theorem dX12_proves_187 : decode cX12_proves 187 = .ok (.ireturn, 1) := by decide +kernel
theorem dX12_proves_188 : decode cX12_proves 188 = .ok (.iload_n 1, 1) := by decide +kernel
theorem dX12_proves_189 : decode cX12_proves 189 = .ok (.bipush 20, 2) := by decide +kernel
theorem dX12_proves_191 : decode cX12_proves 191 = .ok (.if_icmp .ne 17, 3) := by decide +kernel
theorem dX12_proves_194 : decode cX12_proves 194 = .ok (.iload 5, 2) := by decide +kernel
theorem dX12_proves_196 : decode cX12_proves 196 = .ok (.iconst 1, 1) := by decide +kernel
theorem dX12_proves_197 : decode cX12_proves 197 = .ok (.ixor, 1) := by decide +kernel
theorem dX12_proves_198 : decode cX12_proves 198 = .ok (.iload 6, 2) := by decide +kernel
theorem dX12_proves_200 : decode cX12_proves 200 = .ok (.iload 7, 2) := by decide +kernel
theorem dX12_proves_202 : decode cX12_proves 202 = .ok (.iconst 1, 1) := by decide +kernel
theorem dX12_proves_203 : decode cX12_proves 203 = .ok (.ixor, 1) := by decide +kernel
theorem dX12_proves_204 : decode cX12_proves 204 = .ok (.invokestatic 30, 3) := by decide +kernel
theorem dX12_proves_207 : decode cX12_proves 207 = .ok (.ireturn, 1) := by decide +kernel
theorem dX12_proves_208 : decode cX12_proves 208 = .ok (.iload 5, 2) := by decide +kernel
theorem dX12_proves_210 : decode cX12_proves 210 = .ok (.iconst 2, 1) := by decide +kernel
theorem dX12_proves_211 : decode cX12_proves 211 = .ok (.if_icmp .ge 31, 3) := by decide +kernel
theorem dX12_proves_214 : decode cX12_proves 214 = .ok (.iload 4, 2) := by decide +kernel
theorem dX12_proves_216 : decode cX12_proves 216 = .ok (.ifCond .eq 12, 3) := by decide +kernel
theorem dX12_proves_219 : decode cX12_proves 219 = .ok (.aload_n 0, 1) := by decide +kernel
theorem dX12_proves_220 : decode cX12_proves 220 = .ok (.iload 6, 2) := by decide +kernel
theorem dX12_proves_222 : decode cX12_proves 222 = .ok (.invokevirtual 360, 3) := by decide +kernel
theorem dX12_proves_225 : decode cX12_proves 225 = .ok (.ifCond .eq 17, 3) := by decide +kernel
theorem dX12_proves_228 : decode cX12_proves 228 = .ok (.iload 5, 2) := by decide +kernel
theorem dX12_proves_230 : decode cX12_proves 230 = .ok (.iconst 2, 1) := by decide +kernel
theorem dX12_proves_231 : decode cX12_proves 231 = .ok (.iadd, 1) := by decide +kernel
theorem dX12_proves_232 : decode cX12_proves 232 = .ok (.iload 6, 2) := by decide +kernel
theorem dX12_proves_234 : decode cX12_proves 234 = .ok (.iload 7, 2) := by decide +kernel
theorem dX12_proves_236 : decode cX12_proves 236 = .ok (.invokestatic 30, 3) := by decide +kernel
theorem dX12_proves_239 : decode cX12_proves 239 = .ok (.goto 4, 3) := by decide +kernel
theorem dX12_proves_242 : decode cX12_proves 242 = .ok (.iconst (-1), 1) := by decide +kernel
theorem dX12_proves_243 : decode cX12_proves 243 = .ok (.ireturn, 1) := by decide +kernel
theorem dX12_step_0 : decode cX12_step 0 = .ok (.aload_n 0, 1) := by decide +kernel
theorem dX12_step_1 : decode cX12_step 1 = .ok (.iconst 0, 1) := by decide +kernel
theorem dX12_step_2 : decode cX12_step 2 = .ok (.putfield 3, 3) := by decide +kernel
theorem dX12_step_5 : decode cX12_step 5 = .ok (.iload_n 1, 1) := by decide +kernel
theorem dX12_step_6 : decode cX12_step 6 = .ok (.i2l, 1) := by decide +kernel
theorem dX12_step_7 : decode cX12_step 7 = .ok (.lconst 0, 1) := by decide +kernel
theorem dX12_step_8 : decode cX12_step 8 = .ok (.ldc2_w 363, 3) := by decide +kernel
theorem dX12_step_11 : decode cX12_step 11 = .ok (.invokestatic 16, 3) := by decide +kernel
theorem dX12_step_14 : decode cX12_step 14 = .ok (.ifCond .eq 31, 3) := by decide +kernel
theorem dX12_step_17 : decode cX12_step 17 = .ok (.iload_n 2, 1) := by decide +kernel
theorem dX12_step_18 : decode cX12_step 18 = .ok (.invokestatic 142, 3) := by decide +kernel
theorem dX12_step_21 : decode cX12_step 21 = .ok (.ifCond .eq 24, 3) := by decide +kernel
theorem dX12_step_24 : decode cX12_step 24 = .ok (.iload_n 1, 1) := by decide +kernel
theorem dX12_step_25 : decode cX12_step 25 = .ok (.bipush 19, 2) := by decide +kernel
theorem dX12_step_27 : decode cX12_step 27 = .ok (.if_icmp .ge 13, 3) := by decide +kernel
theorem dX12_step_30 : decode cX12_step 30 = .ok (.iload_n 3, 1) := by decide +kernel
theorem dX12_step_31 : decode cX12_step 31 = .ok (.invokestatic 142, 3) := by decide +kernel
theorem dX12_step_34 : decode cX12_step 34 = .ok (.ifCond .ne 13, 3) := by decide +kernel
theorem dX12_step_37 : decode cX12_step 37 = .ok (.goto 8, 3) := by decide +kernel
theorem dX12_step_40 : decode cX12_step 40 = .ok (.iload_n 3, 1) := by decide +kernel
theorem dX12_step_41 : decode cX12_step 41 = .ok (.iconst (-1), 1) := by decide +kernel
theorem dX12_step_42 : decode cX12_step 42 = .ok (.if_icmp .eq 5, 3) := by decide +kernel
theorem dX12_step_45 : decode cX12_step 45 = .ok (.iconst (-1), 1) := by decide +kernel
theorem dX12_step_46 : decode cX12_step 46 = .ok (.ireturn, 1) := by decide +kernel
theorem dX12_step_47 : decode cX12_step 47 = .ok (.aload_n 0, 1) := by decide +kernel
theorem dX12_step_48 : decode cX12_step 48 = .ok (.iload_n 1, 1) := by decide +kernel
theorem dX12_step_49 : decode cX12_step 49 = .ok (.iload_n 2, 1) := by decide +kernel
theorem dX12_step_50 : decode cX12_step 50 = .ok (.iload_n 3, 1) := by decide +kernel
theorem dX12_step_51 : decode cX12_step 51 = .ok (.iconst 1, 1) := by decide +kernel
theorem dX12_step_52 : decode cX12_step 52 = .ok (.invokevirtual 365, 3) := by decide +kernel
theorem dX12_step_55 : decode cX12_step 55 = .ok (.istore 4, 2) := by decide +kernel
theorem dX12_step_57 : decode cX12_step 57 = .ok (.iload 4, 2) := by decide +kernel
theorem dX12_step_59 : decode cX12_step 59 = .ok (.ifCond .ge 8, 3) := by decide +kernel
theorem dX12_step_62 : decode cX12_step 62 = .ok (.bipush (-2), 2) := by decide +kernel
theorem dX12_step_64 : decode cX12_step 64 = .ok (.goto 5, 3) := by decide +kernel
theorem dX12_step_67 : decode cX12_step 67 = .ok (.iload 4, 2) := by decide +kernel
theorem dX12_step_69 : decode cX12_step 69 = .ok (.ireturn, 1) := by decide +kernel
theorem dX12_majorCode_0 : decode cX12_majorCode 0 = .ok (.iload_n 0, 1) := by decide +kernel
theorem dX12_majorCode_1 : decode cX12_majorCode 1 = .ok (.invokestatic 351, 3) := by decide +kernel
theorem dX12_majorCode_4 : decode cX12_majorCode 4 = .ok (.iconst 2, 1) := by decide +kernel
theorem dX12_majorCode_5 : decode cX12_majorCode 5 = .ok (.irem, 1) := by decide +kernel
theorem dX12_majorCode_6 : decode cX12_majorCode 6 = .ok (.iconst 1, 1) := by decide +kernel
theorem dX12_majorCode_7 : decode cX12_majorCode 7 = .ok (.if_icmp .ne 16, 3) := by decide +kernel
theorem dX12_majorCode_10 : decode cX12_majorCode 10 = .ok (.iload_n 0, 1) := by decide +kernel
theorem dX12_majorCode_11 : decode cX12_majorCode 11 = .ok (.iconst 0, 1) := by decide +kernel
theorem dX12_majorCode_12 : decode cX12_majorCode 12 = .ok (.invokestatic 357, 3) := by decide +kernel
theorem dX12_majorCode_15 : decode cX12_majorCode 15 = .ok (.iload_n 2, 1) := by decide +kernel
theorem dX12_majorCode_16 : decode cX12_majorCode 16 = .ok (.iload_n 1, 1) := by decide +kernel
theorem dX12_majorCode_17 : decode cX12_majorCode 17 = .ok (.invokestatic 30, 3) := by decide +kernel
theorem dX12_majorCode_20 : decode cX12_majorCode 20 = .ok (.goto 13, 3) := by decide +kernel
theorem dX12_majorCode_23 : decode cX12_majorCode 23 = .ok (.iload_n 0, 1) := by decide +kernel
theorem dX12_majorCode_24 : decode cX12_majorCode 24 = .ok (.iconst 0, 1) := by decide +kernel
theorem dX12_majorCode_25 : decode cX12_majorCode 25 = .ok (.invokestatic 357, 3) := by decide +kernel
theorem dX12_majorCode_28 : decode cX12_majorCode 28 = .ok (.iload_n 1, 1) := by decide +kernel
theorem dX12_majorCode_29 : decode cX12_majorCode 29 = .ok (.iload_n 2, 1) := by decide +kernel
theorem dX12_majorCode_30 : decode cX12_majorCode 30 = .ok (.invokestatic 30, 3) := by decide +kernel
theorem dX12_majorCode_33 : decode cX12_majorCode 33 = .ok (.ireturn, 1) := by decide +kernel
theorem dX12_minorCode_0 : decode cX12_minorCode 0 = .ok (.iload_n 0, 1) := by decide +kernel
theorem dX12_minorCode_1 : decode cX12_minorCode 1 = .ok (.invokestatic 351, 3) := by decide +kernel
theorem dX12_minorCode_4 : decode cX12_minorCode 4 = .ok (.iconst 3, 1) := by decide +kernel
theorem dX12_minorCode_5 : decode cX12_minorCode 5 = .ok (.if_icmp .ge 16, 3) := by decide +kernel
theorem dX12_minorCode_8 : decode cX12_minorCode 8 = .ok (.iload_n 0, 1) := by decide +kernel
theorem dX12_minorCode_9 : decode cX12_minorCode 9 = .ok (.iconst 1, 1) := by decide +kernel
theorem dX12_minorCode_10 : decode cX12_minorCode 10 = .ok (.invokestatic 357, 3) := by decide +kernel
theorem dX12_minorCode_13 : decode cX12_minorCode 13 = .ok (.iload_n 1, 1) := by decide +kernel
theorem dX12_minorCode_14 : decode cX12_minorCode 14 = .ok (.iload_n 2, 1) := by decide +kernel
theorem dX12_minorCode_15 : decode cX12_minorCode 15 = .ok (.invokestatic 30, 3) := by decide +kernel
theorem dX12_minorCode_18 : decode cX12_minorCode 18 = .ok (.goto 13, 3) := by decide +kernel
theorem dX12_minorCode_21 : decode cX12_minorCode 21 = .ok (.iload_n 0, 1) := by decide +kernel
theorem dX12_minorCode_22 : decode cX12_minorCode 22 = .ok (.iconst 1, 1) := by decide +kernel
theorem dX12_minorCode_23 : decode cX12_minorCode 23 = .ok (.invokestatic 357, 3) := by decide +kernel
theorem dX12_minorCode_26 : decode cX12_minorCode 26 = .ok (.iload_n 2, 1) := by decide +kernel
theorem dX12_minorCode_27 : decode cX12_minorCode 27 = .ok (.iload_n 1, 1) := by decide +kernel
theorem dX12_minorCode_28 : decode cX12_minorCode 28 = .ok (.invokestatic 30, 3) := by decide +kernel
theorem dX12_minorCode_31 : decode cX12_minorCode 31 = .ok (.ireturn, 1) := by decide +kernel
theorem dX12_keepsBest_0 : decode cX12_keepsBest 0 = .ok (.iload_n 2, 1) := by decide +kernel
theorem dX12_keepsBest_1 : decode cX12_keepsBest 1 = .ok (.aload_n 0, 1) := by decide +kernel
theorem dX12_keepsBest_2 : decode cX12_keepsBest 2 = .ok (.getfield 369, 3) := by decide +kernel
theorem dX12_keepsBest_5 : decode cX12_keepsBest 5 = .ok (.if_icmp .lt 44, 3) := by decide +kernel
theorem dX12_keepsBest_8 : decode cX12_keepsBest 8 = .ok (.iload_n 2, 1) := by decide +kernel
theorem dX12_keepsBest_9 : decode cX12_keepsBest 9 = .ok (.aload_n 0, 1) := by decide +kernel
theorem dX12_keepsBest_10 : decode cX12_keepsBest 10 = .ok (.getfield 369, 3) := by decide +kernel
theorem dX12_keepsBest_13 : decode cX12_keepsBest 13 = .ok (.if_icmp .ne 40, 3) := by decide +kernel
theorem dX12_keepsBest_16 : decode cX12_keepsBest 16 = .ok (.iload_n 1, 1) := by decide +kernel
theorem dX12_keepsBest_17 : decode cX12_keepsBest 17 = .ok (.aload_n 0, 1) := by decide +kernel
theorem dX12_keepsBest_18 : decode cX12_keepsBest 18 = .ok (.getfield 372, 3) := by decide +kernel
theorem dX12_keepsBest_21 : decode cX12_keepsBest 21 = .ok (.if_icmp .ne 32, 3) := by decide +kernel
theorem dX12_keepsBest_24 : decode cX12_keepsBest 24 = .ok (.iload_n 3, 1) := by decide +kernel
theorem dX12_keepsBest_25 : decode cX12_keepsBest 25 = .ok (.aload_n 0, 1) := by decide +kernel
theorem dX12_keepsBest_26 : decode cX12_keepsBest 26 = .ok (.getfield 375, 3) := by decide +kernel
theorem dX12_keepsBest_29 : decode cX12_keepsBest 29 = .ok (.if_icmp .lt 20, 3) := by decide +kernel
theorem dX12_keepsBest_32 : decode cX12_keepsBest 32 = .ok (.iload_n 3, 1) := by decide +kernel
theorem dX12_keepsBest_33 : decode cX12_keepsBest 33 = .ok (.aload_n 0, 1) := by decide +kernel
theorem dX12_keepsBest_34 : decode cX12_keepsBest 34 = .ok (.getfield 375, 3) := by decide +kernel
theorem dX12_keepsBest_37 : decode cX12_keepsBest 37 = .ok (.if_icmp .ne 16, 3) := by decide +kernel
theorem dX12_keepsBest_40 : decode cX12_keepsBest 40 = .ok (.iload 4, 2) := by decide +kernel
theorem dX12_keepsBest_42 : decode cX12_keepsBest 42 = .ok (.aload_n 0, 1) := by decide +kernel
theorem dX12_keepsBest_43 : decode cX12_keepsBest 43 = .ok (.getfield 378, 3) := by decide +kernel
theorem dX12_keepsBest_46 : decode cX12_keepsBest 46 = .ok (.if_icmp .ge 7, 3) := by decide +kernel
theorem dX12_keepsBest_49 : decode cX12_keepsBest 49 = .ok (.iconst 1, 1) := by decide +kernel
theorem dX12_keepsBest_50 : decode cX12_keepsBest 50 = .ok (.goto 4, 3) := by decide +kernel
theorem dX12_keepsBest_53 : decode cX12_keepsBest 53 = .ok (.iconst 0, 1) := by decide +kernel
theorem dX12_keepsBest_54 : decode cX12_keepsBest 54 = .ok (.istore 5, 2) := by decide +kernel
theorem dX12_keepsBest_56 : decode cX12_keepsBest 56 = .ok (.iload_n 2, 1) := by decide +kernel
theorem dX12_keepsBest_57 : decode cX12_keepsBest 57 = .ok (.ldc 249, 2) := by decide +kernel
theorem dX12_keepsBest_59 : decode cX12_keepsBest 59 = .ok (.if_icmp .ge 29, 3) := by decide +kernel
theorem dX12_keepsBest_62 : decode cX12_keepsBest 62 = .ok (.iload 5, 2) := by decide +kernel
theorem dX12_keepsBest_64 : decode cX12_keepsBest 64 = .ok (.ifCond .eq 24, 3) := by decide +kernel
theorem dX12_keepsBest_67 : decode cX12_keepsBest 67 = .ok (.aload_n 0, 1) := by decide +kernel
theorem dX12_keepsBest_68 : decode cX12_keepsBest 68 = .ok (.iload_n 2, 1) := by decide +kernel
theorem dX12_keepsBest_69 : decode cX12_keepsBest 69 = .ok (.putfield 369, 3) := by decide +kernel
theorem dX12_keepsBest_72 : decode cX12_keepsBest 72 = .ok (.aload_n 0, 1) := by decide +kernel
theorem dX12_keepsBest_73 : decode cX12_keepsBest 73 = .ok (.iload_n 1, 1) := by decide +kernel
theorem dX12_keepsBest_74 : decode cX12_keepsBest 74 = .ok (.putfield 372, 3) := by decide +kernel
theorem dX12_keepsBest_77 : decode cX12_keepsBest 77 = .ok (.aload_n 0, 1) := by decide +kernel
theorem dX12_keepsBest_78 : decode cX12_keepsBest 78 = .ok (.iload_n 3, 1) := by decide +kernel
theorem dX12_keepsBest_79 : decode cX12_keepsBest 79 = .ok (.putfield 375, 3) := by decide +kernel
theorem dX12_keepsBest_82 : decode cX12_keepsBest 82 = .ok (.aload_n 0, 1) := by decide +kernel
theorem dX12_keepsBest_83 : decode cX12_keepsBest 83 = .ok (.iload 4, 2) := by decide +kernel
theorem dX12_keepsBest_85 : decode cX12_keepsBest 85 = .ok (.putfield 378, 3) := by decide +kernel
theorem dX12_keepsBest_88 : decode cX12_keepsBest 88 = .ok (.return_, 1) := by decide +kernel
theorem dX12_looks_0 : decode cX12_looks 0 = .ok (.aload_n 0, 1) := by decide +kernel
theorem dX12_looks_1 : decode cX12_looks 1 = .ok (.ldc 249, 2) := by decide +kernel
theorem dX12_looks_3 : decode cX12_looks 3 = .ok (.putfield 369, 3) := by decide +kernel
theorem dX12_looks_6 : decode cX12_looks 6 = .ok (.aload_n 0, 1) := by decide +kernel
theorem dX12_looks_7 : decode cX12_looks 7 = .ok (.iconst (-1), 1) := by decide +kernel
theorem dX12_looks_8 : decode cX12_looks 8 = .ok (.putfield 372, 3) := by decide +kernel
theorem dX12_looks_11 : decode cX12_looks 11 = .ok (.iload_n 1, 1) := by decide +kernel
theorem dX12_looks_12 : decode cX12_looks 12 = .ok (.invokestatic 24, 3) := by decide +kernel
theorem dX12_looks_15 : decode cX12_looks 15 = .ok (.istore_n 2, 1) := by decide +kernel
theorem dX12_looks_16 : decode cX12_looks 16 = .ok (.iload_n 1, 1) := by decide +kernel
theorem dX12_looks_17 : decode cX12_looks 17 = .ok (.invokestatic 27, 3) := by decide +kernel
theorem dX12_looks_20 : decode cX12_looks 20 = .ok (.istore_n 3, 1) := by decide +kernel
theorem dX12_looks_21 : decode cX12_looks 21 = .ok (.iconst 0, 1) := by decide +kernel
theorem dX12_looks_22 : decode cX12_looks 22 = .ok (.istore 4, 2) := by decide +kernel
theorem dX12_looks_24 : decode cX12_looks 24 = .ok (.iload 4, 2) := by decide +kernel
theorem dX12_looks_26 : decode cX12_looks 26 = .ok (.bipush 19, 2) := by decide +kernel
theorem dX12_looks_28 : decode cX12_looks 28 = .ok (.if_icmp .ge 139, 3) := by decide +kernel
theorem dX12_looks_31 : decode cX12_looks 31 = .ok (.aload_n 0, 1) := by decide +kernel
theorem dX12_looks_32 : decode cX12_looks 32 = .ok (.getfield 348, 3) := by decide +kernel
theorem dX12_looks_35 : decode cX12_looks 35 = .ok (.iload 4, 2) := by decide +kernel
theorem dX12_looks_37 : decode cX12_looks 37 = .ok (.invokestatic 129, 3) := by decide +kernel
theorem dX12_looks_40 : decode cX12_looks 40 = .ok (.ifCond .eq 121, 3) := by decide +kernel
theorem dX12_looks_43 : decode cX12_looks 43 = .ok (.iload 4, 2) := by decide +kernel
theorem dX12_looks_45 : decode cX12_looks 45 = .ok (.iconst 2, 1) := by decide +kernel
theorem dX12_looks_46 : decode cX12_looks 46 = .ok (.invokestatic 357, 3) := by decide +kernel
theorem dX12_looks_49 : decode cX12_looks 49 = .ok (.iload_n 1, 1) := by decide +kernel
theorem dX12_looks_50 : decode cX12_looks 50 = .ok (.invokestatic 20, 3) := by decide +kernel
theorem dX12_looks_53 : decode cX12_looks 53 = .ok (.if_icmp .eq 6, 3) := by decide +kernel
theorem dX12_looks_56 : decode cX12_looks 56 = .ok (.goto 105, 3) := by decide +kernel
theorem dX12_looks_59 : decode cX12_looks 59 = .ok (.iconst 0, 1) := by decide +kernel
theorem dX12_looks_60 : decode cX12_looks 60 = .ok (.istore 5, 2) := by decide +kernel
theorem dX12_looks_62 : decode cX12_looks 62 = .ok (.iload 5, 2) := by decide +kernel
theorem dX12_looks_64 : decode cX12_looks 64 = .ok (.bipush 24, 2) := by decide +kernel
theorem dX12_looks_66 : decode cX12_looks 66 = .ok (.if_icmp .ge 95, 3) := by decide +kernel
theorem dX12_looks_69 : decode cX12_looks 69 = .ok (.iload 4, 2) := by decide +kernel
theorem dX12_looks_71 : decode cX12_looks 71 = .ok (.iload_n 3, 1) := by decide +kernel
theorem dX12_looks_72 : decode cX12_looks 72 = .ok (.iload 5, 2) := by decide +kernel
theorem dX12_looks_74 : decode cX12_looks 74 = .ok (.invokestatic 381, 3) := by decide +kernel
theorem dX12_looks_77 : decode cX12_looks 77 = .ok (.istore 6, 2) := by decide +kernel
theorem dX12_looks_79 : decode cX12_looks 79 = .ok (.iload 4, 2) := by decide +kernel
theorem dX12_looks_81 : decode cX12_looks 81 = .ok (.iload_n 2, 1) := by decide +kernel
theorem dX12_looks_82 : decode cX12_looks 82 = .ok (.iload 5, 2) := by decide +kernel
theorem dX12_looks_84 : decode cX12_looks 84 = .ok (.invokestatic 384, 3) := by decide +kernel
theorem dX12_looks_87 : decode cX12_looks 87 = .ok (.istore 7, 2) := by decide +kernel
theorem dX12_looks_89 : decode cX12_looks 89 = .ok (.aload_n 0, 1) := by decide +kernel
theorem dX12_looks_90 : decode cX12_looks 90 = .ok (.getfield 387, 3) := by decide +kernel
theorem dX12_looks_93 : decode cX12_looks 93 = .ok (.iload 6, 2) := by decide +kernel
theorem dX12_looks_95 : decode cX12_looks 95 = .ok (.iaload, 1) := by decide +kernel
theorem dX12_looks_96 : decode cX12_looks 96 = .ok (.ldc 249, 2) := by decide +kernel
theorem dX12_looks_98 : decode cX12_looks 98 = .ok (.if_icmp .ge 57, 3) := by decide +kernel
theorem dX12_looks_101 : decode cX12_looks 101 = .ok (.aload_n 0, 1) := by decide +kernel
theorem dX12_looks_102 : decode cX12_looks 102 = .ok (.getfield 387, 3) := by decide +kernel
theorem dX12_looks_105 : decode cX12_looks 105 = .ok (.iload 7, 2) := by decide +kernel
theorem dX12_looks_107 : decode cX12_looks 107 = .ok (.iaload, 1) := by decide +kernel
theorem dX12_looks_108 : decode cX12_looks 108 = .ok (.ldc 249, 2) := by decide +kernel
theorem dX12_looks_110 : decode cX12_looks 110 = .ok (.if_icmp .ge 45, 3) := by decide +kernel
theorem dX12_looks_113 : decode cX12_looks 113 = .ok (.aload_n 0, 1) := by decide +kernel
theorem dX12_looks_114 : decode cX12_looks 114 = .ok (.iload 4, 2) := by decide +kernel
theorem dX12_looks_116 : decode cX12_looks 116 = .ok (.iload 6, 2) := by decide +kernel
theorem dX12_looks_118 : decode cX12_looks 118 = .ok (.iload 7, 2) := by decide +kernel
theorem dX12_looks_120 : decode cX12_looks 120 = .ok (.iconst 1, 1) := by decide +kernel
theorem dX12_looks_121 : decode cX12_looks 121 = .ok (.invokevirtual 365, 3) := by decide +kernel
theorem dX12_looks_124 : decode cX12_looks 124 = .ok (.iload_n 1, 1) := by decide +kernel
theorem dX12_looks_125 : decode cX12_looks 125 = .ok (.if_icmp .ne 30, 3) := by decide +kernel
theorem dX12_looks_128 : decode cX12_looks 128 = .ok (.aload_n 0, 1) := by decide +kernel
theorem dX12_looks_129 : decode cX12_looks 129 = .ok (.iload 4, 2) := by decide +kernel
theorem dX12_looks_131 : decode cX12_looks 131 = .ok (.iconst 1, 1) := by decide +kernel
theorem dX12_looks_132 : decode cX12_looks 132 = .ok (.aload_n 0, 1) := by decide +kernel
theorem dX12_looks_133 : decode cX12_looks 133 = .ok (.getfield 387, 3) := by decide +kernel
theorem dX12_looks_136 : decode cX12_looks 136 = .ok (.iload 6, 2) := by decide +kernel
theorem dX12_looks_138 : decode cX12_looks 138 = .ok (.iaload, 1) := by decide +kernel
theorem dX12_looks_139 : decode cX12_looks 139 = .ok (.iadd, 1) := by decide +kernel
theorem dX12_looks_140 : decode cX12_looks 140 = .ok (.aload_n 0, 1) := by decide +kernel
theorem dX12_looks_141 : decode cX12_looks 141 = .ok (.getfield 387, 3) := by decide +kernel
theorem dX12_looks_144 : decode cX12_looks 144 = .ok (.iload 7, 2) := by decide +kernel
theorem dX12_looks_146 : decode cX12_looks 146 = .ok (.iaload, 1) := by decide +kernel
theorem dX12_looks_147 : decode cX12_looks 147 = .ok (.iadd, 1) := by decide +kernel
theorem dX12_looks_148 : decode cX12_looks 148 = .ok (.iload 6, 2) := by decide +kernel
theorem dX12_looks_150 : decode cX12_looks 150 = .ok (.iload 7, 2) := by decide +kernel
theorem dX12_looks_152 : decode cX12_looks 152 = .ok (.invokevirtual 390, 3) := by decide +kernel
theorem dX12_looks_155 : decode cX12_looks 155 = .ok (.iinc 5 1, 3) := by decide +kernel
theorem dX12_looks_158 : decode cX12_looks 158 = .ok (.goto (-96), 3) := by decide +kernel
theorem dX12_looks_161 : decode cX12_looks 161 = .ok (.iinc 4 1, 3) := by decide +kernel
theorem dX12_looks_164 : decode cX12_looks 164 = .ok (.goto (-140), 3) := by decide +kernel
theorem dX12_looks_167 : decode cX12_looks 167 = .ok (.bipush 19, 2) := by decide +kernel
theorem dX12_looks_169 : decode cX12_looks 169 = .ok (.istore 4, 2) := by decide +kernel
theorem dX12_looks_171 : decode cX12_looks 171 = .ok (.iload 4, 2) := by decide +kernel
theorem dX12_looks_173 : decode cX12_looks 173 = .ok (.bipush 22, 2) := by decide +kernel
theorem dX12_looks_175 : decode cX12_looks 175 = .ok (.if_icmp .ge 162, 3) := by decide +kernel
theorem dX12_looks_178 : decode cX12_looks 178 = .ok (.iload 4, 2) := by decide +kernel
theorem dX12_looks_180 : decode cX12_looks 180 = .ok (.bipush 19, 2) := by decide +kernel
theorem dX12_looks_182 : decode cX12_looks 182 = .ok (.if_icmp .ne 10, 3) := by decide +kernel
theorem dX12_looks_185 : decode cX12_looks 185 = .ok (.iload_n 1, 1) := by decide +kernel
theorem dX12_looks_186 : decode cX12_looks 186 = .ok (.invokestatic 20, 3) := by decide +kernel
theorem dX12_looks_189 : decode cX12_looks 189 = .ok (.goto 25, 3) := by decide +kernel
theorem dX12_looks_192 : decode cX12_looks 192 = .ok (.iload 4, 2) := by decide +kernel
theorem dX12_looks_194 : decode cX12_looks 194 = .ok (.bipush 20, 2) := by decide +kernel
theorem dX12_looks_196 : decode cX12_looks 196 = .ok (.if_icmp .ne 12, 3) := by decide +kernel
theorem dX12_looks_199 : decode cX12_looks 199 = .ok (.iload_n 1, 1) := by decide +kernel
theorem dX12_looks_200 : decode cX12_looks 200 = .ok (.invokestatic 20, 3) := by decide +kernel
theorem dX12_looks_203 : decode cX12_looks 203 = .ok (.iconst 1, 1) := by decide +kernel
theorem dX12_looks_204 : decode cX12_looks 204 = .ok (.ixor, 1) := by decide +kernel
theorem dX12_looks_205 : decode cX12_looks 205 = .ok (.goto 9, 3) := by decide +kernel
theorem dX12_looks_208 : decode cX12_looks 208 = .ok (.iload_n 1, 1) := by decide +kernel
theorem dX12_looks_209 : decode cX12_looks 209 = .ok (.invokestatic 20, 3) := by decide +kernel
theorem dX12_looks_212 : decode cX12_looks 212 = .ok (.iconst 2, 1) := by decide +kernel
theorem dX12_looks_213 : decode cX12_looks 213 = .ok (.isub, 1) := by decide +kernel
theorem dX12_looks_214 : decode cX12_looks 214 = .ok (.istore 5, 2) := by decide +kernel
theorem dX12_looks_216 : decode cX12_looks 216 = .ok (.iload 5, 2) := by decide +kernel
theorem dX12_looks_218 : decode cX12_looks 218 = .ok (.ifCond .ge 7, 3) := by decide +kernel
theorem dX12_looks_221 : decode cX12_looks 221 = .ok (.iconst (-1), 1) := by decide +kernel
theorem dX12_looks_222 : decode cX12_looks 222 = .ok (.goto 46, 3) := by decide +kernel
theorem dX12_looks_225 : decode cX12_looks 225 = .ok (.iload 4, 2) := by decide +kernel
theorem dX12_looks_227 : decode cX12_looks 227 = .ok (.bipush 19, 2) := by decide +kernel
theorem dX12_looks_229 : decode cX12_looks 229 = .ok (.if_icmp .ne 13, 3) := by decide +kernel
theorem dX12_looks_232 : decode cX12_looks 232 = .ok (.iload 5, 2) := by decide +kernel
theorem dX12_looks_234 : decode cX12_looks 234 = .ok (.iload_n 3, 1) := by decide +kernel
theorem dX12_looks_235 : decode cX12_looks 235 = .ok (.iload_n 2, 1) := by decide +kernel
theorem dX12_looks_236 : decode cX12_looks 236 = .ok (.invokestatic 30, 3) := by decide +kernel
theorem dX12_looks_239 : decode cX12_looks 239 = .ok (.goto 29, 3) := by decide +kernel
theorem dX12_looks_242 : decode cX12_looks 242 = .ok (.iload 4, 2) := by decide +kernel
theorem dX12_looks_244 : decode cX12_looks 244 = .ok (.bipush 20, 2) := by decide +kernel
theorem dX12_looks_246 : decode cX12_looks 246 = .ok (.if_icmp .ne 15, 3) := by decide +kernel
theorem dX12_looks_249 : decode cX12_looks 249 = .ok (.iload 5, 2) := by decide +kernel
theorem dX12_looks_251 : decode cX12_looks 251 = .ok (.iload_n 2, 1) := by decide +kernel
theorem dX12_looks_252 : decode cX12_looks 252 = .ok (.iload_n 3, 1) := by decide +kernel
theorem dX12_looks_253 : decode cX12_looks 253 = .ok (.iconst 1, 1) := by decide +kernel
theorem dX12_looks_254 : decode cX12_looks 254 = .ok (.ixor, 1) := by decide +kernel
theorem dX12_looks_255 : decode cX12_looks 255 = .ok (.invokestatic 30, 3) := by decide +kernel
theorem dX12_looks_258 : decode cX12_looks 258 = .ok (.goto 10, 3) := by decide +kernel
theorem dX12_looks_261 : decode cX12_looks 261 = .ok (.iload 5, 2) := by decide +kernel
theorem dX12_looks_263 : decode cX12_looks 263 = .ok (.iload_n 2, 1) := by decide +kernel
theorem dX12_looks_264 : decode cX12_looks 264 = .ok (.iload_n 3, 1) := by decide +kernel
theorem dX12_looks_265 : decode cX12_looks 265 = .ok (.invokestatic 30, 3) := by decide +kernel
theorem dX12_looks_268 : decode cX12_looks 268 = .ok (.istore 6, 2) := by decide +kernel
theorem dX12_looks_270 : decode cX12_looks 270 = .ok (.aload_n 0, 1) := by decide +kernel
theorem dX12_looks_271 : decode cX12_looks 271 = .ok (.getfield 348, 3) := by decide +kernel
theorem dX12_looks_274 : decode cX12_looks 274 = .ok (.iload 4, 2) := by decide +kernel
theorem dX12_looks_276 : decode cX12_looks 276 = .ok (.invokestatic 129, 3) := by decide +kernel
theorem dX12_looks_279 : decode cX12_looks 279 = .ok (.ifCond .eq 52, 3) := by decide +kernel
theorem dX12_looks_282 : decode cX12_looks 282 = .ok (.iload 6, 2) := by decide +kernel
theorem dX12_looks_284 : decode cX12_looks 284 = .ok (.ifCond .lt 47, 3) := by decide +kernel
theorem dX12_looks_287 : decode cX12_looks 287 = .ok (.aload_n 0, 1) := by decide +kernel
theorem dX12_looks_288 : decode cX12_looks 288 = .ok (.getfield 387, 3) := by decide +kernel
theorem dX12_looks_291 : decode cX12_looks 291 = .ok (.iload 6, 2) := by decide +kernel
theorem dX12_looks_293 : decode cX12_looks 293 = .ok (.iaload, 1) := by decide +kernel
theorem dX12_looks_294 : decode cX12_looks 294 = .ok (.ldc 249, 2) := by decide +kernel
theorem dX12_looks_296 : decode cX12_looks 296 = .ok (.if_icmp .ge 35, 3) := by decide +kernel
theorem dX12_looks_299 : decode cX12_looks 299 = .ok (.aload_n 0, 1) := by decide +kernel
theorem dX12_looks_300 : decode cX12_looks 300 = .ok (.iload 4, 2) := by decide +kernel
theorem dX12_looks_302 : decode cX12_looks 302 = .ok (.iload 6, 2) := by decide +kernel
theorem dX12_looks_304 : decode cX12_looks 304 = .ok (.iconst (-1), 1) := by decide +kernel
theorem dX12_looks_305 : decode cX12_looks 305 = .ok (.iconst 1, 1) := by decide +kernel
theorem dX12_looks_306 : decode cX12_looks 306 = .ok (.invokevirtual 365, 3) := by decide +kernel
theorem dX12_looks_309 : decode cX12_looks 309 = .ok (.iload_n 1, 1) := by decide +kernel
theorem dX12_looks_310 : decode cX12_looks 310 = .ok (.if_icmp .ne 21, 3) := by decide +kernel
theorem dX12_looks_313 : decode cX12_looks 313 = .ok (.aload_n 0, 1) := by decide +kernel
theorem dX12_looks_314 : decode cX12_looks 314 = .ok (.iload 4, 2) := by decide +kernel
theorem dX12_looks_316 : decode cX12_looks 316 = .ok (.iconst 1, 1) := by decide +kernel
theorem dX12_looks_317 : decode cX12_looks 317 = .ok (.aload_n 0, 1) := by decide +kernel
theorem dX12_looks_318 : decode cX12_looks 318 = .ok (.getfield 387, 3) := by decide +kernel
theorem dX12_looks_321 : decode cX12_looks 321 = .ok (.iload 6, 2) := by decide +kernel
theorem dX12_looks_323 : decode cX12_looks 323 = .ok (.iaload, 1) := by decide +kernel
theorem dX12_looks_324 : decode cX12_looks 324 = .ok (.iadd, 1) := by decide +kernel
theorem dX12_looks_325 : decode cX12_looks 325 = .ok (.iload 6, 2) := by decide +kernel
theorem dX12_looks_327 : decode cX12_looks 327 = .ok (.iconst (-1), 1) := by decide +kernel
theorem dX12_looks_328 : decode cX12_looks 328 = .ok (.invokevirtual 390, 3) := by decide +kernel
theorem dX12_looks_331 : decode cX12_looks 331 = .ok (.iinc 4 1, 3) := by decide +kernel
theorem dX12_looks_334 : decode cX12_looks 334 = .ok (.goto (-163), 3) := by decide +kernel
theorem dX12_looks_337 : decode cX12_looks 337 = .ok (.return_, 1) := by decide +kernel
theorem dX12_provesAll_0 : decode cX12_provesAll 0 = .ok (.iconst 0, 1) := by decide +kernel
theorem dX12_provesAll_1 : decode cX12_provesAll 1 = .ok (.istore_n 1, 1) := by decide +kernel
theorem dX12_provesAll_2 : decode cX12_provesAll 2 = .ok (.iload_n 1, 1) := by decide +kernel
theorem dX12_provesAll_3 : decode cX12_provesAll 3 = .ok (.sipush 2304, 3) := by decide +kernel
theorem dX12_provesAll_6 : decode cX12_provesAll 6 = .ok (.if_icmp .ge 17, 3) := by decide +kernel
theorem dX12_provesAll_9 : decode cX12_provesAll 9 = .ok (.aload_n 0, 1) := by decide +kernel
theorem dX12_provesAll_10 : decode cX12_provesAll 10 = .ok (.getfield 387, 3) := by decide +kernel
theorem dX12_provesAll_13 : decode cX12_provesAll 13 = .ok (.iload_n 1, 1) := by decide +kernel
theorem dX12_provesAll_14 : decode cX12_provesAll 14 = .ok (.ldc 249, 2) := by decide +kernel
theorem dX12_provesAll_16 : decode cX12_provesAll 16 = .ok (.iastore, 1) := by decide +kernel
theorem dX12_provesAll_17 : decode cX12_provesAll 17 = .ok (.iinc 1 1, 3) := by decide +kernel
theorem dX12_provesAll_20 : decode cX12_provesAll 20 = .ok (.goto (-18), 3) := by decide +kernel
theorem dX12_provesAll_23 : decode cX12_provesAll 23 = .ok (.iconst 0, 1) := by decide +kernel
theorem dX12_provesAll_24 : decode cX12_provesAll 24 = .ok (.istore_n 1, 1) := by decide +kernel
theorem dX12_provesAll_25 : decode cX12_provesAll 25 = .ok (.iload_n 1, 1) := by decide +kernel
theorem dX12_provesAll_26 : decode cX12_provesAll 26 = .ok (.aload_n 0, 1) := by decide +kernel
theorem dX12_provesAll_27 : decode cX12_provesAll 27 = .ok (.getfield 105, 3) := by decide +kernel
theorem dX12_provesAll_30 : decode cX12_provesAll 30 = .ok (.if_icmp .ge 46, 3) := by decide +kernel
theorem dX12_provesAll_33 : decode cX12_provesAll 33 = .ok (.aload_n 0, 1) := by decide +kernel
theorem dX12_provesAll_34 : decode cX12_provesAll 34 = .ok (.getfield 387, 3) := by decide +kernel
theorem dX12_provesAll_37 : decode cX12_provesAll 37 = .ok (.aload_n 0, 1) := by decide +kernel
theorem dX12_provesAll_38 : decode cX12_provesAll 38 = .ok (.getfield 87, 3) := by decide +kernel
theorem dX12_provesAll_41 : decode cX12_provesAll 41 = .ok (.iload_n 1, 1) := by decide +kernel
theorem dX12_provesAll_42 : decode cX12_provesAll 42 = .ok (.iaload, 1) := by decide +kernel
theorem dX12_provesAll_43 : decode cX12_provesAll 43 = .ok (.aload_n 0, 1) := by decide +kernel
theorem dX12_provesAll_44 : decode cX12_provesAll 44 = .ok (.getfield 126, 3) := by decide +kernel
theorem dX12_provesAll_47 : decode cX12_provesAll 47 = .ok (.iload_n 1, 1) := by decide +kernel
theorem dX12_provesAll_48 : decode cX12_provesAll 48 = .ok (.invokestatic 129, 3) := by decide +kernel
theorem dX12_provesAll_51 : decode cX12_provesAll 51 = .ok (.ifCond .eq 17, 3) := by decide +kernel
theorem dX12_provesAll_54 : decode cX12_provesAll 54 = .ok (.aload_n 0, 1) := by decide +kernel
theorem dX12_provesAll_55 : decode cX12_provesAll 55 = .ok (.getfield 387, 3) := by decide +kernel
theorem dX12_provesAll_58 : decode cX12_provesAll 58 = .ok (.aload_n 0, 1) := by decide +kernel
theorem dX12_provesAll_59 : decode cX12_provesAll 59 = .ok (.getfield 87, 3) := by decide +kernel
theorem dX12_provesAll_62 : decode cX12_provesAll 62 = .ok (.iload_n 1, 1) := by decide +kernel
theorem dX12_provesAll_63 : decode cX12_provesAll 63 = .ok (.iaload, 1) := by decide +kernel
theorem dX12_provesAll_64 : decode cX12_provesAll 64 = .ok (.iaload, 1) := by decide +kernel
theorem dX12_provesAll_65 : decode cX12_provesAll 65 = .ok (.goto 4, 3) := by decide +kernel
theorem dX12_provesAll_68 : decode cX12_provesAll 68 = .ok (.iconst 0, 1) := by decide +kernel
theorem dX12_provesAll_69 : decode cX12_provesAll 69 = .ok (.iastore, 1) := by decide +kernel
theorem dX12_provesAll_70 : decode cX12_provesAll 70 = .ok (.iinc 1 1, 3) := by decide +kernel
theorem dX12_provesAll_73 : decode cX12_provesAll 73 = .ok (.goto (-48), 3) := by decide +kernel
theorem dX12_provesAll_76 : decode cX12_provesAll 76 = .ok (.iconst 1, 1) := by decide +kernel
theorem dX12_provesAll_77 : decode cX12_provesAll 77 = .ok (.istore_n 1, 1) := by decide +kernel
theorem dX12_provesAll_78 : decode cX12_provesAll 78 = .ok (.iload_n 1, 1) := by decide +kernel
theorem dX12_provesAll_79 : decode cX12_provesAll 79 = .ok (.ifCond .eq 53, 3) := by decide +kernel
theorem dX12_provesAll_82 : decode cX12_provesAll 82 = .ok (.iconst 0, 1) := by decide +kernel
theorem dX12_provesAll_83 : decode cX12_provesAll 83 = .ok (.istore_n 1, 1) := by decide +kernel
theorem dX12_provesAll_84 : decode cX12_provesAll 84 = .ok (.iconst 0, 1) := by decide +kernel
theorem dX12_provesAll_85 : decode cX12_provesAll 85 = .ok (.istore_n 2, 1) := by decide +kernel
theorem dX12_provesAll_86 : decode cX12_provesAll 86 = .ok (.iload_n 2, 1) := by decide +kernel
theorem dX12_provesAll_87 : decode cX12_provesAll 87 = .ok (.sipush 2304, 3) := by decide +kernel
theorem dX12_provesAll_90 : decode cX12_provesAll 90 = .ok (.if_icmp .ge 39, 3) := by decide +kernel
theorem dX12_provesAll_93 : decode cX12_provesAll 93 = .ok (.aload_n 0, 1) := by decide +kernel
theorem dX12_provesAll_94 : decode cX12_provesAll 94 = .ok (.iload_n 2, 1) := by decide +kernel
theorem dX12_provesAll_95 : decode cX12_provesAll 95 = .ok (.invokevirtual 394, 3) := by decide +kernel
theorem dX12_provesAll_98 : decode cX12_provesAll 98 = .ok (.aload_n 0, 1) := by decide +kernel
theorem dX12_provesAll_99 : decode cX12_provesAll 99 = .ok (.getfield 369, 3) := by decide +kernel
theorem dX12_provesAll_102 : decode cX12_provesAll 102 = .ok (.aload_n 0, 1) := by decide +kernel
theorem dX12_provesAll_103 : decode cX12_provesAll 103 = .ok (.getfield 387, 3) := by decide +kernel
theorem dX12_provesAll_106 : decode cX12_provesAll 106 = .ok (.iload_n 2, 1) := by decide +kernel
theorem dX12_provesAll_107 : decode cX12_provesAll 107 = .ok (.iaload, 1) := by decide +kernel
theorem dX12_provesAll_108 : decode cX12_provesAll 108 = .ok (.if_icmp .ge 15, 3) := by decide +kernel
theorem dX12_provesAll_111 : decode cX12_provesAll 111 = .ok (.aload_n 0, 1) := by decide +kernel
theorem dX12_provesAll_112 : decode cX12_provesAll 112 = .ok (.getfield 387, 3) := by decide +kernel
theorem dX12_provesAll_115 : decode cX12_provesAll 115 = .ok (.iload_n 2, 1) := by decide +kernel
theorem dX12_provesAll_116 : decode cX12_provesAll 116 = .ok (.aload_n 0, 1) := by decide +kernel
theorem dX12_provesAll_117 : decode cX12_provesAll 117 = .ok (.getfield 369, 3) := by decide +kernel
theorem dX12_provesAll_120 : decode cX12_provesAll 120 = .ok (.iastore, 1) := by decide +kernel
theorem dX12_provesAll_121 : decode cX12_provesAll 121 = .ok (.iconst 1, 1) := by decide +kernel
theorem dX12_provesAll_122 : decode cX12_provesAll 122 = .ok (.istore_n 1, 1) := by decide +kernel
theorem dX12_provesAll_123 : decode cX12_provesAll 123 = .ok (.iinc 2 1, 3) := by decide +kernel
theorem dX12_provesAll_126 : decode cX12_provesAll 126 = .ok (.goto (-40), 3) := by decide +kernel
theorem dX12_provesAll_129 : decode cX12_provesAll 129 = .ok (.goto (-51), 3) := by decide +kernel
theorem dX12_provesAll_132 : decode cX12_provesAll 132 = .ok (.return_, 1) := by decide +kernel
theorem dX12_proof_0 : decode cX12_proof 0 = .ok (.aload_n 0, 1) := by decide +kernel
theorem dX12_proof_1 : decode cX12_proof 1 = .ok (.iconst 0, 1) := by decide +kernel
theorem dX12_proof_2 : decode cX12_proof 2 = .ok (.putfield 3, 3) := by decide +kernel
theorem dX12_proof_5 : decode cX12_proof 5 = .ok (.iload_n 1, 1) := by decide +kernel
theorem dX12_proof_6 : decode cX12_proof 6 = .ok (.invokestatic 142, 3) := by decide +kernel
theorem dX12_proof_9 : decode cX12_proof 9 = .ok (.ifCond .ne 5, 3) := by decide +kernel
theorem dX12_proof_12 : decode cX12_proof 12 = .ok (.iconst (-1), 1) := by decide +kernel
theorem dX12_proof_13 : decode cX12_proof 13 = .ok (.ireturn, 1) := by decide +kernel
theorem dX12_proof_14 : decode cX12_proof 14 = .ok (.aload_n 0, 1) := by decide +kernel
theorem dX12_proof_15 : decode cX12_proof 15 = .ok (.invokevirtual 397, 3) := by decide +kernel
theorem dX12_proof_18 : decode cX12_proof 18 = .ok (.aload_n 0, 1) := by decide +kernel
theorem dX12_proof_19 : decode cX12_proof 19 = .ok (.getfield 387, 3) := by decide +kernel
theorem dX12_proof_22 : decode cX12_proof 22 = .ok (.iload_n 1, 1) := by decide +kernel
theorem dX12_proof_23 : decode cX12_proof 23 = .ok (.iaload, 1) := by decide +kernel
theorem dX12_proof_24 : decode cX12_proof 24 = .ok (.ldc 249, 2) := by decide +kernel
theorem dX12_proof_26 : decode cX12_proof 26 = .ok (.if_icmp .ne 6, 3) := by decide +kernel
theorem dX12_proof_29 : decode cX12_proof 29 = .ok (.bipush (-2), 2) := by decide +kernel
theorem dX12_proof_31 : decode cX12_proof 31 = .ok (.ireturn, 1) := by decide +kernel
theorem dX12_proof_32 : decode cX12_proof 32 = .ok (.aload_n 0, 1) := by decide +kernel
theorem dX12_proof_33 : decode cX12_proof 33 = .ok (.getfield 387, 3) := by decide +kernel
theorem dX12_proof_36 : decode cX12_proof 36 = .ok (.iload_n 1, 1) := by decide +kernel
theorem dX12_proof_37 : decode cX12_proof 37 = .ok (.iaload, 1) := by decide +kernel
theorem dX12_proof_38 : decode cX12_proof 38 = .ok (.ifCond .le 8, 3) := by decide +kernel
theorem dX12_proof_41 : decode cX12_proof 41 = .ok (.aload_n 0, 1) := by decide +kernel
theorem dX12_proof_42 : decode cX12_proof 42 = .ok (.iload_n 1, 1) := by decide +kernel
theorem dX12_proof_43 : decode cX12_proof 43 = .ok (.invokevirtual 394, 3) := by decide +kernel
theorem dX12_proof_46 : decode cX12_proof 46 = .ok (.aload_n 0, 1) := by decide +kernel
theorem dX12_proof_47 : decode cX12_proof 47 = .ok (.getfield 387, 3) := by decide +kernel
theorem dX12_proof_50 : decode cX12_proof 50 = .ok (.iload_n 1, 1) := by decide +kernel
theorem dX12_proof_51 : decode cX12_proof 51 = .ok (.iaload, 1) := by decide +kernel
theorem dX12_proof_52 : decode cX12_proof 52 = .ok (.ifCond .le 7, 3) := by decide +kernel
theorem dX12_proof_55 : decode cX12_proof 55 = .ok (.iconst 1, 1) := by decide +kernel
theorem dX12_proof_56 : decode cX12_proof 56 = .ok (.goto 4, 3) := by decide +kernel
theorem dX12_proof_59 : decode cX12_proof 59 = .ok (.iconst 0, 1) := by decide +kernel
theorem dX12_proof_60 : decode cX12_proof 60 = .ok (.istore_n 2, 1) := by decide +kernel
theorem dX12_proof_61 : decode cX12_proof 61 = .ok (.aload_n 0, 1) := by decide +kernel
theorem dX12_proof_62 : decode cX12_proof 62 = .ok (.iconst 0, 1) := by decide +kernel
theorem dX12_proof_63 : decode cX12_proof 63 = .ok (.putfield 11, 3) := by decide +kernel
theorem dX12_proof_66 : decode cX12_proof 66 = .ok (.aload_n 0, 1) := by decide +kernel
theorem dX12_proof_67 : decode cX12_proof 67 = .ok (.iload_n 2, 1) := by decide +kernel
theorem dX12_proof_68 : decode cX12_proof 68 = .ok (.ifCond .eq 10, 3) := by decide +kernel
theorem dX12_proof_71 : decode cX12_proof 71 = .ok (.aload_n 0, 1) := by decide +kernel
theorem dX12_proof_72 : decode cX12_proof 72 = .ok (.getfield 372, 3) := by decide +kernel
theorem dX12_proof_75 : decode cX12_proof 75 = .ok (.goto 4, 3) := by decide +kernel
theorem dX12_proof_78 : decode cX12_proof 78 = .ok (.iconst (-1), 1) := by decide +kernel
theorem dX12_proof_79 : decode cX12_proof 79 = .ok (.invokevirtual 221, 3) := by decide +kernel
theorem dX12_proof_82 : decode cX12_proof 82 = .ok (.aload_n 0, 1) := by decide +kernel
theorem dX12_proof_83 : decode cX12_proof 83 = .ok (.iload_n 2, 1) := by decide +kernel
theorem dX12_proof_84 : decode cX12_proof 84 = .ok (.ifCond .eq 10, 3) := by decide +kernel
theorem dX12_proof_87 : decode cX12_proof 87 = .ok (.aload_n 0, 1) := by decide +kernel
theorem dX12_proof_88 : decode cX12_proof 88 = .ok (.getfield 375, 3) := by decide +kernel
theorem dX12_proof_91 : decode cX12_proof 91 = .ok (.goto 4, 3) := by decide +kernel
theorem dX12_proof_94 : decode cX12_proof 94 = .ok (.iconst (-1), 1) := by decide +kernel
theorem dX12_proof_95 : decode cX12_proof 95 = .ok (.invokevirtual 221, 3) := by decide +kernel
theorem dX12_proof_98 : decode cX12_proof 98 = .ok (.aload_n 0, 1) := by decide +kernel
theorem dX12_proof_99 : decode cX12_proof 99 = .ok (.iload_n 2, 1) := by decide +kernel
theorem dX12_proof_100 : decode cX12_proof 100 = .ok (.ifCond .eq 10, 3) := by decide +kernel
theorem dX12_proof_103 : decode cX12_proof 103 = .ok (.aload_n 0, 1) := by decide +kernel
theorem dX12_proof_104 : decode cX12_proof 104 = .ok (.getfield 378, 3) := by decide +kernel
theorem dX12_proof_107 : decode cX12_proof 107 = .ok (.goto 4, 3) := by decide +kernel
theorem dX12_proof_110 : decode cX12_proof 110 = .ok (.iconst (-1), 1) := by decide +kernel
theorem dX12_proof_111 : decode cX12_proof 111 = .ok (.invokevirtual 221, 3) := by decide +kernel
theorem dX12_proof_114 : decode cX12_proof 114 = .ok (.aload_n 0, 1) := by decide +kernel
theorem dX12_proof_115 : decode cX12_proof 115 = .ok (.getfield 387, 3) := by decide +kernel
theorem dX12_proof_118 : decode cX12_proof 118 = .ok (.iload_n 1, 1) := by decide +kernel
theorem dX12_proof_119 : decode cX12_proof 119 = .ok (.iaload, 1) := by decide +kernel
theorem dX12_proof_120 : decode cX12_proof 120 = .ok (.ireturn, 1) := by decide +kernel
theorem dX12_restsOn_0 : decode cX12_restsOn 0 = .ok (.aload_n 2, 1) := by decide +kernel
theorem dX12_restsOn_1 : decode cX12_restsOn 1 = .ok (.iconst 0, 1) := by decide +kernel
theorem dX12_restsOn_2 : decode cX12_restsOn 2 = .ok (.iconst 0, 1) := by decide +kernel
theorem dX12_restsOn_3 : decode cX12_restsOn 3 = .ok (.iastore, 1) := by decide +kernel
theorem dX12_restsOn_4 : decode cX12_restsOn 4 = .ok (.aload_n 0, 1) := by decide +kernel
theorem dX12_restsOn_5 : decode cX12_restsOn 5 = .ok (.getfield 387, 3) := by decide +kernel
theorem dX12_restsOn_8 : decode cX12_restsOn 8 = .ok (.iload_n 1, 1) := by decide +kernel
theorem dX12_restsOn_9 : decode cX12_restsOn 9 = .ok (.iaload, 1) := by decide +kernel
theorem dX12_restsOn_10 : decode cX12_restsOn 10 = .ok (.ifCond .ne 36, 3) := by decide +kernel
theorem dX12_restsOn_13 : decode cX12_restsOn 13 = .ok (.iconst 0, 1) := by decide +kernel
theorem dX12_restsOn_14 : decode cX12_restsOn 14 = .ok (.istore_n 3, 1) := by decide +kernel
theorem dX12_restsOn_15 : decode cX12_restsOn 15 = .ok (.aload_n 0, 1) := by decide +kernel
theorem dX12_restsOn_16 : decode cX12_restsOn 16 = .ok (.getfield 87, 3) := by decide +kernel
theorem dX12_restsOn_19 : decode cX12_restsOn 19 = .ok (.iload_n 3, 1) := by decide +kernel
theorem dX12_restsOn_20 : decode cX12_restsOn 20 = .ok (.iaload, 1) := by decide +kernel
theorem dX12_restsOn_21 : decode cX12_restsOn 21 = .ok (.iload_n 1, 1) := by decide +kernel
theorem dX12_restsOn_22 : decode cX12_restsOn 22 = .ok (.if_icmp .ne 14, 3) := by decide +kernel
theorem dX12_restsOn_25 : decode cX12_restsOn 25 = .ok (.aload_n 0, 1) := by decide +kernel
theorem dX12_restsOn_26 : decode cX12_restsOn 26 = .ok (.getfield 126, 3) := by decide +kernel
theorem dX12_restsOn_29 : decode cX12_restsOn 29 = .ok (.iload_n 3, 1) := by decide +kernel
theorem dX12_restsOn_30 : decode cX12_restsOn 30 = .ok (.invokestatic 129, 3) := by decide +kernel
theorem dX12_restsOn_33 : decode cX12_restsOn 33 = .ok (.ifCond .eq 9, 3) := by decide +kernel
theorem dX12_restsOn_36 : decode cX12_restsOn 36 = .ok (.iinc 3 1, 3) := by decide +kernel
theorem dX12_restsOn_39 : decode cX12_restsOn 39 = .ok (.goto (-24), 3) := by decide +kernel
theorem dX12_restsOn_42 : decode cX12_restsOn 42 = .ok (.iconst 1, 1) := by decide +kernel
theorem dX12_restsOn_43 : decode cX12_restsOn 43 = .ok (.iload_n 3, 1) := by decide +kernel
theorem dX12_restsOn_44 : decode cX12_restsOn 44 = .ok (.ishl, 1) := by decide +kernel
theorem dX12_restsOn_45 : decode cX12_restsOn 45 = .ok (.ireturn, 1) := by decide +kernel
theorem dX12_restsOn_46 : decode cX12_restsOn 46 = .ok (.aload_n 0, 1) := by decide +kernel
theorem dX12_restsOn_47 : decode cX12_restsOn 47 = .ok (.iload_n 1, 1) := by decide +kernel
theorem dX12_restsOn_48 : decode cX12_restsOn 48 = .ok (.invokevirtual 394, 3) := by decide +kernel
theorem dX12_restsOn_51 : decode cX12_restsOn 51 = .ok (.aload_n 0, 1) := by decide +kernel
theorem dX12_restsOn_52 : decode cX12_restsOn 52 = .ok (.getfield 375, 3) := by decide +kernel
theorem dX12_restsOn_55 : decode cX12_restsOn 55 = .ok (.istore_n 3, 1) := by decide +kernel
theorem dX12_restsOn_56 : decode cX12_restsOn 56 = .ok (.aload_n 0, 1) := by decide +kernel
theorem dX12_restsOn_57 : decode cX12_restsOn 57 = .ok (.getfield 378, 3) := by decide +kernel
theorem dX12_restsOn_60 : decode cX12_restsOn 60 = .ok (.istore 4, 2) := by decide +kernel
theorem dX12_restsOn_62 : decode cX12_restsOn 62 = .ok (.aload_n 0, 1) := by decide +kernel
theorem dX12_restsOn_63 : decode cX12_restsOn 63 = .ok (.dup, 1) := by decide +kernel
theorem dX12_restsOn_64 : decode cX12_restsOn 64 = .ok (.getfield 400, 3) := by decide +kernel
theorem dX12_restsOn_67 : decode cX12_restsOn 67 = .ok (.iconst 1, 1) := by decide +kernel
theorem dX12_restsOn_68 : decode cX12_restsOn 68 = .ok (.aload_n 0, 1) := by decide +kernel
theorem dX12_restsOn_69 : decode cX12_restsOn 69 = .ok (.getfield 372, 3) := by decide +kernel
theorem dX12_restsOn_72 : decode cX12_restsOn 72 = .ok (.ishl, 1) := by decide +kernel
theorem dX12_restsOn_73 : decode cX12_restsOn 73 = .ok (.ior, 1) := by decide +kernel
theorem dX12_restsOn_74 : decode cX12_restsOn 74 = .ok (.putfield 400, 3) := by decide +kernel
theorem dX12_restsOn_77 : decode cX12_restsOn 77 = .ok (.aload_n 0, 1) := by decide +kernel
theorem dX12_restsOn_78 : decode cX12_restsOn 78 = .ok (.iload_n 3, 1) := by decide +kernel
theorem dX12_restsOn_79 : decode cX12_restsOn 79 = .ok (.aload_n 2, 1) := by decide +kernel
theorem dX12_restsOn_80 : decode cX12_restsOn 80 = .ok (.invokevirtual 403, 3) := by decide +kernel
theorem dX12_restsOn_83 : decode cX12_restsOn 83 = .ok (.istore 5, 2) := by decide +kernel
theorem dX12_restsOn_85 : decode cX12_restsOn 85 = .ok (.aload_n 2, 1) := by decide +kernel
theorem dX12_restsOn_86 : decode cX12_restsOn 86 = .ok (.iconst 0, 1) := by decide +kernel
theorem dX12_restsOn_87 : decode cX12_restsOn 87 = .ok (.iaload, 1) := by decide +kernel
theorem dX12_restsOn_88 : decode cX12_restsOn 88 = .ok (.istore 6, 2) := by decide +kernel
theorem dX12_restsOn_90 : decode cX12_restsOn 90 = .ok (.iload 4, 2) := by decide +kernel
theorem dX12_restsOn_92 : decode cX12_restsOn 92 = .ok (.ifCond .lt 25, 3) := by decide +kernel
theorem dX12_restsOn_95 : decode cX12_restsOn 95 = .ok (.iload 5, 2) := by decide +kernel
theorem dX12_restsOn_97 : decode cX12_restsOn 97 = .ok (.aload_n 0, 1) := by decide +kernel
theorem dX12_restsOn_98 : decode cX12_restsOn 98 = .ok (.iload 4, 2) := by decide +kernel
theorem dX12_restsOn_100 : decode cX12_restsOn 100 = .ok (.aload_n 2, 1) := by decide +kernel
theorem dX12_restsOn_101 : decode cX12_restsOn 101 = .ok (.invokevirtual 403, 3) := by decide +kernel
theorem dX12_restsOn_104 : decode cX12_restsOn 104 = .ok (.ior, 1) := by decide +kernel
theorem dX12_restsOn_105 : decode cX12_restsOn 105 = .ok (.istore 5, 2) := by decide +kernel
theorem dX12_restsOn_107 : decode cX12_restsOn 107 = .ok (.iload 6, 2) := by decide +kernel
theorem dX12_restsOn_109 : decode cX12_restsOn 109 = .ok (.aload_n 2, 1) := by decide +kernel
theorem dX12_restsOn_110 : decode cX12_restsOn 110 = .ok (.iconst 0, 1) := by decide +kernel
theorem dX12_restsOn_111 : decode cX12_restsOn 111 = .ok (.iaload, 1) := by decide +kernel
theorem dX12_restsOn_112 : decode cX12_restsOn 112 = .ok (.invokestatic 407, 3) := by decide +kernel
theorem dX12_restsOn_115 : decode cX12_restsOn 115 = .ok (.istore 6, 2) := by decide +kernel
theorem dX12_restsOn_117 : decode cX12_restsOn 117 = .ok (.aload_n 2, 1) := by decide +kernel
theorem dX12_restsOn_118 : decode cX12_restsOn 118 = .ok (.iconst 0, 1) := by decide +kernel
theorem dX12_restsOn_119 : decode cX12_restsOn 119 = .ok (.iconst 1, 1) := by decide +kernel
theorem dX12_restsOn_120 : decode cX12_restsOn 120 = .ok (.iload 6, 2) := by decide +kernel
theorem dX12_restsOn_122 : decode cX12_restsOn 122 = .ok (.iadd, 1) := by decide +kernel
theorem dX12_restsOn_123 : decode cX12_restsOn 123 = .ok (.iastore, 1) := by decide +kernel
theorem dX12_restsOn_124 : decode cX12_restsOn 124 = .ok (.iload 5, 2) := by decide +kernel
theorem dX12_restsOn_126 : decode cX12_restsOn 126 = .ok (.ireturn, 1) := by decide +kernel
theorem dX12_rests_0 : decode cX12_rests 0 = .ok (.aload_n 0, 1) := by decide +kernel
theorem dX12_rests_1 : decode cX12_rests 1 = .ok (.iconst 0, 1) := by decide +kernel
theorem dX12_rests_2 : decode cX12_rests 2 = .ok (.putfield 3, 3) := by decide +kernel
theorem dX12_rests_5 : decode cX12_rests 5 = .ok (.iload_n 1, 1) := by decide +kernel
theorem dX12_rests_6 : decode cX12_rests 6 = .ok (.invokestatic 142, 3) := by decide +kernel
theorem dX12_rests_9 : decode cX12_rests 9 = .ok (.ifCond .ne 5, 3) := by decide +kernel
theorem dX12_rests_12 : decode cX12_rests 12 = .ok (.iconst (-1), 1) := by decide +kernel
theorem dX12_rests_13 : decode cX12_rests 13 = .ok (.ireturn, 1) := by decide +kernel
theorem dX12_rests_14 : decode cX12_rests 14 = .ok (.aload_n 0, 1) := by decide +kernel
theorem dX12_rests_15 : decode cX12_rests 15 = .ok (.invokevirtual 397, 3) := by decide +kernel
theorem dX12_rests_18 : decode cX12_rests 18 = .ok (.aload_n 0, 1) := by decide +kernel
theorem dX12_rests_19 : decode cX12_rests 19 = .ok (.getfield 387, 3) := by decide +kernel
theorem dX12_rests_22 : decode cX12_rests 22 = .ok (.iload_n 1, 1) := by decide +kernel
theorem dX12_rests_23 : decode cX12_rests 23 = .ok (.iaload, 1) := by decide +kernel
theorem dX12_rests_24 : decode cX12_rests 24 = .ok (.ldc 249, 2) := by decide +kernel
theorem dX12_rests_26 : decode cX12_rests 26 = .ok (.if_icmp .ne 6, 3) := by decide +kernel
theorem dX12_rests_29 : decode cX12_rests 29 = .ok (.bipush (-2), 2) := by decide +kernel
theorem dX12_rests_31 : decode cX12_rests 31 = .ok (.ireturn, 1) := by decide +kernel
theorem dX12_rests_32 : decode cX12_rests 32 = .ok (.aload_n 0, 1) := by decide +kernel
theorem dX12_rests_33 : decode cX12_rests 33 = .ok (.iconst 0, 1) := by decide +kernel
theorem dX12_rests_34 : decode cX12_rests 34 = .ok (.putfield 400, 3) := by decide +kernel
theorem dX12_rests_37 : decode cX12_rests 37 = .ok (.aload_n 0, 1) := by decide +kernel
theorem dX12_rests_38 : decode cX12_rests 38 = .ok (.iload_n 1, 1) := by decide +kernel
theorem dX12_rests_39 : decode cX12_rests 39 = .ok (.aload_n 0, 1) := by decide +kernel
theorem dX12_rests_40 : decode cX12_rests 40 = .ok (.getfield 410, 3) := by decide +kernel
theorem dX12_rests_43 : decode cX12_rests 43 = .ok (.invokevirtual 403, 3) := by decide +kernel
theorem dX12_rests_46 : decode cX12_rests 46 = .ok (.istore_n 2, 1) := by decide +kernel
theorem dX12_rests_47 : decode cX12_rests 47 = .ok (.aload_n 0, 1) := by decide +kernel
theorem dX12_rests_48 : decode cX12_rests 48 = .ok (.iconst 0, 1) := by decide +kernel
theorem dX12_rests_49 : decode cX12_rests 49 = .ok (.putfield 11, 3) := by decide +kernel
theorem dX12_rests_52 : decode cX12_rests 52 = .ok (.aload_n 0, 1) := by decide +kernel
theorem dX12_rests_53 : decode cX12_rests 53 = .ok (.aload_n 0, 1) := by decide +kernel
theorem dX12_rests_54 : decode cX12_rests 54 = .ok (.getfield 400, 3) := by decide +kernel
theorem dX12_rests_57 : decode cX12_rests 57 = .ok (.invokevirtual 221, 3) := by decide +kernel
theorem dX12_rests_60 : decode cX12_rests 60 = .ok (.aload_n 0, 1) := by decide +kernel
theorem dX12_rests_61 : decode cX12_rests 61 = .ok (.aload_n 0, 1) := by decide +kernel
theorem dX12_rests_62 : decode cX12_rests 62 = .ok (.getfield 410, 3) := by decide +kernel
theorem dX12_rests_65 : decode cX12_rests 65 = .ok (.iconst 0, 1) := by decide +kernel
theorem dX12_rests_66 : decode cX12_rests 66 = .ok (.iaload, 1) := by decide +kernel
theorem dX12_rests_67 : decode cX12_rests 67 = .ok (.invokevirtual 221, 3) := by decide +kernel
theorem dX12_rests_70 : decode cX12_rests 70 = .ok (.iload_n 2, 1) := by decide +kernel
theorem dX12_rests_71 : decode cX12_rests 71 = .ok (.ireturn, 1) := by decide +kernel
theorem dX12_proved_0 : decode cX12_proved 0 = .ok (.aload_n 0, 1) := by decide +kernel
theorem dX12_proved_1 : decode cX12_proved 1 = .ok (.iconst 0, 1) := by decide +kernel
theorem dX12_proved_2 : decode cX12_proved 2 = .ok (.putfield 3, 3) := by decide +kernel
theorem dX12_proved_5 : decode cX12_proved 5 = .ok (.aload_n 0, 1) := by decide +kernel
theorem dX12_proved_6 : decode cX12_proved 6 = .ok (.invokevirtual 397, 3) := by decide +kernel
theorem dX12_proved_9 : decode cX12_proved 9 = .ok (.iconst 0, 1) := by decide +kernel
theorem dX12_proved_10 : decode cX12_proved 10 = .ok (.istore_n 1, 1) := by decide +kernel
theorem dX12_proved_11 : decode cX12_proved 11 = .ok (.iconst 0, 1) := by decide +kernel
theorem dX12_proved_12 : decode cX12_proved 12 = .ok (.istore_n 2, 1) := by decide +kernel
theorem dX12_proved_13 : decode cX12_proved 13 = .ok (.iconst 0, 1) := by decide +kernel
theorem dX12_proved_14 : decode cX12_proved 14 = .ok (.istore_n 3, 1) := by decide +kernel
theorem dX12_proved_15 : decode cX12_proved 15 = .ok (.iload_n 3, 1) := by decide +kernel
theorem dX12_proved_16 : decode cX12_proved 16 = .ok (.sipush 2304, 3) := by decide +kernel
theorem dX12_proved_19 : decode cX12_proved 19 = .ok (.if_icmp .ge 57, 3) := by decide +kernel
theorem dX12_proved_22 : decode cX12_proved 22 = .ok (.iload_n 1, 1) := by decide +kernel
theorem dX12_proved_23 : decode cX12_proved 23 = .ok (.aload_n 0, 1) := by decide +kernel
theorem dX12_proved_24 : decode cX12_proved 24 = .ok (.getfield 387, 3) := by decide +kernel
theorem dX12_proved_27 : decode cX12_proved 27 = .ok (.iload_n 3, 1) := by decide +kernel
theorem dX12_proved_28 : decode cX12_proved 28 = .ok (.iaload, 1) := by decide +kernel
theorem dX12_proved_29 : decode cX12_proved 29 = .ok (.ldc 249, 2) := by decide +kernel
theorem dX12_proved_31 : decode cX12_proved 31 = .ok (.if_icmp .ge 7, 3) := by decide +kernel
theorem dX12_proved_34 : decode cX12_proved 34 = .ok (.iconst 1, 1) := by decide +kernel
theorem dX12_proved_35 : decode cX12_proved 35 = .ok (.goto 4, 3) := by decide +kernel
theorem dX12_proved_38 : decode cX12_proved 38 = .ok (.iconst 0, 1) := by decide +kernel
theorem dX12_proved_39 : decode cX12_proved 39 = .ok (.invokestatic 52, 3) := by decide +kernel
theorem dX12_proved_42 : decode cX12_proved 42 = .ok (.iadd, 1) := by decide +kernel
theorem dX12_proved_43 : decode cX12_proved 43 = .ok (.istore_n 1, 1) := by decide +kernel
theorem dX12_proved_44 : decode cX12_proved 44 = .ok (.aload_n 0, 1) := by decide +kernel
theorem dX12_proved_45 : decode cX12_proved 45 = .ok (.getfield 387, 3) := by decide +kernel
theorem dX12_proved_48 : decode cX12_proved 48 = .ok (.iload_n 3, 1) := by decide +kernel
theorem dX12_proved_49 : decode cX12_proved 49 = .ok (.iaload, 1) := by decide +kernel
theorem dX12_proved_50 : decode cX12_proved 50 = .ok (.ldc 249, 2) := by decide +kernel
theorem dX12_proved_52 : decode cX12_proved 52 = .ok (.if_icmp .ge 16, 3) := by decide +kernel
theorem dX12_proved_55 : decode cX12_proved 55 = .ok (.iload_n 2, 1) := by decide +kernel
theorem dX12_proved_56 : decode cX12_proved 56 = .ok (.aload_n 0, 1) := by decide +kernel
theorem dX12_proved_57 : decode cX12_proved 57 = .ok (.getfield 387, 3) := by decide +kernel
theorem dX12_proved_60 : decode cX12_proved 60 = .ok (.iload_n 3, 1) := by decide +kernel
theorem dX12_proved_61 : decode cX12_proved 61 = .ok (.iaload, 1) := by decide +kernel
theorem dX12_proved_62 : decode cX12_proved 62 = .ok (.invokestatic 407, 3) := by decide +kernel
theorem dX12_proved_65 : decode cX12_proved 65 = .ok (.goto 4, 3) := by decide +kernel
theorem dX12_proved_68 : decode cX12_proved 68 = .ok (.iload_n 2, 1) := by decide +kernel
theorem dX12_proved_69 : decode cX12_proved 69 = .ok (.istore_n 2, 1) := by decide +kernel
theorem dX12_proved_70 : decode cX12_proved 70 = .ok (.iinc 3 1, 3) := by decide +kernel
theorem dX12_proved_73 : decode cX12_proved 73 = .ok (.goto (-58), 3) := by decide +kernel
theorem dX12_proved_76 : decode cX12_proved 76 = .ok (.aload_n 0, 1) := by decide +kernel
theorem dX12_proved_77 : decode cX12_proved 77 = .ok (.iconst 0, 1) := by decide +kernel
theorem dX12_proved_78 : decode cX12_proved 78 = .ok (.putfield 11, 3) := by decide +kernel
theorem dX12_proved_81 : decode cX12_proved 81 = .ok (.aload_n 0, 1) := by decide +kernel
theorem dX12_proved_82 : decode cX12_proved 82 = .ok (.iload_n 2, 1) := by decide +kernel
theorem dX12_proved_83 : decode cX12_proved 83 = .ok (.invokevirtual 221, 3) := by decide +kernel
theorem dX12_proved_86 : decode cX12_proved 86 = .ok (.iload_n 1, 1) := by decide +kernel
theorem dX12_proved_87 : decode cX12_proved 87 = .ok (.ireturn, 1) := by decide +kernel
theorem dX12_gap_0 : decode cX12_gap 0 = .ok (.aload_n 0, 1) := by decide +kernel
theorem dX12_gap_1 : decode cX12_gap 1 = .ok (.iconst 0, 1) := by decide +kernel
theorem dX12_gap_2 : decode cX12_gap 2 = .ok (.putfield 3, 3) := by decide +kernel
theorem dX12_gap_5 : decode cX12_gap 5 = .ok (.aload_n 0, 1) := by decide +kernel
theorem dX12_gap_6 : decode cX12_gap 6 = .ok (.invokevirtual 397, 3) := by decide +kernel
theorem dX12_gap_9 : decode cX12_gap 9 = .ok (.iconst 0, 1) := by decide +kernel
theorem dX12_gap_10 : decode cX12_gap 10 = .ok (.istore_n 1, 1) := by decide +kernel
theorem dX12_gap_11 : decode cX12_gap 11 = .ok (.iconst 0, 1) := by decide +kernel
theorem dX12_gap_12 : decode cX12_gap 12 = .ok (.istore_n 2, 1) := by decide +kernel
theorem dX12_gap_13 : decode cX12_gap 13 = .ok (.iload_n 2, 1) := by decide +kernel
theorem dX12_gap_14 : decode cX12_gap 14 = .ok (.aload_n 0, 1) := by decide +kernel
theorem dX12_gap_15 : decode cX12_gap 15 = .ok (.getfield 145, 3) := by decide +kernel
theorem dX12_gap_18 : decode cX12_gap 18 = .ok (.if_icmp .ge 52, 3) := by decide +kernel
theorem dX12_gap_21 : decode cX12_gap 21 = .ok (.iload_n 1, 1) := by decide +kernel
theorem dX12_gap_22 : decode cX12_gap 22 = .ok (.aload_n 0, 1) := by decide +kernel
theorem dX12_gap_23 : decode cX12_gap 23 = .ok (.getfield 387, 3) := by decide +kernel
theorem dX12_gap_26 : decode cX12_gap 26 = .ok (.aload_n 0, 1) := by decide +kernel
theorem dX12_gap_27 : decode cX12_gap 27 = .ok (.getfield 148, 3) := by decide +kernel
theorem dX12_gap_30 : decode cX12_gap 30 = .ok (.iload_n 2, 1) := by decide +kernel
theorem dX12_gap_31 : decode cX12_gap 31 = .ok (.iaload, 1) := by decide +kernel
theorem dX12_gap_32 : decode cX12_gap 32 = .ok (.iaload, 1) := by decide +kernel
theorem dX12_gap_33 : decode cX12_gap 33 = .ok (.ldc 249, 2) := by decide +kernel
theorem dX12_gap_35 : decode cX12_gap 35 = .ok (.if_icmp .ne 26, 3) := by decide +kernel
theorem dX12_gap_38 : decode cX12_gap 38 = .ok (.aload_n 0, 1) := by decide +kernel
theorem dX12_gap_39 : decode cX12_gap 39 = .ok (.aload_n 0, 1) := by decide +kernel
theorem dX12_gap_40 : decode cX12_gap 40 = .ok (.invokevirtual 206, 3) := by decide +kernel
theorem dX12_gap_43 : decode cX12_gap 43 = .ok (.aload_n 0, 1) := by decide +kernel
theorem dX12_gap_44 : decode cX12_gap 44 = .ok (.getfield 148, 3) := by decide +kernel
theorem dX12_gap_47 : decode cX12_gap 47 = .ok (.iload_n 2, 1) := by decide +kernel
theorem dX12_gap_48 : decode cX12_gap 48 = .ok (.iaload, 1) := by decide +kernel
theorem dX12_gap_49 : decode cX12_gap 49 = .ok (.invokevirtual 212, 3) := by decide +kernel
theorem dX12_gap_52 : decode cX12_gap 52 = .ok (.ifCond .eq 9, 3) := by decide +kernel
theorem dX12_gap_55 : decode cX12_gap 55 = .ok (.iconst 1, 1) := by decide +kernel
theorem dX12_gap_56 : decode cX12_gap 56 = .ok (.iload_n 2, 1) := by decide +kernel
theorem dX12_gap_57 : decode cX12_gap 57 = .ok (.ishl, 1) := by decide +kernel
theorem dX12_gap_58 : decode cX12_gap 58 = .ok (.goto 4, 3) := by decide +kernel
theorem dX12_gap_61 : decode cX12_gap 61 = .ok (.iconst 0, 1) := by decide +kernel
theorem dX12_gap_62 : decode cX12_gap 62 = .ok (.ior, 1) := by decide +kernel
theorem dX12_gap_63 : decode cX12_gap 63 = .ok (.istore_n 1, 1) := by decide +kernel
theorem dX12_gap_64 : decode cX12_gap 64 = .ok (.iinc 2 1, 3) := by decide +kernel
theorem dX12_gap_67 : decode cX12_gap 67 = .ok (.goto (-54), 3) := by decide +kernel
theorem dX12_gap_70 : decode cX12_gap 70 = .ok (.iload_n 1, 1) := by decide +kernel
theorem dX12_gap_71 : decode cX12_gap 71 = .ok (.ireturn, 1) := by decide +kernel
theorem dX12_number_0 : decode cX12_number 0 = .ok (.aload_n 0, 1) := by decide +kernel
theorem dX12_number_1 : decode cX12_number 1 = .ok (.bipush 9, 2) := by decide +kernel
theorem dX12_number_3 : decode cX12_number 3 = .ok (.invokevirtual 96, 3) := by decide +kernel
theorem dX12_number_6 : decode cX12_number 6 = .ok (.istore_n 1, 1) := by decide +kernel
theorem dX12_number_7 : decode cX12_number 7 = .ok (.iload_n 1, 1) := by decide +kernel
theorem dX12_number_8 : decode cX12_number 8 = .ok (.ifCond .ge 5, 3) := by decide +kernel
theorem dX12_number_11 : decode cX12_number 11 = .ok (.iconst (-1), 1) := by decide +kernel
theorem dX12_number_12 : decode cX12_number 12 = .ok (.ireturn, 1) := by decide +kernel
theorem dX12_number_13 : decode cX12_number 13 = .ok (.aload_n 0, 1) := by decide +kernel
theorem dX12_number_14 : decode cX12_number 14 = .ok (.invokevirtual 60, 3) := by decide +kernel
theorem dX12_number_17 : decode cX12_number 17 = .ok (.ifCond .eq 17, 3) := by decide +kernel
theorem dX12_number_20 : decode cX12_number 20 = .ok (.bipush 10, 2) := by decide +kernel
theorem dX12_number_22 : decode cX12_number 22 = .ok (.iload_n 1, 1) := by decide +kernel
theorem dX12_number_23 : decode cX12_number 23 = .ok (.imul, 1) := by decide +kernel
theorem dX12_number_24 : decode cX12_number 24 = .ok (.aload_n 0, 1) := by decide +kernel
theorem dX12_number_25 : decode cX12_number 25 = .ok (.bipush 9, 2) := by decide +kernel
theorem dX12_number_27 : decode cX12_number 27 = .ok (.invokevirtual 96, 3) := by decide +kernel
theorem dX12_number_30 : decode cX12_number 30 = .ok (.iadd, 1) := by decide +kernel
theorem dX12_number_31 : decode cX12_number 31 = .ok (.goto 4, 3) := by decide +kernel
theorem dX12_number_34 : decode cX12_number 34 = .ok (.iload_n 1, 1) := by decide +kernel
theorem dX12_number_35 : decode cX12_number 35 = .ok (.ireturn, 1) := by decide +kernel
theorem dX12_readsPlea_0 : decode cX12_readsPlea 0 = .ok (.aload_n 0, 1) := by decide +kernel
theorem dX12_readsPlea_1 : decode cX12_readsPlea 1 = .ok (.getfield 413, 3) := by decide +kernel
theorem dX12_readsPlea_4 : decode cX12_readsPlea 4 = .ok (.istore_n 1, 1) := by decide +kernel
theorem dX12_readsPlea_5 : decode cX12_readsPlea 5 = .ok (.aload_n 0, 1) := by decide +kernel
theorem dX12_readsPlea_6 : decode cX12_readsPlea 6 = .ok (.getfield 416, 3) := by decide +kernel
theorem dX12_readsPlea_9 : decode cX12_readsPlea 9 = .ok (.iload_n 1, 1) := by decide +kernel
theorem dX12_readsPlea_10 : decode cX12_readsPlea 10 = .ok (.aload_n 0, 1) := by decide +kernel
theorem dX12_readsPlea_11 : decode cX12_readsPlea 11 = .ok (.iconst 3, 1) := by decide +kernel
theorem dX12_readsPlea_12 : decode cX12_readsPlea 12 = .ok (.invokevirtual 96, 3) := by decide +kernel
theorem dX12_readsPlea_15 : decode cX12_readsPlea 15 = .ok (.iastore, 1) := by decide +kernel
theorem dX12_readsPlea_16 : decode cX12_readsPlea 16 = .ok (.aload_n 0, 1) := by decide +kernel
theorem dX12_readsPlea_17 : decode cX12_readsPlea 17 = .ok (.getfield 416, 3) := by decide +kernel
theorem dX12_readsPlea_20 : decode cX12_readsPlea 20 = .ok (.iload_n 1, 1) := by decide +kernel
theorem dX12_readsPlea_21 : decode cX12_readsPlea 21 = .ok (.iaload, 1) := by decide +kernel
theorem dX12_readsPlea_22 : decode cX12_readsPlea 22 = .ok (.ifCond .lt 12, 3) := by decide +kernel
theorem dX12_readsPlea_25 : decode cX12_readsPlea 25 = .ok (.aload_n 0, 1) := by decide +kernel
theorem dX12_readsPlea_26 : decode cX12_readsPlea 26 = .ok (.bipush 58, 2) := by decide +kernel
theorem dX12_readsPlea_28 : decode cX12_readsPlea 28 = .ok (.invokevirtual 72, 3) := by decide +kernel
theorem dX12_readsPlea_31 : decode cX12_readsPlea 31 = .ok (.ifCond .ne 5, 3) := by decide +kernel
theorem dX12_readsPlea_34 : decode cX12_readsPlea 34 = .ok (.iconst 0, 1) := by decide +kernel
theorem dX12_readsPlea_35 : decode cX12_readsPlea 35 = .ok (.ireturn, 1) := by decide +kernel
theorem dX12_readsPlea_36 : decode cX12_readsPlea 36 = .ok (.aload_n 0, 1) := by decide +kernel
theorem dX12_readsPlea_37 : decode cX12_readsPlea 37 = .ok (.getfield 419, 3) := by decide +kernel
theorem dX12_readsPlea_40 : decode cX12_readsPlea 40 = .ok (.iload_n 1, 1) := by decide +kernel
theorem dX12_readsPlea_41 : decode cX12_readsPlea 41 = .ok (.aload_n 0, 1) := by decide +kernel
theorem dX12_readsPlea_42 : decode cX12_readsPlea 42 = .ok (.invokevirtual 422, 3) := by decide +kernel
theorem dX12_readsPlea_45 : decode cX12_readsPlea 45 = .ok (.iastore, 1) := by decide +kernel
theorem dX12_readsPlea_46 : decode cX12_readsPlea 46 = .ok (.aload_n 0, 1) := by decide +kernel
theorem dX12_readsPlea_47 : decode cX12_readsPlea 47 = .ok (.getfield 419, 3) := by decide +kernel
theorem dX12_readsPlea_50 : decode cX12_readsPlea 50 = .ok (.iload_n 1, 1) := by decide +kernel
theorem dX12_readsPlea_51 : decode cX12_readsPlea 51 = .ok (.iaload, 1) := by decide +kernel
theorem dX12_readsPlea_52 : decode cX12_readsPlea 52 = .ok (.ifCond .ge 5, 3) := by decide +kernel
theorem dX12_readsPlea_55 : decode cX12_readsPlea 55 = .ok (.iconst 0, 1) := by decide +kernel
theorem dX12_readsPlea_56 : decode cX12_readsPlea 56 = .ok (.ireturn, 1) := by decide +kernel
theorem dX12_readsPlea_57 : decode cX12_readsPlea 57 = .ok (.aload_n 0, 1) := by decide +kernel
theorem dX12_readsPlea_58 : decode cX12_readsPlea 58 = .ok (.getfield 425, 3) := by decide +kernel
theorem dX12_readsPlea_61 : decode cX12_readsPlea 61 = .ok (.iload_n 1, 1) := by decide +kernel
theorem dX12_readsPlea_62 : decode cX12_readsPlea 62 = .ok (.iconst (-1), 1) := by decide +kernel
theorem dX12_readsPlea_63 : decode cX12_readsPlea 63 = .ok (.iastore, 1) := by decide +kernel
theorem dX12_readsPlea_64 : decode cX12_readsPlea 64 = .ok (.aload_n 0, 1) := by decide +kernel
theorem dX12_readsPlea_65 : decode cX12_readsPlea 65 = .ok (.bipush 43, 2) := by decide +kernel
theorem dX12_readsPlea_67 : decode cX12_readsPlea 67 = .ok (.invokevirtual 72, 3) := by decide +kernel
theorem dX12_readsPlea_70 : decode cX12_readsPlea 70 = .ok (.ifCond .eq 24, 3) := by decide +kernel
theorem dX12_readsPlea_73 : decode cX12_readsPlea 73 = .ok (.aload_n 0, 1) := by decide +kernel
theorem dX12_readsPlea_74 : decode cX12_readsPlea 74 = .ok (.getfield 425, 3) := by decide +kernel
theorem dX12_readsPlea_77 : decode cX12_readsPlea 77 = .ok (.iload_n 1, 1) := by decide +kernel
theorem dX12_readsPlea_78 : decode cX12_readsPlea 78 = .ok (.aload_n 0, 1) := by decide +kernel
theorem dX12_readsPlea_79 : decode cX12_readsPlea 79 = .ok (.invokevirtual 422, 3) := by decide +kernel
theorem dX12_readsPlea_82 : decode cX12_readsPlea 82 = .ok (.iastore, 1) := by decide +kernel
theorem dX12_readsPlea_83 : decode cX12_readsPlea 83 = .ok (.aload_n 0, 1) := by decide +kernel
theorem dX12_readsPlea_84 : decode cX12_readsPlea 84 = .ok (.getfield 425, 3) := by decide +kernel
theorem dX12_readsPlea_87 : decode cX12_readsPlea 87 = .ok (.iload_n 1, 1) := by decide +kernel
theorem dX12_readsPlea_88 : decode cX12_readsPlea 88 = .ok (.iaload, 1) := by decide +kernel
theorem dX12_readsPlea_89 : decode cX12_readsPlea 89 = .ok (.ifCond .ge 5, 3) := by decide +kernel
theorem dX12_readsPlea_92 : decode cX12_readsPlea 92 = .ok (.iconst 0, 1) := by decide +kernel
theorem dX12_readsPlea_93 : decode cX12_readsPlea 93 = .ok (.ireturn, 1) := by decide +kernel
theorem dX12_readsPlea_94 : decode cX12_readsPlea 94 = .ok (.aload_n 0, 1) := by decide +kernel
theorem dX12_readsPlea_95 : decode cX12_readsPlea 95 = .ok (.getfield 428, 3) := by decide +kernel
theorem dX12_readsPlea_98 : decode cX12_readsPlea 98 = .ok (.iload_n 1, 1) := by decide +kernel
theorem dX12_readsPlea_99 : decode cX12_readsPlea 99 = .ok (.aload_n 0, 1) := by decide +kernel
theorem dX12_readsPlea_100 : decode cX12_readsPlea 100 = .ok (.invokevirtual 90, 3) := by decide +kernel
theorem dX12_readsPlea_103 : decode cX12_readsPlea 103 = .ok (.iastore, 1) := by decide +kernel
theorem dX12_readsPlea_104 : decode cX12_readsPlea 104 = .ok (.aload_n 0, 1) := by decide +kernel
theorem dX12_readsPlea_105 : decode cX12_readsPlea 105 = .ok (.dup, 1) := by decide +kernel
theorem dX12_readsPlea_106 : decode cX12_readsPlea 106 = .ok (.getfield 413, 3) := by decide +kernel
theorem dX12_readsPlea_109 : decode cX12_readsPlea 109 = .ok (.iconst 1, 1) := by decide +kernel
theorem dX12_readsPlea_110 : decode cX12_readsPlea 110 = .ok (.iadd, 1) := by decide +kernel
theorem dX12_readsPlea_111 : decode cX12_readsPlea 111 = .ok (.putfield 413, 3) := by decide +kernel
theorem dX12_readsPlea_114 : decode cX12_readsPlea 114 = .ok (.aload_n 0, 1) := by decide +kernel
theorem dX12_readsPlea_115 : decode cX12_readsPlea 115 = .ok (.getfield 428, 3) := by decide +kernel
theorem dX12_readsPlea_118 : decode cX12_readsPlea 118 = .ok (.iload_n 1, 1) := by decide +kernel
theorem dX12_readsPlea_119 : decode cX12_readsPlea 119 = .ok (.iaload, 1) := by decide +kernel
theorem dX12_readsPlea_120 : decode cX12_readsPlea 120 = .ok (.ifCond .lt 7, 3) := by decide +kernel
theorem dX12_readsPlea_123 : decode cX12_readsPlea 123 = .ok (.iconst 1, 1) := by decide +kernel
theorem dX12_readsPlea_124 : decode cX12_readsPlea 124 = .ok (.goto 4, 3) := by decide +kernel
theorem dX12_readsPlea_127 : decode cX12_readsPlea 127 = .ok (.iconst 0, 1) := by decide +kernel
theorem dX12_readsPlea_128 : decode cX12_readsPlea 128 = .ok (.ireturn, 1) := by decide +kernel
theorem dX12_codeOfNumber_0 : decode cX12_codeOfNumber 0 = .ok (.iload_n 1, 1) := by decide +kernel
theorem dX12_codeOfNumber_1 : decode cX12_codeOfNumber 1 = .ok (.bipush 16, 2) := by decide +kernel
theorem dX12_codeOfNumber_3 : decode cX12_codeOfNumber 3 = .ok (.if_icmp .ge 33, 3) := by decide +kernel
theorem dX12_codeOfNumber_6 : decode cX12_codeOfNumber 6 = .ok (.iload_n 1, 1) := by decide +kernel
theorem dX12_codeOfNumber_7 : decode cX12_codeOfNumber 7 = .ok (.aload_n 0, 1) := by decide +kernel
theorem dX12_codeOfNumber_8 : decode cX12_codeOfNumber 8 = .ok (.getfield 105, 3) := by decide +kernel
theorem dX12_codeOfNumber_11 : decode cX12_codeOfNumber 11 = .ok (.if_icmp .ge 23, 3) := by decide +kernel
theorem dX12_codeOfNumber_14 : decode cX12_codeOfNumber 14 = .ok (.aload_n 0, 1) := by decide +kernel
theorem dX12_codeOfNumber_15 : decode cX12_codeOfNumber 15 = .ok (.getfield 126, 3) := by decide +kernel
theorem dX12_codeOfNumber_18 : decode cX12_codeOfNumber 18 = .ok (.iload_n 1, 1) := by decide +kernel
theorem dX12_codeOfNumber_19 : decode cX12_codeOfNumber 19 = .ok (.invokestatic 129, 3) := by decide +kernel
theorem dX12_codeOfNumber_22 : decode cX12_codeOfNumber 22 = .ok (.ifCond .ne 12, 3) := by decide +kernel
theorem dX12_codeOfNumber_25 : decode cX12_codeOfNumber 25 = .ok (.aload_n 0, 1) := by decide +kernel
theorem dX12_codeOfNumber_26 : decode cX12_codeOfNumber 26 = .ok (.getfield 87, 3) := by decide +kernel
theorem dX12_codeOfNumber_29 : decode cX12_codeOfNumber 29 = .ok (.iload_n 1, 1) := by decide +kernel
theorem dX12_codeOfNumber_30 : decode cX12_codeOfNumber 30 = .ok (.iaload, 1) := by decide +kernel
theorem dX12_codeOfNumber_31 : decode cX12_codeOfNumber 31 = .ok (.goto 4, 3) := by decide +kernel
theorem dX12_codeOfNumber_34 : decode cX12_codeOfNumber 34 = .ok (.iconst (-1), 1) := by decide +kernel
theorem dX12_codeOfNumber_35 : decode cX12_codeOfNumber 35 = .ok (.ireturn, 1) := by decide +kernel
theorem dX12_codeOfNumber_36 : decode cX12_codeOfNumber 36 = .ok (.iload_n 1, 1) := by decide +kernel
theorem dX12_codeOfNumber_37 : decode cX12_codeOfNumber 37 = .ok (.bipush 16, 2) := by decide +kernel
theorem dX12_codeOfNumber_39 : decode cX12_codeOfNumber 39 = .ok (.isub, 1) := by decide +kernel
theorem dX12_codeOfNumber_40 : decode cX12_codeOfNumber 40 = .ok (.iload_n 2, 1) := by decide +kernel
theorem dX12_codeOfNumber_41 : decode cX12_codeOfNumber 41 = .ok (.if_icmp .ge 15, 3) := by decide +kernel
theorem dX12_codeOfNumber_44 : decode cX12_codeOfNumber 44 = .ok (.aload_n 0, 1) := by decide +kernel
theorem dX12_codeOfNumber_45 : decode cX12_codeOfNumber 45 = .ok (.getfield 428, 3) := by decide +kernel
theorem dX12_codeOfNumber_48 : decode cX12_codeOfNumber 48 = .ok (.iload_n 1, 1) := by decide +kernel
theorem dX12_codeOfNumber_49 : decode cX12_codeOfNumber 49 = .ok (.bipush 16, 2) := by decide +kernel
theorem dX12_codeOfNumber_51 : decode cX12_codeOfNumber 51 = .ok (.isub, 1) := by decide +kernel
theorem dX12_codeOfNumber_52 : decode cX12_codeOfNumber 52 = .ok (.iaload, 1) := by decide +kernel
theorem dX12_codeOfNumber_53 : decode cX12_codeOfNumber 53 = .ok (.goto 4, 3) := by decide +kernel
theorem dX12_codeOfNumber_56 : decode cX12_codeOfNumber 56 = .ok (.iconst (-1), 1) := by decide +kernel
theorem dX12_codeOfNumber_57 : decode cX12_codeOfNumber 57 = .ok (.ireturn, 1) := by decide +kernel
theorem dX12_fits_0 : decode cX12_fits 0 = .ok (.iload_n 3, 1) := by decide +kernel
theorem dX12_fits_1 : decode cX12_fits 1 = .ok (.sipush 576, 3) := by decide +kernel
theorem dX12_fits_4 : decode cX12_fits 4 = .ok (.irem, 1) := by decide +kernel
theorem dX12_fits_5 : decode cX12_fits 5 = .ok (.istore 4, 2) := by decide +kernel
theorem dX12_fits_7 : decode cX12_fits 7 = .ok (.iload_n 2, 1) := by decide +kernel
theorem dX12_fits_8 : decode cX12_fits 8 = .ok (.ifCond .ge 62, 3) := by decide +kernel
theorem dX12_fits_11 : decode cX12_fits 11 = .ok (.iload_n 1, 1) := by decide +kernel
theorem dX12_fits_12 : decode cX12_fits 12 = .ok (.invokestatic 24, 3) := by decide +kernel
theorem dX12_fits_15 : decode cX12_fits 15 = .ok (.istore 5, 2) := by decide +kernel
theorem dX12_fits_17 : decode cX12_fits 17 = .ok (.iload_n 1, 1) := by decide +kernel
theorem dX12_fits_18 : decode cX12_fits 18 = .ok (.invokestatic 27, 3) := by decide +kernel
theorem dX12_fits_21 : decode cX12_fits 21 = .ok (.istore 6, 2) := by decide +kernel
theorem dX12_fits_23 : decode cX12_fits 23 = .ok (.iload 4, 2) := by decide +kernel
theorem dX12_fits_25 : decode cX12_fits 25 = .ok (.bipush 24, 2) := by decide +kernel
theorem dX12_fits_27 : decode cX12_fits 27 = .ok (.iload 6, 2) := by decide +kernel
theorem dX12_fits_29 : decode cX12_fits 29 = .ok (.imul, 1) := by decide +kernel
theorem dX12_fits_30 : decode cX12_fits 30 = .ok (.iload 5, 2) := by decide +kernel
theorem dX12_fits_32 : decode cX12_fits 32 = .ok (.iadd, 1) := by decide +kernel
theorem dX12_fits_33 : decode cX12_fits 33 = .ok (.if_icmp .eq 31, 3) := by decide +kernel
theorem dX12_fits_36 : decode cX12_fits 36 = .ok (.iload 4, 2) := by decide +kernel
theorem dX12_fits_38 : decode cX12_fits 38 = .ok (.bipush 24, 2) := by decide +kernel
theorem dX12_fits_40 : decode cX12_fits 40 = .ok (.iload 5, 2) := by decide +kernel
theorem dX12_fits_42 : decode cX12_fits 42 = .ok (.imul, 1) := by decide +kernel
theorem dX12_fits_43 : decode cX12_fits 43 = .ok (.iload 6, 2) := by decide +kernel
theorem dX12_fits_45 : decode cX12_fits 45 = .ok (.iconst 1, 1) := by decide +kernel
theorem dX12_fits_46 : decode cX12_fits 46 = .ok (.ixor, 1) := by decide +kernel
theorem dX12_fits_47 : decode cX12_fits 47 = .ok (.iadd, 1) := by decide +kernel
theorem dX12_fits_48 : decode cX12_fits 48 = .ok (.if_icmp .eq 16, 3) := by decide +kernel
theorem dX12_fits_51 : decode cX12_fits 51 = .ok (.iload 4, 2) := by decide +kernel
theorem dX12_fits_53 : decode cX12_fits 53 = .ok (.bipush 24, 2) := by decide +kernel
theorem dX12_fits_55 : decode cX12_fits 55 = .ok (.iload 5, 2) := by decide +kernel
theorem dX12_fits_57 : decode cX12_fits 57 = .ok (.imul, 1) := by decide +kernel
theorem dX12_fits_58 : decode cX12_fits 58 = .ok (.iload 6, 2) := by decide +kernel
theorem dX12_fits_60 : decode cX12_fits 60 = .ok (.iadd, 1) := by decide +kernel
theorem dX12_fits_61 : decode cX12_fits 61 = .ok (.if_icmp .ne 7, 3) := by decide +kernel
theorem dX12_fits_64 : decode cX12_fits 64 = .ok (.iconst 1, 1) := by decide +kernel
theorem dX12_fits_65 : decode cX12_fits 65 = .ok (.goto 4, 3) := by decide +kernel
theorem dX12_fits_68 : decode cX12_fits 68 = .ok (.iconst 0, 1) := by decide +kernel
theorem dX12_fits_69 : decode cX12_fits 69 = .ok (.ireturn, 1) := by decide +kernel
theorem dX12_fits_70 : decode cX12_fits 70 = .ok (.iconst 1, 1) := by decide +kernel
theorem dX12_fits_71 : decode cX12_fits 71 = .ok (.istore 5, 2) := by decide +kernel
theorem dX12_fits_73 : decode cX12_fits 73 = .ok (.iload 5, 2) := by decide +kernel
theorem dX12_fits_75 : decode cX12_fits 75 = .ok (.iconst 4, 1) := by decide +kernel
theorem dX12_fits_76 : decode cX12_fits 76 = .ok (.if_icmp .gt 35, 3) := by decide +kernel
theorem dX12_fits_79 : decode cX12_fits 79 = .ok (.iload 5, 2) := by decide +kernel
theorem dX12_fits_81 : decode cX12_fits 81 = .ok (.iload_n 1, 1) := by decide +kernel
theorem dX12_fits_82 : decode cX12_fits 82 = .ok (.iload_n 2, 1) := by decide +kernel
theorem dX12_fits_83 : decode cX12_fits 83 = .ok (.invokestatic 354, 3) := by decide +kernel
theorem dX12_fits_86 : decode cX12_fits 86 = .ok (.iload 4, 2) := by decide +kernel
theorem dX12_fits_88 : decode cX12_fits 88 = .ok (.if_icmp .eq 15, 3) := by decide +kernel
theorem dX12_fits_91 : decode cX12_fits 91 = .ok (.iload 5, 2) := by decide +kernel
theorem dX12_fits_93 : decode cX12_fits 93 = .ok (.iload_n 2, 1) := by decide +kernel
theorem dX12_fits_94 : decode cX12_fits 94 = .ok (.iload_n 1, 1) := by decide +kernel
theorem dX12_fits_95 : decode cX12_fits 95 = .ok (.invokestatic 354, 3) := by decide +kernel
theorem dX12_fits_98 : decode cX12_fits 98 = .ok (.iload 4, 2) := by decide +kernel
theorem dX12_fits_100 : decode cX12_fits 100 = .ok (.if_icmp .ne 5, 3) := by decide +kernel
theorem dX12_fits_103 : decode cX12_fits 103 = .ok (.iconst 1, 1) := by decide +kernel
theorem dX12_fits_104 : decode cX12_fits 104 = .ok (.ireturn, 1) := by decide +kernel
theorem dX12_fits_105 : decode cX12_fits 105 = .ok (.iinc 5 1, 3) := by decide +kernel
theorem dX12_fits_108 : decode cX12_fits 108 = .ok (.goto (-35), 3) := by decide +kernel
theorem dX12_fits_111 : decode cX12_fits 111 = .ok (.iconst 0, 1) := by decide +kernel
theorem dX12_fits_112 : decode cX12_fits 112 = .ok (.ireturn, 1) := by decide +kernel
theorem dX12_moodFor_0 : decode cX12_moodFor 0 = .ok (.iload_n 3, 1) := by decide +kernel
theorem dX12_moodFor_1 : decode cX12_moodFor 1 = .ok (.ifCond .ge 8, 3) := by decide +kernel
theorem dX12_moodFor_4 : decode cX12_moodFor 4 = .ok (.bipush 19, 2) := by decide +kernel
theorem dX12_moodFor_6 : decode cX12_moodFor 6 = .ok (.goto 4, 3) := by decide +kernel
theorem dX12_moodFor_9 : decode cX12_moodFor 9 = .ok (.iconst 0, 1) := by decide +kernel
theorem dX12_moodFor_10 : decode cX12_moodFor 10 = .ok (.istore 6, 2) := by decide +kernel
theorem dX12_moodFor_12 : decode cX12_moodFor 12 = .ok (.iload 6, 2) := by decide +kernel
theorem dX12_moodFor_14 : decode cX12_moodFor 14 = .ok (.iload_n 3, 1) := by decide +kernel
theorem dX12_moodFor_15 : decode cX12_moodFor 15 = .ok (.ifCond .ge 8, 3) := by decide +kernel
theorem dX12_moodFor_18 : decode cX12_moodFor 18 = .ok (.bipush 22, 2) := by decide +kernel
theorem dX12_moodFor_20 : decode cX12_moodFor 20 = .ok (.goto 5, 3) := by decide +kernel
theorem dX12_moodFor_23 : decode cX12_moodFor 23 = .ok (.bipush 19, 2) := by decide +kernel
theorem dX12_moodFor_25 : decode cX12_moodFor 25 = .ok (.if_icmp .ge 67, 3) := by decide +kernel
theorem dX12_moodFor_28 : decode cX12_moodFor 28 = .ok (.aload_n 0, 1) := by decide +kernel
theorem dX12_moodFor_29 : decode cX12_moodFor 29 = .ok (.iload 6, 2) := by decide +kernel
theorem dX12_moodFor_31 : decode cX12_moodFor 31 = .ok (.iload_n 2, 1) := by decide +kernel
theorem dX12_moodFor_32 : decode cX12_moodFor 32 = .ok (.iload_n 3, 1) := by decide +kernel
theorem dX12_moodFor_33 : decode cX12_moodFor 33 = .ok (.iload 5, 2) := by decide +kernel
theorem dX12_moodFor_35 : decode cX12_moodFor 35 = .ok (.invokevirtual 365, 3) := by decide +kernel
theorem dX12_moodFor_38 : decode cX12_moodFor 38 = .ok (.iload 4, 2) := by decide +kernel
theorem dX12_moodFor_40 : decode cX12_moodFor 40 = .ok (.if_icmp .eq 22, 3) := by decide +kernel
theorem dX12_moodFor_43 : decode cX12_moodFor 43 = .ok (.iload_n 3, 1) := by decide +kernel
theorem dX12_moodFor_44 : decode cX12_moodFor 44 = .ok (.ifCond .lt 22, 3) := by decide +kernel
theorem dX12_moodFor_47 : decode cX12_moodFor 47 = .ok (.aload_n 0, 1) := by decide +kernel
theorem dX12_moodFor_48 : decode cX12_moodFor 48 = .ok (.iload 6, 2) := by decide +kernel
theorem dX12_moodFor_50 : decode cX12_moodFor 50 = .ok (.iload_n 3, 1) := by decide +kernel
theorem dX12_moodFor_51 : decode cX12_moodFor 51 = .ok (.iload_n 2, 1) := by decide +kernel
theorem dX12_moodFor_52 : decode cX12_moodFor 52 = .ok (.iload 5, 2) := by decide +kernel
theorem dX12_moodFor_54 : decode cX12_moodFor 54 = .ok (.invokevirtual 365, 3) := by decide +kernel
theorem dX12_moodFor_57 : decode cX12_moodFor 57 = .ok (.iload 4, 2) := by decide +kernel
theorem dX12_moodFor_59 : decode cX12_moodFor 59 = .ok (.if_icmp .ne 7, 3) := by decide +kernel
theorem dX12_moodFor_62 : decode cX12_moodFor 62 = .ok (.iconst 1, 1) := by decide +kernel
theorem dX12_moodFor_63 : decode cX12_moodFor 63 = .ok (.goto 4, 3) := by decide +kernel
theorem dX12_moodFor_66 : decode cX12_moodFor 66 = .ok (.iconst 0, 1) := by decide +kernel
theorem dX12_moodFor_67 : decode cX12_moodFor 67 = .ok (.istore 7, 2) := by decide +kernel
theorem dX12_moodFor_69 : decode cX12_moodFor 69 = .ok (.iload_n 1, 1) := by decide +kernel
theorem dX12_moodFor_70 : decode cX12_moodFor 70 = .ok (.iload 6, 2) := by decide +kernel
theorem dX12_moodFor_72 : decode cX12_moodFor 72 = .ok (.invokestatic 129, 3) := by decide +kernel
theorem dX12_moodFor_75 : decode cX12_moodFor 75 = .ok (.ifCond .eq 11, 3) := by decide +kernel
theorem dX12_moodFor_78 : decode cX12_moodFor 78 = .ok (.iload 7, 2) := by decide +kernel
theorem dX12_moodFor_80 : decode cX12_moodFor 80 = .ok (.ifCond .eq 6, 3) := by decide +kernel
theorem dX12_moodFor_83 : decode cX12_moodFor 83 = .ok (.iload 6, 2) := by decide +kernel
theorem dX12_moodFor_85 : decode cX12_moodFor 85 = .ok (.ireturn, 1) := by decide +kernel
theorem dX12_moodFor_86 : decode cX12_moodFor 86 = .ok (.iinc 6 1, 3) := by decide +kernel
theorem dX12_moodFor_89 : decode cX12_moodFor 89 = .ok (.goto (-77), 3) := by decide +kernel
theorem dX12_moodFor_92 : decode cX12_moodFor 92 = .ok (.iconst (-1), 1) := by decide +kernel
theorem dX12_moodFor_93 : decode cX12_moodFor 93 = .ok (.ireturn, 1) := by decide +kernel
theorem dX12_whyNot_0 : decode cX12_whyNot 0 = .ok (.aload_n 0, 1) := by decide +kernel
theorem dX12_whyNot_1 : decode cX12_whyNot 1 = .ok (.aload_n 0, 1) := by decide +kernel
theorem dX12_whyNot_2 : decode cX12_whyNot 2 = .ok (.getfield 419, 3) := by decide +kernel
theorem dX12_whyNot_5 : decode cX12_whyNot 5 = .ok (.iload_n 1, 1) := by decide +kernel
theorem dX12_whyNot_6 : decode cX12_whyNot 6 = .ok (.iaload, 1) := by decide +kernel
theorem dX12_whyNot_7 : decode cX12_whyNot 7 = .ok (.iload_n 1, 1) := by decide +kernel
theorem dX12_whyNot_8 : decode cX12_whyNot 8 = .ok (.invokevirtual 431, 3) := by decide +kernel
theorem dX12_whyNot_11 : decode cX12_whyNot 11 = .ok (.istore_n 2, 1) := by decide +kernel
theorem dX12_whyNot_12 : decode cX12_whyNot 12 = .ok (.aload_n 0, 1) := by decide +kernel
theorem dX12_whyNot_13 : decode cX12_whyNot 13 = .ok (.getfield 425, 3) := by decide +kernel
theorem dX12_whyNot_16 : decode cX12_whyNot 16 = .ok (.iload_n 1, 1) := by decide +kernel
theorem dX12_whyNot_17 : decode cX12_whyNot 17 = .ok (.iaload, 1) := by decide +kernel
theorem dX12_whyNot_18 : decode cX12_whyNot 18 = .ok (.ifCond .ge 7, 3) := by decide +kernel
theorem dX12_whyNot_21 : decode cX12_whyNot 21 = .ok (.iconst (-1), 1) := by decide +kernel
theorem dX12_whyNot_22 : decode cX12_whyNot 22 = .ok (.goto 14, 3) := by decide +kernel
theorem dX12_whyNot_25 : decode cX12_whyNot 25 = .ok (.aload_n 0, 1) := by decide +kernel
theorem dX12_whyNot_26 : decode cX12_whyNot 26 = .ok (.aload_n 0, 1) := by decide +kernel
theorem dX12_whyNot_27 : decode cX12_whyNot 27 = .ok (.getfield 425, 3) := by decide +kernel
theorem dX12_whyNot_30 : decode cX12_whyNot 30 = .ok (.iload_n 1, 1) := by decide +kernel
theorem dX12_whyNot_31 : decode cX12_whyNot 31 = .ok (.iaload, 1) := by decide +kernel
theorem dX12_whyNot_32 : decode cX12_whyNot 32 = .ok (.iload_n 1, 1) := by decide +kernel
theorem dX12_whyNot_33 : decode cX12_whyNot 33 = .ok (.invokevirtual 431, 3) := by decide +kernel
theorem dX12_whyNot_36 : decode cX12_whyNot 36 = .ok (.istore_n 3, 1) := by decide +kernel
theorem dX12_whyNot_37 : decode cX12_whyNot 37 = .ok (.iload_n 2, 1) := by decide +kernel
theorem dX12_whyNot_38 : decode cX12_whyNot 38 = .ok (.ifCond .lt 16, 3) := by decide +kernel
theorem dX12_whyNot_41 : decode cX12_whyNot 41 = .ok (.aload_n 0, 1) := by decide +kernel
theorem dX12_whyNot_42 : decode cX12_whyNot 42 = .ok (.getfield 425, 3) := by decide +kernel
theorem dX12_whyNot_45 : decode cX12_whyNot 45 = .ok (.iload_n 1, 1) := by decide +kernel
theorem dX12_whyNot_46 : decode cX12_whyNot 46 = .ok (.iaload, 1) := by decide +kernel
theorem dX12_whyNot_47 : decode cX12_whyNot 47 = .ok (.ifCond .lt 9, 3) := by decide +kernel
theorem dX12_whyNot_50 : decode cX12_whyNot 50 = .ok (.iload_n 3, 1) := by decide +kernel
theorem dX12_whyNot_51 : decode cX12_whyNot 51 = .ok (.ifCond .ge 5, 3) := by decide +kernel
theorem dX12_whyNot_54 : decode cX12_whyNot 54 = .ok (.iconst 1, 1) := by decide +kernel
theorem dX12_whyNot_55 : decode cX12_whyNot 55 = .ok (.ireturn, 1) := by decide +kernel
theorem dX12_whyNot_56 : decode cX12_whyNot 56 = .ok (.iload_n 1, 1) := by decide +kernel
theorem dX12_whyNot_57 : decode cX12_whyNot 57 = .ok (.bipush 24, 2) := by decide +kernel
theorem dX12_whyNot_59 : decode cX12_whyNot 59 = .ok (.if_icmp .lt 5, 3) := by decide +kernel
theorem dX12_whyNot_62 : decode cX12_whyNot 62 = .ok (.iconst 2, 1) := by decide +kernel
theorem dX12_whyNot_63 : decode cX12_whyNot 63 = .ok (.ireturn, 1) := by decide +kernel
theorem dX12_whyNot_64 : decode cX12_whyNot 64 = .ok (.aload_n 0, 1) := by decide +kernel
theorem dX12_whyNot_65 : decode cX12_whyNot 65 = .ok (.iload_n 2, 1) := by decide +kernel
theorem dX12_whyNot_66 : decode cX12_whyNot 66 = .ok (.iload_n 3, 1) := by decide +kernel
theorem dX12_whyNot_67 : decode cX12_whyNot 67 = .ok (.aload_n 0, 1) := by decide +kernel
theorem dX12_whyNot_68 : decode cX12_whyNot 68 = .ok (.getfield 428, 3) := by decide +kernel
theorem dX12_whyNot_71 : decode cX12_whyNot 71 = .ok (.iload_n 1, 1) := by decide +kernel
theorem dX12_whyNot_72 : decode cX12_whyNot 72 = .ok (.iaload, 1) := by decide +kernel
theorem dX12_whyNot_73 : decode cX12_whyNot 73 = .ok (.invokevirtual 434, 3) := by decide +kernel
theorem dX12_whyNot_76 : decode cX12_whyNot 76 = .ok (.ifCond .ne 5, 3) := by decide +kernel
theorem dX12_whyNot_79 : decode cX12_whyNot 79 = .ok (.iconst 3, 1) := by decide +kernel
theorem dX12_whyNot_80 : decode cX12_whyNot 80 = .ok (.ireturn, 1) := by decide +kernel
theorem dX12_whyNot_81 : decode cX12_whyNot 81 = .ok (.aload_n 0, 1) := by decide +kernel
theorem dX12_whyNot_82 : decode cX12_whyNot 82 = .ok (.iconst (-1), 1) := by decide +kernel
theorem dX12_whyNot_83 : decode cX12_whyNot 83 = .ok (.iload_n 2, 1) := by decide +kernel
theorem dX12_whyNot_84 : decode cX12_whyNot 84 = .ok (.iload_n 3, 1) := by decide +kernel
theorem dX12_whyNot_85 : decode cX12_whyNot 85 = .ok (.aload_n 0, 1) := by decide +kernel
theorem dX12_whyNot_86 : decode cX12_whyNot 86 = .ok (.getfield 428, 3) := by decide +kernel
theorem dX12_whyNot_89 : decode cX12_whyNot 89 = .ok (.iload_n 1, 1) := by decide +kernel
theorem dX12_whyNot_90 : decode cX12_whyNot 90 = .ok (.iaload, 1) := by decide +kernel
theorem dX12_whyNot_91 : decode cX12_whyNot 91 = .ok (.iconst 0, 1) := by decide +kernel
theorem dX12_whyNot_92 : decode cX12_whyNot 92 = .ok (.invokevirtual 437, 3) := by decide +kernel
theorem dX12_whyNot_95 : decode cX12_whyNot 95 = .ok (.ifCond .ge 5, 3) := by decide +kernel
theorem dX12_whyNot_98 : decode cX12_whyNot 98 = .ok (.iconst 4, 1) := by decide +kernel
theorem dX12_whyNot_99 : decode cX12_whyNot 99 = .ok (.ireturn, 1) := by decide +kernel
theorem dX12_whyNot_100 : decode cX12_whyNot 100 = .ok (.aload_n 0, 1) := by decide +kernel
theorem dX12_whyNot_101 : decode cX12_whyNot 101 = .ok (.aload_n 0, 1) := by decide +kernel
theorem dX12_whyNot_102 : decode cX12_whyNot 102 = .ok (.getfield 348, 3) := by decide +kernel
theorem dX12_whyNot_105 : decode cX12_whyNot 105 = .ok (.iload_n 2, 1) := by decide +kernel
theorem dX12_whyNot_106 : decode cX12_whyNot 106 = .ok (.iload_n 3, 1) := by decide +kernel
theorem dX12_whyNot_107 : decode cX12_whyNot 107 = .ok (.aload_n 0, 1) := by decide +kernel
theorem dX12_whyNot_108 : decode cX12_whyNot 108 = .ok (.getfield 428, 3) := by decide +kernel
theorem dX12_whyNot_111 : decode cX12_whyNot 111 = .ok (.iload_n 1, 1) := by decide +kernel
theorem dX12_whyNot_112 : decode cX12_whyNot 112 = .ok (.iaload, 1) := by decide +kernel
theorem dX12_whyNot_113 : decode cX12_whyNot 113 = .ok (.iconst 0, 1) := by decide +kernel
theorem dX12_whyNot_114 : decode cX12_whyNot 114 = .ok (.invokevirtual 437, 3) := by decide +kernel
theorem dX12_whyNot_117 : decode cX12_whyNot 117 = .ok (.ifCond .ge 5, 3) := by decide +kernel
theorem dX12_whyNot_120 : decode cX12_whyNot 120 = .ok (.iconst 5, 1) := by decide +kernel
theorem dX12_whyNot_121 : decode cX12_whyNot 121 = .ok (.ireturn, 1) := by decide +kernel
theorem dX12_whyNot_122 : decode cX12_whyNot 122 = .ok (.aload_n 0, 1) := by decide +kernel
theorem dX12_whyNot_123 : decode cX12_whyNot 123 = .ok (.getfield 441, 3) := by decide +kernel
theorem dX12_whyNot_126 : decode cX12_whyNot 126 = .ok (.iload_n 1, 1) := by decide +kernel
theorem dX12_whyNot_127 : decode cX12_whyNot 127 = .ok (.aload_n 0, 1) := by decide +kernel
theorem dX12_whyNot_128 : decode cX12_whyNot 128 = .ok (.aload_n 0, 1) := by decide +kernel
theorem dX12_whyNot_129 : decode cX12_whyNot 129 = .ok (.getfield 348, 3) := by decide +kernel
theorem dX12_whyNot_132 : decode cX12_whyNot 132 = .ok (.iload_n 2, 1) := by decide +kernel
theorem dX12_whyNot_133 : decode cX12_whyNot 133 = .ok (.iload_n 3, 1) := by decide +kernel
theorem dX12_whyNot_134 : decode cX12_whyNot 134 = .ok (.aload_n 0, 1) := by decide +kernel
theorem dX12_whyNot_135 : decode cX12_whyNot 135 = .ok (.getfield 428, 3) := by decide +kernel
theorem dX12_whyNot_138 : decode cX12_whyNot 138 = .ok (.iload_n 1, 1) := by decide +kernel
theorem dX12_whyNot_139 : decode cX12_whyNot 139 = .ok (.iaload, 1) := by decide +kernel
theorem dX12_whyNot_140 : decode cX12_whyNot 140 = .ok (.iconst 1, 1) := by decide +kernel
theorem dX12_whyNot_141 : decode cX12_whyNot 141 = .ok (.invokevirtual 437, 3) := by decide +kernel
theorem dX12_whyNot_144 : decode cX12_whyNot 144 = .ok (.iastore, 1) := by decide +kernel
theorem dX12_whyNot_145 : decode cX12_whyNot 145 = .ok (.aload_n 0, 1) := by decide +kernel
theorem dX12_whyNot_146 : decode cX12_whyNot 146 = .ok (.getfield 441, 3) := by decide +kernel
theorem dX12_whyNot_149 : decode cX12_whyNot 149 = .ok (.iload_n 1, 1) := by decide +kernel
theorem dX12_whyNot_150 : decode cX12_whyNot 150 = .ok (.iaload, 1) := by decide +kernel
theorem dX12_whyNot_151 : decode cX12_whyNot 151 = .ok (.ifCond .ge 8, 3) := by decide +kernel
theorem dX12_whyNot_154 : decode cX12_whyNot 154 = .ok (.bipush 6, 2) := by decide +kernel
theorem dX12_whyNot_156 : decode cX12_whyNot 156 = .ok (.goto 4, 3) := by decide +kernel
theorem dX12_whyNot_159 : decode cX12_whyNot 159 = .ok (.iconst 0, 1) := by decide +kernel
theorem dX12_whyNot_160 : decode cX12_whyNot 160 = .ok (.ireturn, 1) := by decide +kernel
theorem dX12_plead_0 : decode cX12_plead 0 = .ok (.aload_n 0, 1) := by decide +kernel
theorem dX12_plead_1 : decode cX12_plead 1 = .ok (.iconst 0, 1) := by decide +kernel
theorem dX12_plead_2 : decode cX12_plead 2 = .ok (.putfield 3, 3) := by decide +kernel
theorem dX12_plead_5 : decode cX12_plead 5 = .ok (.aload_n 0, 1) := by decide +kernel
theorem dX12_plead_6 : decode cX12_plead 6 = .ok (.invokevirtual 102, 3) := by decide +kernel
theorem dX12_plead_9 : decode cX12_plead 9 = .ok (.istore_n 1, 1) := by decide +kernel
theorem dX12_plead_10 : decode cX12_plead 10 = .ok (.aload_n 0, 1) := by decide +kernel
theorem dX12_plead_11 : decode cX12_plead 11 = .ok (.aload_n 0, 1) := by decide +kernel
theorem dX12_plead_12 : decode cX12_plead 12 = .ok (.getfield 444, 3) := by decide +kernel
theorem dX12_plead_15 : decode cX12_plead 15 = .ok (.putfield 413, 3) := by decide +kernel
theorem dX12_plead_18 : decode cX12_plead 18 = .ok (.iconst 1, 1) := by decide +kernel
theorem dX12_plead_19 : decode cX12_plead 19 = .ok (.istore_n 2, 1) := by decide +kernel
theorem dX12_plead_20 : decode cX12_plead 20 = .ok (.iload_n 1, 1) := by decide +kernel
theorem dX12_plead_21 : decode cX12_plead 21 = .ok (.ifCond .le 7, 3) := by decide +kernel
theorem dX12_plead_24 : decode cX12_plead 24 = .ok (.iconst 1, 1) := by decide +kernel
theorem dX12_plead_25 : decode cX12_plead 25 = .ok (.goto 4, 3) := by decide +kernel
theorem dX12_plead_28 : decode cX12_plead 28 = .ok (.iconst 0, 1) := by decide +kernel
theorem dX12_plead_29 : decode cX12_plead 29 = .ok (.istore_n 3, 1) := by decide +kernel
theorem dX12_plead_30 : decode cX12_plead 30 = .ok (.iload_n 3, 1) := by decide +kernel
theorem dX12_plead_31 : decode cX12_plead 31 = .ok (.ifCond .eq 30, 3) := by decide +kernel
theorem dX12_plead_34 : decode cX12_plead 34 = .ok (.aload_n 0, 1) := by decide +kernel
theorem dX12_plead_35 : decode cX12_plead 35 = .ok (.invokevirtual 447, 3) := by decide +kernel
theorem dX12_plead_38 : decode cX12_plead 38 = .ok (.istore_n 2, 1) := by decide +kernel
theorem dX12_plead_39 : decode cX12_plead 39 = .ok (.iload_n 2, 1) := by decide +kernel
theorem dX12_plead_40 : decode cX12_plead 40 = .ok (.ifCond .eq 16, 3) := by decide +kernel
theorem dX12_plead_43 : decode cX12_plead 43 = .ok (.aload_n 0, 1) := by decide +kernel
theorem dX12_plead_44 : decode cX12_plead 44 = .ok (.bipush 59, 2) := by decide +kernel
theorem dX12_plead_46 : decode cX12_plead 46 = .ok (.invokevirtual 72, 3) := by decide +kernel
theorem dX12_plead_49 : decode cX12_plead 49 = .ok (.ifCond .eq 7, 3) := by decide +kernel
theorem dX12_plead_52 : decode cX12_plead 52 = .ok (.iconst 1, 1) := by decide +kernel
theorem dX12_plead_53 : decode cX12_plead 53 = .ok (.goto 4, 3) := by decide +kernel
theorem dX12_plead_56 : decode cX12_plead 56 = .ok (.iconst 0, 1) := by decide +kernel
theorem dX12_plead_57 : decode cX12_plead 57 = .ok (.istore_n 3, 1) := by decide +kernel
theorem dX12_plead_58 : decode cX12_plead 58 = .ok (.goto (-28), 3) := by decide +kernel
theorem dX12_plead_61 : decode cX12_plead 61 = .ok (.aload_n 0, 1) := by decide +kernel
theorem dX12_plead_62 : decode cX12_plead 62 = .ok (.iload_n 1, 1) := by decide +kernel
theorem dX12_plead_63 : decode cX12_plead 63 = .ok (.iload_n 2, 1) := by decide +kernel
theorem dX12_plead_64 : decode cX12_plead 64 = .ok (.invokevirtual 111, 3) := by decide +kernel
theorem dX12_plead_67 : decode cX12_plead 67 = .ok (.istore 4, 2) := by decide +kernel
theorem dX12_plead_69 : decode cX12_plead 69 = .ok (.iload 4, 2) := by decide +kernel
theorem dX12_plead_71 : decode cX12_plead 71 = .ok (.ifCond .ge 6, 3) := by decide +kernel
theorem dX12_plead_74 : decode cX12_plead 74 = .ok (.iload 4, 2) := by decide +kernel
theorem dX12_plead_76 : decode cX12_plead 76 = .ok (.ireturn, 1) := by decide +kernel
theorem dX12_plead_77 : decode cX12_plead 77 = .ok (.aload_n 0, 1) := by decide +kernel
theorem dX12_plead_78 : decode cX12_plead 78 = .ok (.getfield 444, 3) := by decide +kernel
theorem dX12_plead_81 : decode cX12_plead 81 = .ok (.istore 5, 2) := by decide +kernel
theorem dX12_plead_83 : decode cX12_plead 83 = .ok (.iload 5, 2) := by decide +kernel
theorem dX12_plead_85 : decode cX12_plead 85 = .ok (.aload_n 0, 1) := by decide +kernel
theorem dX12_plead_86 : decode cX12_plead 86 = .ok (.getfield 413, 3) := by decide +kernel
theorem dX12_plead_89 : decode cX12_plead 89 = .ok (.if_icmp .ge 39, 3) := by decide +kernel
theorem dX12_plead_92 : decode cX12_plead 92 = .ok (.aload_n 0, 1) := by decide +kernel
theorem dX12_plead_93 : decode cX12_plead 93 = .ok (.iload 5, 2) := by decide +kernel
theorem dX12_plead_95 : decode cX12_plead 95 = .ok (.invokevirtual 450, 3) := by decide +kernel
theorem dX12_plead_98 : decode cX12_plead 98 = .ok (.istore 6, 2) := by decide +kernel
theorem dX12_plead_100 : decode cX12_plead 100 = .ok (.iload 6, 2) := by decide +kernel
theorem dX12_plead_102 : decode cX12_plead 102 = .ok (.ifCond .le 20, 3) := by decide +kernel
theorem dX12_plead_105 : decode cX12_plead 105 = .ok (.bipush (-100), 2) := by decide +kernel
theorem dX12_plead_107 : decode cX12_plead 107 = .ok (.bipush 10, 2) := by decide +kernel
theorem dX12_plead_109 : decode cX12_plead 109 = .ok (.iload 5, 2) := by decide +kernel
theorem dX12_plead_111 : decode cX12_plead 111 = .ok (.aload_n 0, 1) := by decide +kernel
theorem dX12_plead_112 : decode cX12_plead 112 = .ok (.getfield 444, 3) := by decide +kernel
theorem dX12_plead_115 : decode cX12_plead 115 = .ok (.isub, 1) := by decide +kernel
theorem dX12_plead_116 : decode cX12_plead 116 = .ok (.imul, 1) := by decide +kernel
theorem dX12_plead_117 : decode cX12_plead 117 = .ok (.isub, 1) := by decide +kernel
theorem dX12_plead_118 : decode cX12_plead 118 = .ok (.iload 6, 2) := by decide +kernel
theorem dX12_plead_120 : decode cX12_plead 120 = .ok (.isub, 1) := by decide +kernel
theorem dX12_plead_121 : decode cX12_plead 121 = .ok (.ireturn, 1) := by decide +kernel
theorem dX12_plead_122 : decode cX12_plead 122 = .ok (.iinc 5 1, 3) := by decide +kernel
theorem dX12_plead_125 : decode cX12_plead 125 = .ok (.goto (-42), 3) := by decide +kernel
theorem dX12_plead_128 : decode cX12_plead 128 = .ok (.aload_n 0, 1) := by decide +kernel
theorem dX12_plead_129 : decode cX12_plead 129 = .ok (.getfield 413, 3) := by decide +kernel
theorem dX12_plead_132 : decode cX12_plead 132 = .ok (.aload_n 0, 1) := by decide +kernel
theorem dX12_plead_133 : decode cX12_plead 133 = .ok (.getfield 444, 3) := by decide +kernel
theorem dX12_plead_136 : decode cX12_plead 136 = .ok (.isub, 1) := by decide +kernel
theorem dX12_plead_137 : decode cX12_plead 137 = .ok (.istore 5, 2) := by decide +kernel
theorem dX12_plead_139 : decode cX12_plead 139 = .ok (.aload_n 0, 1) := by decide +kernel
theorem dX12_plead_140 : decode cX12_plead 140 = .ok (.aload_n 0, 1) := by decide +kernel
theorem dX12_plead_141 : decode cX12_plead 141 = .ok (.getfield 413, 3) := by decide +kernel
theorem dX12_plead_144 : decode cX12_plead 144 = .ok (.putfield 444, 3) := by decide +kernel
theorem dX12_plead_147 : decode cX12_plead 147 = .ok (.iload 5, 2) := by decide +kernel
theorem dX12_plead_149 : decode cX12_plead 149 = .ok (.ireturn, 1) := by decide +kernel
theorem dX12_pleaded_0 : decode cX12_pleaded 0 = .ok (.aload_n 0, 1) := by decide +kernel
theorem dX12_pleaded_1 : decode cX12_pleaded 1 = .ok (.iconst 0, 1) := by decide +kernel
theorem dX12_pleaded_2 : decode cX12_pleaded 2 = .ok (.putfield 3, 3) := by decide +kernel
theorem dX12_pleaded_5 : decode cX12_pleaded 5 = .ok (.iload_n 1, 1) := by decide +kernel
theorem dX12_pleaded_6 : decode cX12_pleaded 6 = .ok (.i2l, 1) := by decide +kernel
theorem dX12_pleaded_7 : decode cX12_pleaded 7 = .ok (.lconst 0, 1) := by decide +kernel
theorem dX12_pleaded_8 : decode cX12_pleaded 8 = .ok (.aload_n 0, 1) := by decide +kernel
theorem dX12_pleaded_9 : decode cX12_pleaded 9 = .ok (.getfield 444, 3) := by decide +kernel
theorem dX12_pleaded_12 : decode cX12_pleaded 12 = .ok (.iconst 1, 1) := by decide +kernel
theorem dX12_pleaded_13 : decode cX12_pleaded 13 = .ok (.isub, 1) := by decide +kernel
theorem dX12_pleaded_14 : decode cX12_pleaded 14 = .ok (.i2l, 1) := by decide +kernel
theorem dX12_pleaded_15 : decode cX12_pleaded 15 = .ok (.invokestatic 16, 3) := by decide +kernel
theorem dX12_pleaded_18 : decode cX12_pleaded 18 = .ok (.ifCond .eq 15, 3) := by decide +kernel
theorem dX12_pleaded_21 : decode cX12_pleaded 21 = .ok (.iload_n 2, 1) := by decide +kernel
theorem dX12_pleaded_22 : decode cX12_pleaded 22 = .ok (.i2l, 1) := by decide +kernel
theorem dX12_pleaded_23 : decode cX12_pleaded 23 = .ok (.lconst 0, 1) := by decide +kernel
theorem dX12_pleaded_24 : decode cX12_pleaded 24 = .ok (.ldc2_w 329, 3) := by decide +kernel
theorem dX12_pleaded_27 : decode cX12_pleaded 27 = .ok (.invokestatic 16, 3) := by decide +kernel
theorem dX12_pleaded_30 : decode cX12_pleaded 30 = .ok (.ifCond .ne 8, 3) := by decide +kernel
theorem dX12_pleaded_33 : decode cX12_pleaded 33 = .ok (.aload_n 0, 1) := by decide +kernel
theorem dX12_pleaded_34 : decode cX12_pleaded 34 = .ok (.invokevirtual 123, 3) := by decide +kernel
theorem dX12_pleaded_37 : decode cX12_pleaded 37 = .ok (.ireturn, 1) := by decide +kernel
theorem dX12_pleaded_38 : decode cX12_pleaded 38 = .ok (.iload_n 2, 1) := by decide +kernel
theorem dX12_pleaded_39 : decode cX12_pleaded 39 = .ok (.ifCond .ne 10, 3) := by decide +kernel
theorem dX12_pleaded_42 : decode cX12_pleaded 42 = .ok (.aload_n 0, 1) := by decide +kernel
theorem dX12_pleaded_43 : decode cX12_pleaded 43 = .ok (.getfield 428, 3) := by decide +kernel
theorem dX12_pleaded_46 : decode cX12_pleaded 46 = .ok (.goto 43, 3) := by decide +kernel
theorem dX12_pleaded_49 : decode cX12_pleaded 49 = .ok (.iload_n 2, 1) := by decide +kernel
theorem dX12_pleaded_50 : decode cX12_pleaded 50 = .ok (.iconst 1, 1) := by decide +kernel
theorem dX12_pleaded_51 : decode cX12_pleaded 51 = .ok (.if_icmp .ne 10, 3) := by decide +kernel
theorem dX12_pleaded_54 : decode cX12_pleaded 54 = .ok (.aload_n 0, 1) := by decide +kernel
theorem dX12_pleaded_55 : decode cX12_pleaded 55 = .ok (.getfield 416, 3) := by decide +kernel
theorem dX12_pleaded_58 : decode cX12_pleaded 58 = .ok (.goto 31, 3) := by decide +kernel
theorem dX12_pleaded_61 : decode cX12_pleaded 61 = .ok (.iload_n 2, 1) := by decide +kernel
theorem dX12_pleaded_62 : decode cX12_pleaded 62 = .ok (.iconst 2, 1) := by decide +kernel
theorem dX12_pleaded_63 : decode cX12_pleaded 63 = .ok (.if_icmp .ne 10, 3) := by decide +kernel
theorem dX12_pleaded_66 : decode cX12_pleaded 66 = .ok (.aload_n 0, 1) := by decide +kernel
theorem dX12_pleaded_67 : decode cX12_pleaded 67 = .ok (.getfield 419, 3) := by decide +kernel
theorem dX12_pleaded_70 : decode cX12_pleaded 70 = .ok (.goto 19, 3) := by decide +kernel
theorem dX12_pleaded_73 : decode cX12_pleaded 73 = .ok (.iload_n 2, 1) := by decide +kernel
theorem dX12_pleaded_74 : decode cX12_pleaded 74 = .ok (.iconst 3, 1) := by decide +kernel
theorem dX12_pleaded_75 : decode cX12_pleaded 75 = .ok (.if_icmp .ne 10, 3) := by decide +kernel
theorem dX12_pleaded_78 : decode cX12_pleaded 78 = .ok (.aload_n 0, 1) := by decide +kernel
theorem dX12_pleaded_79 : decode cX12_pleaded 79 = .ok (.getfield 425, 3) := by decide +kernel
theorem dX12_pleaded_82 : decode cX12_pleaded 82 = .ok (.goto 7, 3) := by decide +kernel
theorem dX12_pleaded_85 : decode cX12_pleaded 85 = .ok (.aload_n 0, 1) := by decide +kernel
theorem dX12_pleaded_86 : decode cX12_pleaded 86 = .ok (.getfield 441, 3) := by decide +kernel
theorem dX12_pleaded_89 : decode cX12_pleaded 89 = .ok (.astore_n 3, 1) := by decide +kernel
theorem dX12_pleaded_90 : decode cX12_pleaded 90 = .ok (.aload_n 3, 1) := by decide +kernel
theorem dX12_pleaded_91 : decode cX12_pleaded 91 = .ok (.iload_n 1, 1) := by decide +kernel
theorem dX12_pleaded_92 : decode cX12_pleaded 92 = .ok (.iaload, 1) := by decide +kernel
theorem dX12_pleaded_93 : decode cX12_pleaded 93 = .ok (.ireturn, 1) := by decide +kernel
theorem dX12_isStanding_0 : decode cX12_isStanding 0 = .ok (.iload_n 1, 1) := by decide +kernel
theorem dX12_isStanding_1 : decode cX12_isStanding 1 = .ok (.ifCond .lt 34, 3) := by decide +kernel
theorem dX12_isStanding_4 : decode cX12_isStanding 4 = .ok (.iload_n 1, 1) := by decide +kernel
theorem dX12_isStanding_5 : decode cX12_isStanding 5 = .ok (.bipush 16, 2) := by decide +kernel
theorem dX12_isStanding_7 : decode cX12_isStanding 7 = .ok (.if_icmp .ge 17, 3) := by decide +kernel
theorem dX12_isStanding_10 : decode cX12_isStanding 10 = .ok (.aload_n 0, 1) := by decide +kernel
theorem dX12_isStanding_11 : decode cX12_isStanding 11 = .ok (.getfield 126, 3) := by decide +kernel
theorem dX12_isStanding_14 : decode cX12_isStanding 14 = .ok (.iload_n 1, 1) := by decide +kernel
theorem dX12_isStanding_15 : decode cX12_isStanding 15 = .ok (.invokestatic 129, 3) := by decide +kernel
theorem dX12_isStanding_18 : decode cX12_isStanding 18 = .ok (.ifCond .ne 21, 3) := by decide +kernel
theorem dX12_isStanding_21 : decode cX12_isStanding 21 = .ok (.goto 14, 3) := by decide +kernel
theorem dX12_isStanding_24 : decode cX12_isStanding 24 = .ok (.iload_n 2, 1) := by decide +kernel
theorem dX12_isStanding_25 : decode cX12_isStanding 25 = .ok (.iload_n 1, 1) := by decide +kernel
theorem dX12_isStanding_26 : decode cX12_isStanding 26 = .ok (.bipush 16, 2) := by decide +kernel
theorem dX12_isStanding_28 : decode cX12_isStanding 28 = .ok (.isub, 1) := by decide +kernel
theorem dX12_isStanding_29 : decode cX12_isStanding 29 = .ok (.invokestatic 129, 3) := by decide +kernel
theorem dX12_isStanding_32 : decode cX12_isStanding 32 = .ok (.ifCond .eq 7, 3) := by decide +kernel
theorem dX12_isStanding_35 : decode cX12_isStanding 35 = .ok (.iconst 1, 1) := by decide +kernel
theorem dX12_isStanding_36 : decode cX12_isStanding 36 = .ok (.goto 4, 3) := by decide +kernel
theorem dX12_isStanding_39 : decode cX12_isStanding 39 = .ok (.iconst 0, 1) := by decide +kernel
theorem dX12_isStanding_40 : decode cX12_isStanding 40 = .ok (.ireturn, 1) := by decide +kernel
theorem dX12_standingSteps_0 : decode cX12_standingSteps 0 = .ok (.iconst 0, 1) := by decide +kernel
theorem dX12_standingSteps_1 : decode cX12_standingSteps 1 = .ok (.istore_n 1, 1) := by decide +kernel
theorem dX12_standingSteps_2 : decode cX12_standingSteps 2 = .ok (.iconst 0, 1) := by decide +kernel
theorem dX12_standingSteps_3 : decode cX12_standingSteps 3 = .ok (.istore_n 2, 1) := by decide +kernel
theorem dX12_standingSteps_4 : decode cX12_standingSteps 4 = .ok (.iload_n 2, 1) := by decide +kernel
theorem dX12_standingSteps_5 : decode cX12_standingSteps 5 = .ok (.aload_n 0, 1) := by decide +kernel
theorem dX12_standingSteps_6 : decode cX12_standingSteps 6 = .ok (.getfield 444, 3) := by decide +kernel
theorem dX12_standingSteps_9 : decode cX12_standingSteps 9 = .ok (.if_icmp .ge 47, 3) := by decide +kernel
theorem dX12_standingSteps_12 : decode cX12_standingSteps 12 = .ok (.iload_n 1, 1) := by decide +kernel
theorem dX12_standingSteps_13 : decode cX12_standingSteps 13 = .ok (.aload_n 0, 1) := by decide +kernel
theorem dX12_standingSteps_14 : decode cX12_standingSteps 14 = .ok (.aload_n 0, 1) := by decide +kernel
theorem dX12_standingSteps_15 : decode cX12_standingSteps 15 = .ok (.getfield 419, 3) := by decide +kernel
theorem dX12_standingSteps_18 : decode cX12_standingSteps 18 = .ok (.iload_n 2, 1) := by decide +kernel
theorem dX12_standingSteps_19 : decode cX12_standingSteps 19 = .ok (.iaload, 1) := by decide +kernel
theorem dX12_standingSteps_20 : decode cX12_standingSteps 20 = .ok (.iload_n 1, 1) := by decide +kernel
theorem dX12_standingSteps_21 : decode cX12_standingSteps 21 = .ok (.invokevirtual 453, 3) := by decide +kernel
theorem dX12_standingSteps_24 : decode cX12_standingSteps 24 = .ok (.ifCond .eq 23, 3) := by decide +kernel
theorem dX12_standingSteps_27 : decode cX12_standingSteps 27 = .ok (.aload_n 0, 1) := by decide +kernel
theorem dX12_standingSteps_28 : decode cX12_standingSteps 28 = .ok (.aload_n 0, 1) := by decide +kernel
theorem dX12_standingSteps_29 : decode cX12_standingSteps 29 = .ok (.getfield 425, 3) := by decide +kernel
theorem dX12_standingSteps_32 : decode cX12_standingSteps 32 = .ok (.iload_n 2, 1) := by decide +kernel
theorem dX12_standingSteps_33 : decode cX12_standingSteps 33 = .ok (.iaload, 1) := by decide +kernel
theorem dX12_standingSteps_34 : decode cX12_standingSteps 34 = .ok (.iload_n 1, 1) := by decide +kernel
theorem dX12_standingSteps_35 : decode cX12_standingSteps 35 = .ok (.invokevirtual 453, 3) := by decide +kernel
theorem dX12_standingSteps_38 : decode cX12_standingSteps 38 = .ok (.ifCond .eq 9, 3) := by decide +kernel
theorem dX12_standingSteps_41 : decode cX12_standingSteps 41 = .ok (.iconst 1, 1) := by decide +kernel
theorem dX12_standingSteps_42 : decode cX12_standingSteps 42 = .ok (.iload_n 2, 1) := by decide +kernel
theorem dX12_standingSteps_43 : decode cX12_standingSteps 43 = .ok (.ishl, 1) := by decide +kernel
theorem dX12_standingSteps_44 : decode cX12_standingSteps 44 = .ok (.goto 4, 3) := by decide +kernel
theorem dX12_standingSteps_47 : decode cX12_standingSteps 47 = .ok (.iconst 0, 1) := by decide +kernel
theorem dX12_standingSteps_48 : decode cX12_standingSteps 48 = .ok (.ior, 1) := by decide +kernel
theorem dX12_standingSteps_49 : decode cX12_standingSteps 49 = .ok (.istore_n 1, 1) := by decide +kernel
theorem dX12_standingSteps_50 : decode cX12_standingSteps 50 = .ok (.iinc 2 1, 3) := by decide +kernel
theorem dX12_standingSteps_53 : decode cX12_standingSteps 53 = .ok (.goto (-49), 3) := by decide +kernel
theorem dX12_standingSteps_56 : decode cX12_standingSteps 56 = .ok (.iload_n 1, 1) := by decide +kernel
theorem dX12_standingSteps_57 : decode cX12_standingSteps 57 = .ok (.ireturn, 1) := by decide +kernel
theorem dX12_stands_0 : decode cX12_stands 0 = .ok (.aload_n 0, 1) := by decide +kernel
theorem dX12_stands_1 : decode cX12_stands 1 = .ok (.iconst 0, 1) := by decide +kernel
theorem dX12_stands_2 : decode cX12_stands 2 = .ok (.putfield 3, 3) := by decide +kernel
theorem dX12_stands_5 : decode cX12_stands 5 = .ok (.aload_n 0, 1) := by decide +kernel
theorem dX12_stands_6 : decode cX12_stands 6 = .ok (.invokevirtual 456, 3) := by decide +kernel
theorem dX12_stands_9 : decode cX12_stands 9 = .ok (.ireturn, 1) := by decide +kernel
theorem dX12_isWanted_0 : decode cX12_isWanted 0 = .ok (.iconst 0, 1) := by decide +kernel
theorem dX12_isWanted_1 : decode cX12_isWanted 1 = .ok (.istore_n 2, 1) := by decide +kernel
theorem dX12_isWanted_2 : decode cX12_isWanted 2 = .ok (.iconst 0, 1) := by decide +kernel
theorem dX12_isWanted_3 : decode cX12_isWanted 3 = .ok (.istore_n 3, 1) := by decide +kernel
theorem dX12_isWanted_4 : decode cX12_isWanted 4 = .ok (.iload_n 3, 1) := by decide +kernel
theorem dX12_isWanted_5 : decode cX12_isWanted 5 = .ok (.aload_n 0, 1) := by decide +kernel
theorem dX12_isWanted_6 : decode cX12_isWanted 6 = .ok (.getfield 145, 3) := by decide +kernel
theorem dX12_isWanted_9 : decode cX12_isWanted 9 = .ok (.if_icmp .ge 29, 3) := by decide +kernel
theorem dX12_isWanted_12 : decode cX12_isWanted 12 = .ok (.iload_n 2, 1) := by decide +kernel
theorem dX12_isWanted_13 : decode cX12_isWanted 13 = .ok (.ifCond .ne 13, 3) := by decide +kernel
theorem dX12_isWanted_16 : decode cX12_isWanted 16 = .ok (.aload_n 0, 1) := by decide +kernel
theorem dX12_isWanted_17 : decode cX12_isWanted 17 = .ok (.getfield 148, 3) := by decide +kernel
theorem dX12_isWanted_20 : decode cX12_isWanted 20 = .ok (.iload_n 3, 1) := by decide +kernel
theorem dX12_isWanted_21 : decode cX12_isWanted 21 = .ok (.iaload, 1) := by decide +kernel
theorem dX12_isWanted_22 : decode cX12_isWanted 22 = .ok (.iload_n 1, 1) := by decide +kernel
theorem dX12_isWanted_23 : decode cX12_isWanted 23 = .ok (.if_icmp .ne 7, 3) := by decide +kernel
theorem dX12_isWanted_26 : decode cX12_isWanted 26 = .ok (.iconst 1, 1) := by decide +kernel
theorem dX12_isWanted_27 : decode cX12_isWanted 27 = .ok (.goto 4, 3) := by decide +kernel
theorem dX12_isWanted_30 : decode cX12_isWanted 30 = .ok (.iconst 0, 1) := by decide +kernel
theorem dX12_isWanted_31 : decode cX12_isWanted 31 = .ok (.istore_n 2, 1) := by decide +kernel
theorem dX12_isWanted_32 : decode cX12_isWanted 32 = .ok (.iinc 3 1, 3) := by decide +kernel
theorem dX12_isWanted_35 : decode cX12_isWanted 35 = .ok (.goto (-31), 3) := by decide +kernel
theorem dX12_isWanted_38 : decode cX12_isWanted 38 = .ok (.iload_n 2, 1) := by decide +kernel
theorem dX12_isWanted_39 : decode cX12_isWanted 39 = .ok (.ireturn, 1) := by decide +kernel
theorem dX12_isSaidAhead_0 : decode cX12_isSaidAhead 0 = .ok (.iconst 0, 1) := by decide +kernel
theorem dX12_isSaidAhead_1 : decode cX12_isSaidAhead 1 = .ok (.istore_n 2, 1) := by decide +kernel
theorem dX12_isSaidAhead_2 : decode cX12_isSaidAhead 2 = .ok (.iconst 0, 1) := by decide +kernel
theorem dX12_isSaidAhead_3 : decode cX12_isSaidAhead 3 = .ok (.istore_n 3, 1) := by decide +kernel
theorem dX12_isSaidAhead_4 : decode cX12_isSaidAhead 4 = .ok (.iload_n 3, 1) := by decide +kernel
theorem dX12_isSaidAhead_5 : decode cX12_isSaidAhead 5 = .ok (.aload_n 0, 1) := by decide +kernel
theorem dX12_isSaidAhead_6 : decode cX12_isSaidAhead 6 = .ok (.getfield 105, 3) := by decide +kernel
theorem dX12_isSaidAhead_9 : decode cX12_isSaidAhead 9 = .ok (.if_icmp .ge 34, 3) := by decide +kernel
theorem dX12_isSaidAhead_12 : decode cX12_isSaidAhead 12 = .ok (.iload_n 2, 1) := by decide +kernel
theorem dX12_isSaidAhead_13 : decode cX12_isSaidAhead 13 = .ok (.ifCond .ne 18, 3) := by decide +kernel
theorem dX12_isSaidAhead_16 : decode cX12_isSaidAhead 16 = .ok (.aload_n 0, 1) := by decide +kernel
theorem dX12_isSaidAhead_17 : decode cX12_isSaidAhead 17 = .ok (.getfield 87, 3) := by decide +kernel
theorem dX12_isSaidAhead_20 : decode cX12_isSaidAhead 20 = .ok (.iload_n 3, 1) := by decide +kernel
theorem dX12_isSaidAhead_21 : decode cX12_isSaidAhead 21 = .ok (.iaload, 1) := by decide +kernel
theorem dX12_isSaidAhead_22 : decode cX12_isSaidAhead 22 = .ok (.aload_n 0, 1) := by decide +kernel
theorem dX12_isSaidAhead_23 : decode cX12_isSaidAhead 23 = .ok (.getfield 428, 3) := by decide +kernel
theorem dX12_isSaidAhead_26 : decode cX12_isSaidAhead 26 = .ok (.iload_n 1, 1) := by decide +kernel
theorem dX12_isSaidAhead_27 : decode cX12_isSaidAhead 27 = .ok (.iaload, 1) := by decide +kernel
theorem dX12_isSaidAhead_28 : decode cX12_isSaidAhead 28 = .ok (.if_icmp .ne 7, 3) := by decide +kernel
theorem dX12_isSaidAhead_31 : decode cX12_isSaidAhead 31 = .ok (.iconst 1, 1) := by decide +kernel
theorem dX12_isSaidAhead_32 : decode cX12_isSaidAhead 32 = .ok (.goto 4, 3) := by decide +kernel
theorem dX12_isSaidAhead_35 : decode cX12_isSaidAhead 35 = .ok (.iconst 0, 1) := by decide +kernel
theorem dX12_isSaidAhead_36 : decode cX12_isSaidAhead 36 = .ok (.istore_n 2, 1) := by decide +kernel
theorem dX12_isSaidAhead_37 : decode cX12_isSaidAhead 37 = .ok (.iinc 3 1, 3) := by decide +kernel
theorem dX12_isSaidAhead_40 : decode cX12_isSaidAhead 40 = .ok (.goto (-36), 3) := by decide +kernel
theorem dX12_isSaidAhead_43 : decode cX12_isSaidAhead 43 = .ok (.iconst 0, 1) := by decide +kernel
theorem dX12_isSaidAhead_44 : decode cX12_isSaidAhead 44 = .ok (.istore_n 3, 1) := by decide +kernel
theorem dX12_isSaidAhead_45 : decode cX12_isSaidAhead 45 = .ok (.iload_n 3, 1) := by decide +kernel
theorem dX12_isSaidAhead_46 : decode cX12_isSaidAhead 46 = .ok (.iload_n 1, 1) := by decide +kernel
theorem dX12_isSaidAhead_47 : decode cX12_isSaidAhead 47 = .ok (.if_icmp .ge 34, 3) := by decide +kernel
theorem dX12_isSaidAhead_50 : decode cX12_isSaidAhead 50 = .ok (.iload_n 2, 1) := by decide +kernel
theorem dX12_isSaidAhead_51 : decode cX12_isSaidAhead 51 = .ok (.ifCond .ne 18, 3) := by decide +kernel
theorem dX12_isSaidAhead_54 : decode cX12_isSaidAhead 54 = .ok (.aload_n 0, 1) := by decide +kernel
theorem dX12_isSaidAhead_55 : decode cX12_isSaidAhead 55 = .ok (.getfield 428, 3) := by decide +kernel
theorem dX12_isSaidAhead_58 : decode cX12_isSaidAhead 58 = .ok (.iload_n 3, 1) := by decide +kernel
theorem dX12_isSaidAhead_59 : decode cX12_isSaidAhead 59 = .ok (.iaload, 1) := by decide +kernel
theorem dX12_isSaidAhead_60 : decode cX12_isSaidAhead 60 = .ok (.aload_n 0, 1) := by decide +kernel
theorem dX12_isSaidAhead_61 : decode cX12_isSaidAhead 61 = .ok (.getfield 428, 3) := by decide +kernel
theorem dX12_isSaidAhead_64 : decode cX12_isSaidAhead 64 = .ok (.iload_n 1, 1) := by decide +kernel
theorem dX12_isSaidAhead_65 : decode cX12_isSaidAhead 65 = .ok (.iaload, 1) := by decide +kernel
theorem dX12_isSaidAhead_66 : decode cX12_isSaidAhead 66 = .ok (.if_icmp .ne 7, 3) := by decide +kernel
theorem dX12_isSaidAhead_69 : decode cX12_isSaidAhead 69 = .ok (.iconst 1, 1) := by decide +kernel
theorem dX12_isSaidAhead_70 : decode cX12_isSaidAhead 70 = .ok (.goto 4, 3) := by decide +kernel
theorem dX12_isSaidAhead_73 : decode cX12_isSaidAhead 73 = .ok (.iconst 0, 1) := by decide +kernel
theorem dX12_isSaidAhead_74 : decode cX12_isSaidAhead 74 = .ok (.istore_n 2, 1) := by decide +kernel
