theorem dX5_firstSaying_30 : decode cX5_firstSaying 30 = .ok (.getfield 67, 3) := by decide +kernel
theorem dX5_firstSaying_33 : decode cX5_firstSaying 33 = .ok (.iload_n 2, 1) := by decide +kernel
theorem dX5_firstSaying_34 : decode cX5_firstSaying 34 = .ok (.iaload, 1) := by decide +kernel
theorem dX5_firstSaying_35 : decode cX5_firstSaying 35 = .ok (.iload_n 1, 1) := by decide +kernel
theorem dX5_firstSaying_36 : decode cX5_firstSaying 36 = .ok (.if_icmp .eq 9, 3) := by decide +kernel
theorem dX5_firstSaying_39 : decode cX5_firstSaying 39 = .ok (.iinc 2 1, 3) := by decide +kernel
theorem dX5_firstSaying_42 : decode cX5_firstSaying 42 = .ok (.goto (-40), 3) := by decide +kernel
theorem dX5_firstSaying_45 : decode cX5_firstSaying 45 = .ok (.iload_n 2, 1) := by decide +kernel
theorem dX5_firstSaying_46 : decode cX5_firstSaying 46 = .ok (.ireturn, 1) := by decide +kernel
theorem dX6_init_0 : decode cX6_init 0 = .ok (.aload_n 0, 1) := by decide +kernel
theorem dX6_init_1 : decode cX6_init 1 = .ok (.invokespecial 3, 3) := by decide +kernel
theorem dX6_init_4 : decode cX6_init 4 = .ok (.aload_n 0, 1) := by decide +kernel
theorem dX6_init_5 : decode cX6_init 5 = .ok (.aload_n 1, 1) := by decide +kernel
theorem dX6_init_6 : decode cX6_init 6 = .ok (.putfield 9, 3) := by decide +kernel
theorem dX6_init_9 : decode cX6_init 9 = .ok (.aload_n 0, 1) := by decide +kernel
theorem dX6_init_10 : decode cX6_init 10 = .ok (.aload_n 2, 1) := by decide +kernel
theorem dX6_init_11 : decode cX6_init 11 = .ok (.putfield 15, 3) := by decide +kernel
theorem dX6_init_14 : decode cX6_init 14 = .ok (.return_, 1) := by decide +kernel
theorem dX6_smallest_0 : decode cX6_smallest 0 = .ok (.aload_n 0, 1) := by decide +kernel
theorem dX6_smallest_1 : decode cX6_smallest 1 = .ok (.iload_n 1, 1) := by decide +kernel
theorem dX6_smallest_2 : decode cX6_smallest 2 = .ok (.putfield 19, 3) := by decide +kernel
theorem dX6_smallest_5 : decode cX6_smallest 5 = .ok (.aload_n 0, 1) := by decide +kernel
theorem dX6_smallest_6 : decode cX6_smallest 6 = .ok (.iload_n 2, 1) := by decide +kernel
theorem dX6_smallest_7 : decode cX6_smallest 7 = .ok (.putfield 23, 3) := by decide +kernel
theorem dX6_smallest_10 : decode cX6_smallest 10 = .ok (.aload_n 0, 1) := by decide +kernel
theorem dX6_smallest_11 : decode cX6_smallest 11 = .ok (.iload 4, 2) := by decide +kernel
theorem dX6_smallest_13 : decode cX6_smallest 13 = .ok (.putfield 26, 3) := by decide +kernel
theorem dX6_smallest_16 : decode cX6_smallest 16 = .ok (.aload_n 0, 1) := by decide +kernel
theorem dX6_smallest_17 : decode cX6_smallest 17 = .ok (.ldc 29, 2) := by decide +kernel
theorem dX6_smallest_19 : decode cX6_smallest 19 = .ok (.putfield 30, 3) := by decide +kernel
theorem dX6_smallest_22 : decode cX6_smallest 22 = .ok (.aload_n 0, 1) := by decide +kernel
theorem dX6_smallest_23 : decode cX6_smallest 23 = .ok (.iload_n 3, 1) := by decide +kernel
theorem dX6_smallest_24 : decode cX6_smallest 24 = .ok (.invokevirtual 33, 3) := by decide +kernel
theorem dX6_smallest_27 : decode cX6_smallest 27 = .ok (.ifCond .ne 6, 3) := by decide +kernel
theorem dX6_smallest_30 : decode cX6_smallest 30 = .ok (.bipush (-2), 2) := by decide +kernel
theorem dX6_smallest_32 : decode cX6_smallest 32 = .ok (.ireturn, 1) := by decide +kernel
theorem dX6_smallest_33 : decode cX6_smallest 33 = .ok (.iconst 0, 1) := by decide +kernel
theorem dX6_smallest_34 : decode cX6_smallest 34 = .ok (.istore 5, 2) := by decide +kernel
theorem dX6_smallest_36 : decode cX6_smallest 36 = .ok (.iconst 0, 1) := by decide +kernel
theorem dX6_smallest_37 : decode cX6_smallest 37 = .ok (.istore 6, 2) := by decide +kernel
theorem dX6_smallest_39 : decode cX6_smallest 39 = .ok (.iload 6, 2) := by decide +kernel
theorem dX6_smallest_41 : decode cX6_smallest 41 = .ok (.bipush 16, 2) := by decide +kernel
theorem dX6_smallest_43 : decode cX6_smallest 43 = .ok (.if_icmp .ge 42, 3) := by decide +kernel
theorem dX6_smallest_46 : decode cX6_smallest 46 = .ok (.iload_n 3, 1) := by decide +kernel
theorem dX6_smallest_47 : decode cX6_smallest 47 = .ok (.iload 6, 2) := by decide +kernel
theorem dX6_smallest_49 : decode cX6_smallest 49 = .ok (.ishr, 1) := by decide +kernel
theorem dX6_smallest_50 : decode cX6_smallest 50 = .ok (.iconst 1, 1) := by decide +kernel
theorem dX6_smallest_51 : decode cX6_smallest 51 = .ok (.iand, 1) := by decide +kernel
theorem dX6_smallest_52 : decode cX6_smallest 52 = .ok (.ifCond .eq 27, 3) := by decide +kernel
theorem dX6_smallest_55 : decode cX6_smallest 55 = .ok (.aload_n 0, 1) := by decide +kernel
theorem dX6_smallest_56 : decode cX6_smallest 56 = .ok (.iload_n 3, 1) := by decide +kernel
theorem dX6_smallest_57 : decode cX6_smallest 57 = .ok (.iconst 1, 1) := by decide +kernel
theorem dX6_smallest_58 : decode cX6_smallest 58 = .ok (.iload 6, 2) := by decide +kernel
theorem dX6_smallest_60 : decode cX6_smallest 60 = .ok (.ishl, 1) := by decide +kernel
theorem dX6_smallest_61 : decode cX6_smallest 61 = .ok (.iconst (-1), 1) := by decide +kernel
theorem dX6_smallest_62 : decode cX6_smallest 62 = .ok (.ixor, 1) := by decide +kernel
theorem dX6_smallest_63 : decode cX6_smallest 63 = .ok (.iand, 1) := by decide +kernel
theorem dX6_smallest_64 : decode cX6_smallest 64 = .ok (.invokevirtual 33, 3) := by decide +kernel
theorem dX6_smallest_67 : decode cX6_smallest 67 = .ok (.ifCond .ne 12, 3) := by decide +kernel
theorem dX6_smallest_70 : decode cX6_smallest 70 = .ok (.iload 5, 2) := by decide +kernel
theorem dX6_smallest_72 : decode cX6_smallest 72 = .ok (.iconst 1, 1) := by decide +kernel
theorem dX6_smallest_73 : decode cX6_smallest 73 = .ok (.iload 6, 2) := by decide +kernel
theorem dX6_smallest_75 : decode cX6_smallest 75 = .ok (.ishl, 1) := by decide +kernel
theorem dX6_smallest_76 : decode cX6_smallest 76 = .ok (.ior, 1) := by decide +kernel
theorem dX6_smallest_77 : decode cX6_smallest 77 = .ok (.istore 5, 2) := by decide +kernel
theorem dX6_smallest_79 : decode cX6_smallest 79 = .ok (.iinc 6 1, 3) := by decide +kernel
theorem dX6_smallest_82 : decode cX6_smallest 82 = .ok (.goto (-43), 3) := by decide +kernel
theorem dX6_smallest_85 : decode cX6_smallest 85 = .ok (.iconst 0, 1) := by decide +kernel
theorem dX6_smallest_86 : decode cX6_smallest 86 = .ok (.istore 6, 2) := by decide +kernel
theorem dX6_smallest_88 : decode cX6_smallest 88 = .ok (.iload 6, 2) := by decide +kernel
theorem dX6_smallest_90 : decode cX6_smallest 90 = .ok (.bipush 16, 2) := by decide +kernel
theorem dX6_smallest_92 : decode cX6_smallest 92 = .ok (.if_icmp .gt 32, 3) := by decide +kernel
theorem dX6_smallest_95 : decode cX6_smallest 95 = .ok (.aload_n 0, 1) := by decide +kernel
theorem dX6_smallest_96 : decode cX6_smallest 96 = .ok (.getfield 30, 3) := by decide +kernel
theorem dX6_smallest_99 : decode cX6_smallest 99 = .ok (.ldc 29, 2) := by decide +kernel
theorem dX6_smallest_101 : decode cX6_smallest 101 = .ok (.if_icmp .ne 23, 3) := by decide +kernel
theorem dX6_smallest_104 : decode cX6_smallest 104 = .ok (.aload_n 0, 1) := by decide +kernel
theorem dX6_smallest_105 : decode cX6_smallest 105 = .ok (.iload 5, 2) := by decide +kernel
theorem dX6_smallest_107 : decode cX6_smallest 107 = .ok (.iload_n 3, 1) := by decide +kernel
theorem dX6_smallest_108 : decode cX6_smallest 108 = .ok (.iload 5, 2) := by decide +kernel
theorem dX6_smallest_110 : decode cX6_smallest 110 = .ok (.iconst (-1), 1) := by decide +kernel
theorem dX6_smallest_111 : decode cX6_smallest 111 = .ok (.ixor, 1) := by decide +kernel
theorem dX6_smallest_112 : decode cX6_smallest 112 = .ok (.iand, 1) := by decide +kernel
theorem dX6_smallest_113 : decode cX6_smallest 113 = .ok (.iload 6, 2) := by decide +kernel
theorem dX6_smallest_115 : decode cX6_smallest 115 = .ok (.invokevirtual 37, 3) := by decide +kernel
theorem dX6_smallest_118 : decode cX6_smallest 118 = .ok (.iinc 6 1, 3) := by decide +kernel
theorem dX6_smallest_121 : decode cX6_smallest 121 = .ok (.goto (-33), 3) := by decide +kernel
theorem dX6_smallest_124 : decode cX6_smallest 124 = .ok (.aload_n 0, 1) := by decide +kernel
theorem dX6_smallest_125 : decode cX6_smallest 125 = .ok (.getfield 30, 3) := by decide +kernel
theorem dX6_smallest_128 : decode cX6_smallest 128 = .ok (.ldc 41, 2) := by decide +kernel
theorem dX6_smallest_130 : decode cX6_smallest 130 = .ok (.iand, 1) := by decide +kernel
theorem dX6_smallest_131 : decode cX6_smallest 131 = .ok (.ireturn, 1) := by decide +kernel
theorem dX6_explore_0 : decode cX6_explore 0 = .ok (.aload_n 0, 1) := by decide +kernel
theorem dX6_explore_1 : decode cX6_explore 1 = .ok (.iload_n 1, 1) := by decide +kernel
theorem dX6_explore_2 : decode cX6_explore 2 = .ok (.invokevirtual 33, 3) := by decide +kernel
theorem dX6_explore_5 : decode cX6_explore 5 = .ok (.ifCond .eq 29, 3) := by decide +kernel
theorem dX6_explore_8 : decode cX6_explore 8 = .ok (.aload_n 0, 1) := by decide +kernel
theorem dX6_explore_9 : decode cX6_explore 9 = .ok (.aload_n 0, 1) := by decide +kernel
theorem dX6_explore_10 : decode cX6_explore 10 = .ok (.getfield 30, 3) := by decide +kernel
theorem dX6_explore_13 : decode cX6_explore 13 = .ok (.iload_n 1, 1) := by decide +kernel
theorem dX6_explore_14 : decode cX6_explore 14 = .ok (.aload_n 0, 1) := by decide +kernel
theorem dX6_explore_15 : decode cX6_explore 15 = .ok (.getfield 26, 3) := by decide +kernel
theorem dX6_explore_18 : decode cX6_explore 18 = .ok (.iand, 1) := by decide +kernel
theorem dX6_explore_19 : decode cX6_explore 19 = .ok (.invokestatic 42, 3) := by decide +kernel
theorem dX6_explore_22 : decode cX6_explore 22 = .ok (.bipush 16, 2) := by decide +kernel
theorem dX6_explore_24 : decode cX6_explore 24 = .ok (.ishl, 1) := by decide +kernel
theorem dX6_explore_25 : decode cX6_explore 25 = .ok (.iload_n 1, 1) := by decide +kernel
theorem dX6_explore_26 : decode cX6_explore 26 = .ok (.ior, 1) := by decide +kernel
theorem dX6_explore_27 : decode cX6_explore 27 = .ok (.invokestatic 48, 3) := by decide +kernel
theorem dX6_explore_30 : decode cX6_explore 30 = .ok (.putfield 30, 3) := by decide +kernel
theorem dX6_explore_33 : decode cX6_explore 33 = .ok (.return_, 1) := by decide +kernel
theorem dX6_explore_34 : decode cX6_explore 34 = .ok (.iload_n 3, 1) := by decide +kernel
theorem dX6_explore_35 : decode cX6_explore 35 = .ok (.ifCond .gt 4, 3) := by decide +kernel
theorem dX6_explore_38 : decode cX6_explore 38 = .ok (.return_, 1) := by decide +kernel
theorem dX6_explore_39 : decode cX6_explore 39 = .ok (.aload_n 0, 1) := by decide +kernel
theorem dX6_explore_40 : decode cX6_explore 40 = .ok (.iload_n 1, 1) := by decide +kernel
theorem dX6_explore_41 : decode cX6_explore 41 = .ok (.iload_n 2, 1) := by decide +kernel
theorem dX6_explore_42 : decode cX6_explore 42 = .ok (.invokevirtual 54, 3) := by decide +kernel
theorem dX6_explore_45 : decode cX6_explore 45 = .ok (.istore 4, 2) := by decide +kernel
theorem dX6_explore_47 : decode cX6_explore 47 = .ok (.iload_n 1, 1) := by decide +kernel
theorem dX6_explore_48 : decode cX6_explore 48 = .ok (.istore 5, 2) := by decide +kernel
theorem dX6_explore_50 : decode cX6_explore 50 = .ok (.iload_n 1, 1) := by decide +kernel
theorem dX6_explore_51 : decode cX6_explore 51 = .ok (.istore 6, 2) := by decide +kernel
theorem dX6_explore_53 : decode cX6_explore 53 = .ok (.iload_n 1, 1) := by decide +kernel
theorem dX6_explore_54 : decode cX6_explore 54 = .ok (.aload_n 0, 1) := by decide +kernel
theorem dX6_explore_55 : decode cX6_explore 55 = .ok (.getfield 26, 3) := by decide +kernel
theorem dX6_explore_58 : decode cX6_explore 58 = .ok (.iand, 1) := by decide +kernel
theorem dX6_explore_59 : decode cX6_explore 59 = .ok (.invokestatic 42, 3) := by decide +kernel
theorem dX6_explore_62 : decode cX6_explore 62 = .ok (.istore 7, 2) := by decide +kernel
theorem dX6_explore_64 : decode cX6_explore 64 = .ok (.iconst 0, 1) := by decide +kernel
theorem dX6_explore_65 : decode cX6_explore 65 = .ok (.istore 8, 2) := by decide +kernel
theorem dX6_explore_67 : decode cX6_explore 67 = .ok (.iload 4, 2) := by decide +kernel
theorem dX6_explore_69 : decode cX6_explore 69 = .ok (.istore 9, 2) := by decide +kernel
theorem dX6_explore_71 : decode cX6_explore 71 = .ok (.iload 9, 2) := by decide +kernel
theorem dX6_explore_73 : decode cX6_explore 73 = .ok (.ifCond .eq 82, 3) := by decide +kernel
theorem dX6_explore_76 : decode cX6_explore 76 = .ok (.iload 8, 2) := by decide +kernel
theorem dX6_explore_78 : decode cX6_explore 78 = .ok (.iload_n 3, 1) := by decide +kernel
theorem dX6_explore_79 : decode cX6_explore 79 = .ok (.if_icmp .gt 76, 3) := by decide +kernel
theorem dX6_explore_82 : decode cX6_explore 82 = .ok (.iload 5, 2) := by decide +kernel
theorem dX6_explore_84 : decode cX6_explore 84 = .ok (.iload 9, 2) := by decide +kernel
theorem dX6_explore_86 : decode cX6_explore 86 = .ok (.ior, 1) := by decide +kernel
theorem dX6_explore_87 : decode cX6_explore 87 = .ok (.istore 5, 2) := by decide +kernel
theorem dX6_explore_89 : decode cX6_explore 89 = .ok (.iload 6, 2) := by decide +kernel
theorem dX6_explore_91 : decode cX6_explore 91 = .ok (.iload 9, 2) := by decide +kernel
theorem dX6_explore_93 : decode cX6_explore 93 = .ok (.iload 9, 2) := by decide +kernel
theorem dX6_explore_95 : decode cX6_explore 95 = .ok (.ineg, 1) := by decide +kernel
theorem dX6_explore_96 : decode cX6_explore 96 = .ok (.iand, 1) := by decide +kernel
theorem dX6_explore_97 : decode cX6_explore 97 = .ok (.ior, 1) := by decide +kernel
theorem dX6_explore_98 : decode cX6_explore 98 = .ok (.istore 6, 2) := by decide +kernel
theorem dX6_explore_100 : decode cX6_explore 100 = .ok (.iload 7, 2) := by decide +kernel
theorem dX6_explore_102 : decode cX6_explore 102 = .ok (.iload 9, 2) := by decide +kernel
theorem dX6_explore_104 : decode cX6_explore 104 = .ok (.aload_n 0, 1) := by decide +kernel
theorem dX6_explore_105 : decode cX6_explore 105 = .ok (.getfield 26, 3) := by decide +kernel
theorem dX6_explore_108 : decode cX6_explore 108 = .ok (.iconst (-1), 1) := by decide +kernel
theorem dX6_explore_109 : decode cX6_explore 109 = .ok (.ixor, 1) := by decide +kernel
theorem dX6_explore_110 : decode cX6_explore 110 = .ok (.iand, 1) := by decide +kernel
theorem dX6_explore_111 : decode cX6_explore 111 = .ok (.ifCond .ne 7, 3) := by decide +kernel
theorem dX6_explore_114 : decode cX6_explore 114 = .ok (.iconst 1, 1) := by decide +kernel
theorem dX6_explore_115 : decode cX6_explore 115 = .ok (.goto 4, 3) := by decide +kernel
theorem dX6_explore_118 : decode cX6_explore 118 = .ok (.iconst 0, 1) := by decide +kernel
theorem dX6_explore_119 : decode cX6_explore 119 = .ok (.iadd, 1) := by decide +kernel
theorem dX6_explore_120 : decode cX6_explore 120 = .ok (.istore 7, 2) := by decide +kernel
theorem dX6_explore_122 : decode cX6_explore 122 = .ok (.aload_n 0, 1) := by decide +kernel
theorem dX6_explore_123 : decode cX6_explore 123 = .ok (.iload 5, 2) := by decide +kernel
theorem dX6_explore_125 : decode cX6_explore 125 = .ok (.invokevirtual 33, 3) := by decide +kernel
theorem dX6_explore_128 : decode cX6_explore 128 = .ok (.ifCond .eq 7, 3) := by decide +kernel
theorem dX6_explore_131 : decode cX6_explore 131 = .ok (.iconst 0, 1) := by decide +kernel
theorem dX6_explore_132 : decode cX6_explore 132 = .ok (.goto 15, 3) := by decide +kernel
theorem dX6_explore_135 : decode cX6_explore 135 = .ok (.aload_n 0, 1) := by decide +kernel
theorem dX6_explore_136 : decode cX6_explore 136 = .ok (.iload 5, 2) := by decide +kernel
theorem dX6_explore_138 : decode cX6_explore 138 = .ok (.iload_n 2, 1) := by decide +kernel
theorem dX6_explore_139 : decode cX6_explore 139 = .ok (.iload 5, 2) := by decide +kernel
theorem dX6_explore_141 : decode cX6_explore 141 = .ok (.iconst (-1), 1) := by decide +kernel
theorem dX6_explore_142 : decode cX6_explore 142 = .ok (.ixor, 1) := by decide +kernel
theorem dX6_explore_143 : decode cX6_explore 143 = .ok (.iand, 1) := by decide +kernel
theorem dX6_explore_144 : decode cX6_explore 144 = .ok (.invokevirtual 54, 3) := by decide +kernel
theorem dX6_explore_147 : decode cX6_explore 147 = .ok (.istore 9, 2) := by decide +kernel
theorem dX6_explore_149 : decode cX6_explore 149 = .ok (.iinc 8 1, 3) := by decide +kernel
theorem dX6_explore_152 : decode cX6_explore 152 = .ok (.goto (-81), 3) := by decide +kernel
theorem dX6_explore_155 : decode cX6_explore 155 = .ok (.iload 4, 2) := by decide +kernel
theorem dX6_explore_157 : decode cX6_explore 157 = .ok (.ifCond .eq 24, 3) := by decide +kernel
theorem dX6_explore_160 : decode cX6_explore 160 = .ok (.iload 8, 2) := by decide +kernel
theorem dX6_explore_162 : decode cX6_explore 162 = .ok (.iload_n 3, 1) := by decide +kernel
theorem dX6_explore_163 : decode cX6_explore 163 = .ok (.if_icmp .gt 18, 3) := by decide +kernel
theorem dX6_explore_166 : decode cX6_explore 166 = .ok (.iload 7, 2) := by decide +kernel
theorem dX6_explore_168 : decode cX6_explore 168 = .ok (.bipush 16, 2) := by decide +kernel
theorem dX6_explore_170 : decode cX6_explore 170 = .ok (.ishl, 1) := by decide +kernel
theorem dX6_explore_171 : decode cX6_explore 171 = .ok (.iload 6, 2) := by decide +kernel
theorem dX6_explore_173 : decode cX6_explore 173 = .ok (.ior, 1) := by decide +kernel
theorem dX6_explore_174 : decode cX6_explore 174 = .ok (.aload_n 0, 1) := by decide +kernel
theorem dX6_explore_175 : decode cX6_explore 175 = .ok (.getfield 30, 3) := by decide +kernel
theorem dX6_explore_178 : decode cX6_explore 178 = .ok (.if_icmp .lt 4, 3) := by decide +kernel
theorem dX6_explore_181 : decode cX6_explore 181 = .ok (.return_, 1) := by decide +kernel
theorem dX6_explore_182 : decode cX6_explore 182 = .ok (.iload_n 2, 1) := by decide +kernel
theorem dX6_explore_183 : decode cX6_explore 183 = .ok (.istore 9, 2) := by decide +kernel
theorem dX6_explore_185 : decode cX6_explore 185 = .ok (.iconst 0, 1) := by decide +kernel
theorem dX6_explore_186 : decode cX6_explore 186 = .ok (.istore 10, 2) := by decide +kernel
theorem dX6_explore_188 : decode cX6_explore 188 = .ok (.iload 10, 2) := by decide +kernel
theorem dX6_explore_190 : decode cX6_explore 190 = .ok (.bipush 16, 2) := by decide +kernel
theorem dX6_explore_192 : decode cX6_explore 192 = .ok (.if_icmp .ge 45, 3) := by decide +kernel
theorem dX6_explore_195 : decode cX6_explore 195 = .ok (.iload 4, 2) := by decide +kernel
theorem dX6_explore_197 : decode cX6_explore 197 = .ok (.iload 10, 2) := by decide +kernel
theorem dX6_explore_199 : decode cX6_explore 199 = .ok (.ishr, 1) := by decide +kernel
theorem dX6_explore_200 : decode cX6_explore 200 = .ok (.iconst 1, 1) := by decide +kernel
theorem dX6_explore_201 : decode cX6_explore 201 = .ok (.iand, 1) := by decide +kernel
theorem dX6_explore_202 : decode cX6_explore 202 = .ok (.ifCond .eq 29, 3) := by decide +kernel
theorem dX6_explore_205 : decode cX6_explore 205 = .ok (.iload 9, 2) := by decide +kernel
theorem dX6_explore_207 : decode cX6_explore 207 = .ok (.iconst 1, 1) := by decide +kernel
theorem dX6_explore_208 : decode cX6_explore 208 = .ok (.iload 10, 2) := by decide +kernel
theorem dX6_explore_210 : decode cX6_explore 210 = .ok (.ishl, 1) := by decide +kernel
theorem dX6_explore_211 : decode cX6_explore 211 = .ok (.iconst (-1), 1) := by decide +kernel
theorem dX6_explore_212 : decode cX6_explore 212 = .ok (.ixor, 1) := by decide +kernel
theorem dX6_explore_213 : decode cX6_explore 213 = .ok (.iand, 1) := by decide +kernel
theorem dX6_explore_214 : decode cX6_explore 214 = .ok (.istore 9, 2) := by decide +kernel
theorem dX6_explore_216 : decode cX6_explore 216 = .ok (.aload_n 0, 1) := by decide +kernel
theorem dX6_explore_217 : decode cX6_explore 217 = .ok (.iload_n 1, 1) := by decide +kernel
theorem dX6_explore_218 : decode cX6_explore 218 = .ok (.iconst 1, 1) := by decide +kernel
theorem dX6_explore_219 : decode cX6_explore 219 = .ok (.iload 10, 2) := by decide +kernel
theorem dX6_explore_221 : decode cX6_explore 221 = .ok (.ishl, 1) := by decide +kernel
theorem dX6_explore_222 : decode cX6_explore 222 = .ok (.ior, 1) := by decide +kernel
theorem dX6_explore_223 : decode cX6_explore 223 = .ok (.iload 9, 2) := by decide +kernel
theorem dX6_explore_225 : decode cX6_explore 225 = .ok (.iload_n 3, 1) := by decide +kernel
theorem dX6_explore_226 : decode cX6_explore 226 = .ok (.iconst 1, 1) := by decide +kernel
theorem dX6_explore_227 : decode cX6_explore 227 = .ok (.isub, 1) := by decide +kernel
theorem dX6_explore_228 : decode cX6_explore 228 = .ok (.invokevirtual 37, 3) := by decide +kernel
theorem dX6_explore_231 : decode cX6_explore 231 = .ok (.iinc 10 1, 3) := by decide +kernel
theorem dX6_explore_234 : decode cX6_explore 234 = .ok (.goto (-46), 3) := by decide +kernel
theorem dX6_explore_237 : decode cX6_explore 237 = .ok (.return_, 1) := by decide +kernel
theorem dX6_cutOf_0 : decode cX6_cutOf 0 = .ok (.iload_n 1, 1) := by decide +kernel
theorem dX6_cutOf_1 : decode cX6_cutOf 1 = .ok (.istore_n 3, 1) := by decide +kernel
theorem dX6_cutOf_2 : decode cX6_cutOf 2 = .ok (.iconst 0, 1) := by decide +kernel
theorem dX6_cutOf_3 : decode cX6_cutOf 3 = .ok (.istore 4, 2) := by decide +kernel
theorem dX6_cutOf_5 : decode cX6_cutOf 5 = .ok (.iload 4, 2) := by decide +kernel
theorem dX6_cutOf_7 : decode cX6_cutOf 7 = .ok (.bipush 16, 2) := by decide +kernel
theorem dX6_cutOf_9 : decode cX6_cutOf 9 = .ok (.if_icmp .ge 38, 3) := by decide +kernel
theorem dX6_cutOf_12 : decode cX6_cutOf 12 = .ok (.iload_n 2, 1) := by decide +kernel
theorem dX6_cutOf_13 : decode cX6_cutOf 13 = .ok (.iload 4, 2) := by decide +kernel
theorem dX6_cutOf_15 : decode cX6_cutOf 15 = .ok (.ishr, 1) := by decide +kernel
theorem dX6_cutOf_16 : decode cX6_cutOf 16 = .ok (.iconst 1, 1) := by decide +kernel
theorem dX6_cutOf_17 : decode cX6_cutOf 17 = .ok (.iand, 1) := by decide +kernel
theorem dX6_cutOf_18 : decode cX6_cutOf 18 = .ok (.ifCond .eq 23, 3) := by decide +kernel
theorem dX6_cutOf_21 : decode cX6_cutOf 21 = .ok (.aload_n 0, 1) := by decide +kernel
theorem dX6_cutOf_22 : decode cX6_cutOf 22 = .ok (.iload_n 3, 1) := by decide +kernel
theorem dX6_cutOf_23 : decode cX6_cutOf 23 = .ok (.iconst 1, 1) := by decide +kernel
theorem dX6_cutOf_24 : decode cX6_cutOf 24 = .ok (.iload 4, 2) := by decide +kernel
theorem dX6_cutOf_26 : decode cX6_cutOf 26 = .ok (.ishl, 1) := by decide +kernel
theorem dX6_cutOf_27 : decode cX6_cutOf 27 = .ok (.ior, 1) := by decide +kernel
theorem dX6_cutOf_28 : decode cX6_cutOf 28 = .ok (.invokevirtual 33, 3) := by decide +kernel
theorem dX6_cutOf_31 : decode cX6_cutOf 31 = .ok (.ifCond .ne 10, 3) := by decide +kernel
theorem dX6_cutOf_34 : decode cX6_cutOf 34 = .ok (.iload_n 3, 1) := by decide +kernel
theorem dX6_cutOf_35 : decode cX6_cutOf 35 = .ok (.iconst 1, 1) := by decide +kernel
theorem dX6_cutOf_36 : decode cX6_cutOf 36 = .ok (.iload 4, 2) := by decide +kernel
theorem dX6_cutOf_38 : decode cX6_cutOf 38 = .ok (.ishl, 1) := by decide +kernel
theorem dX6_cutOf_39 : decode cX6_cutOf 39 = .ok (.ior, 1) := by decide +kernel
theorem dX6_cutOf_40 : decode cX6_cutOf 40 = .ok (.istore_n 3, 1) := by decide +kernel
theorem dX6_cutOf_41 : decode cX6_cutOf 41 = .ok (.iinc 4 1, 3) := by decide +kernel
theorem dX6_cutOf_44 : decode cX6_cutOf 44 = .ok (.goto (-39), 3) := by decide +kernel
theorem dX6_cutOf_47 : decode cX6_cutOf 47 = .ok (.iload_n 2, 1) := by decide +kernel
theorem dX6_cutOf_48 : decode cX6_cutOf 48 = .ok (.iload_n 3, 1) := by decide +kernel
theorem dX6_cutOf_49 : decode cX6_cutOf 49 = .ok (.iconst (-1), 1) := by decide +kernel
theorem dX6_cutOf_50 : decode cX6_cutOf 50 = .ok (.ixor, 1) := by decide +kernel
theorem dX6_cutOf_51 : decode cX6_cutOf 51 = .ok (.iand, 1) := by decide +kernel
theorem dX6_cutOf_52 : decode cX6_cutOf 52 = .ok (.ireturn, 1) := by decide +kernel
theorem dX6_enough_0 : decode cX6_enough 0 = .ok (.aload_n 0, 1) := by decide +kernel
theorem dX6_enough_1 : decode cX6_enough 1 = .ok (.getfield 19, 3) := by decide +kernel
theorem dX6_enough_4 : decode cX6_enough 4 = .ok (.tableswitch 116 0 2 #[28, 71, 90], 28) := by decide +kernel
theorem dX6_enough_32 : decode cX6_enough 32 = .ok (.iconst 0, 1) := by decide +kernel
theorem dX6_enough_33 : decode cX6_enough 33 = .ok (.istore_n 2, 1) := by decide +kernel
theorem dX6_enough_34 : decode cX6_enough 34 = .ok (.iload_n 2, 1) := by decide +kernel
theorem dX6_enough_35 : decode cX6_enough 35 = .ok (.aload_n 0, 1) := by decide +kernel
theorem dX6_enough_36 : decode cX6_enough 36 = .ok (.getfield 9, 3) := by decide +kernel
theorem dX6_enough_39 : decode cX6_enough 39 = .ok (.getfield 57, 3) := by decide +kernel
theorem dX6_enough_42 : decode cX6_enough 42 = .ok (.if_icmp .ge 31, 3) := by decide +kernel
theorem dX6_enough_45 : decode cX6_enough 45 = .ok (.aload_n 0, 1) := by decide +kernel
theorem dX6_enough_46 : decode cX6_enough 46 = .ok (.getfield 15, 3) := by decide +kernel
theorem dX6_enough_49 : decode cX6_enough 49 = .ok (.iload_n 1, 1) := by decide +kernel
theorem dX6_enough_50 : decode cX6_enough 50 = .ok (.aload_n 0, 1) := by decide +kernel
theorem dX6_enough_51 : decode cX6_enough 51 = .ok (.getfield 9, 3) := by decide +kernel
theorem dX6_enough_54 : decode cX6_enough 54 = .ok (.getfield 62, 3) := by decide +kernel
theorem dX6_enough_57 : decode cX6_enough 57 = .ok (.iload_n 2, 1) := by decide +kernel
theorem dX6_enough_58 : decode cX6_enough 58 = .ok (.iaload, 1) := by decide +kernel
theorem dX6_enough_59 : decode cX6_enough 59 = .ok (.invokevirtual 66, 3) := by decide +kernel
theorem dX6_enough_62 : decode cX6_enough 62 = .ok (.ifCond .ne 5, 3) := by decide +kernel
theorem dX6_enough_65 : decode cX6_enough 65 = .ok (.iconst 0, 1) := by decide +kernel
theorem dX6_enough_66 : decode cX6_enough 66 = .ok (.ireturn, 1) := by decide +kernel
theorem dX6_enough_67 : decode cX6_enough 67 = .ok (.iinc 2 1, 3) := by decide +kernel
theorem dX6_enough_70 : decode cX6_enough 70 = .ok (.goto (-36), 3) := by decide +kernel
theorem dX6_enough_73 : decode cX6_enough 73 = .ok (.iconst 1, 1) := by decide +kernel
theorem dX6_enough_74 : decode cX6_enough 74 = .ok (.ireturn, 1) := by decide +kernel
theorem dX6_enough_75 : decode cX6_enough 75 = .ok (.aload_n 0, 1) := by decide +kernel
theorem dX6_enough_76 : decode cX6_enough 76 = .ok (.getfield 15, 3) := by decide +kernel
theorem dX6_enough_79 : decode cX6_enough 79 = .ok (.aload_n 0, 1) := by decide +kernel
theorem dX6_enough_80 : decode cX6_enough 80 = .ok (.getfield 9, 3) := by decide +kernel
theorem dX6_enough_83 : decode cX6_enough 83 = .ok (.invokevirtual 72, 3) := by decide +kernel
theorem dX6_enough_86 : decode cX6_enough 86 = .ok (.iload_n 1, 1) := by decide +kernel
theorem dX6_enough_87 : decode cX6_enough 87 = .ok (.iconst (-1), 1) := by decide +kernel
theorem dX6_enough_88 : decode cX6_enough 88 = .ok (.ixor, 1) := by decide +kernel
theorem dX6_enough_89 : decode cX6_enough 89 = .ok (.iand, 1) := by decide +kernel
theorem dX6_enough_90 : decode cX6_enough 90 = .ok (.invokevirtual 76, 3) := by decide +kernel
theorem dX6_enough_93 : decode cX6_enough 93 = .ok (.ireturn, 1) := by decide +kernel
theorem dX6_enough_94 : decode cX6_enough 94 = .ok (.aload_n 0, 1) := by decide +kernel
theorem dX6_enough_95 : decode cX6_enough 95 = .ok (.getfield 15, 3) := by decide +kernel
theorem dX6_enough_98 : decode cX6_enough 98 = .ok (.aload_n 0, 1) := by decide +kernel
theorem dX6_enough_99 : decode cX6_enough 99 = .ok (.getfield 9, 3) := by decide +kernel
theorem dX6_enough_102 : decode cX6_enough 102 = .ok (.invokevirtual 72, 3) := by decide +kernel
theorem dX6_enough_105 : decode cX6_enough 105 = .ok (.aload_n 0, 1) := by decide +kernel
theorem dX6_enough_106 : decode cX6_enough 106 = .ok (.getfield 9, 3) := by decide +kernel
theorem dX6_enough_109 : decode cX6_enough 109 = .ok (.iload_n 1, 1) := by decide +kernel
theorem dX6_enough_110 : decode cX6_enough 110 = .ok (.invokevirtual 79, 3) := by decide +kernel
theorem dX6_enough_113 : decode cX6_enough 113 = .ok (.iconst (-1), 1) := by decide +kernel
theorem dX6_enough_114 : decode cX6_enough 114 = .ok (.ixor, 1) := by decide +kernel
theorem dX6_enough_115 : decode cX6_enough 115 = .ok (.iand, 1) := by decide +kernel
theorem dX6_enough_116 : decode cX6_enough 116 = .ok (.invokevirtual 76, 3) := by decide +kernel
theorem dX6_enough_119 : decode cX6_enough 119 = .ok (.ireturn, 1) := by decide +kernel
theorem dX6_enough_120 : decode cX6_enough 120 = .ok (.aload_n 0, 1) := by decide +kernel
theorem dX6_enough_121 : decode cX6_enough 121 = .ok (.getfield 15, 3) := by decide +kernel
theorem dX6_enough_124 : decode cX6_enough 124 = .ok (.aload_n 0, 1) := by decide +kernel
theorem dX6_enough_125 : decode cX6_enough 125 = .ok (.getfield 9, 3) := by decide +kernel
theorem dX6_enough_128 : decode cX6_enough 128 = .ok (.iload_n 1, 1) := by decide +kernel
theorem dX6_enough_129 : decode cX6_enough 129 = .ok (.invokevirtual 79, 3) := by decide +kernel
theorem dX6_enough_132 : decode cX6_enough 132 = .ok (.aload_n 0, 1) := by decide +kernel
theorem dX6_enough_133 : decode cX6_enough 133 = .ok (.getfield 23, 3) := by decide +kernel
theorem dX6_enough_136 : decode cX6_enough 136 = .ok (.invokevirtual 66, 3) := by decide +kernel
theorem dX6_enough_139 : decode cX6_enough 139 = .ok (.ireturn, 1) := by decide +kernel
theorem dX7_init_0 : decode cX7_init 0 = .ok (.aload_n 0, 1) := by decide +kernel
theorem dX7_init_1 : decode cX7_init 1 = .ok (.invokespecial 3, 3) := by decide +kernel
theorem dX7_init_4 : decode cX7_init 4 = .ok (.aload_n 0, 1) := by decide +kernel
theorem dX7_init_5 : decode cX7_init 5 = .ok (.bipush 64, 2) := by decide +kernel
theorem dX7_init_7 : decode cX7_init 7 = .ok (.newarray .long, 2) := by decide +kernel
theorem dX7_init_9 : decode cX7_init 9 = .ok (.putfield 11, 3) := by decide +kernel
theorem dX7_init_12 : decode cX7_init 12 = .ok (.aload_n 0, 1) := by decide +kernel
theorem dX7_init_13 : decode cX7_init 13 = .ok (.iconst (-1), 1) := by decide +kernel
theorem dX7_init_14 : decode cX7_init 14 = .ok (.putfield 15, 3) := by decide +kernel
theorem dX7_init_17 : decode cX7_init 17 = .ok (.aload_n 0, 1) := by decide +kernel
theorem dX7_init_18 : decode cX7_init 18 = .ok (.iconst (-1), 1) := by decide +kernel
theorem dX7_init_19 : decode cX7_init 19 = .ok (.putfield 19, 3) := by decide +kernel
theorem dX7_init_22 : decode cX7_init 22 = .ok (.aload_n 0, 1) := by decide +kernel
theorem dX7_init_23 : decode cX7_init 23 = .ok (.aload_n 1, 1) := by decide +kernel
theorem dX7_init_24 : decode cX7_init 24 = .ok (.putfield 22, 3) := by decide +kernel
theorem dX7_init_27 : decode cX7_init 27 = .ok (.return_, 1) := by decide +kernel
theorem dX7_settle_0 : decode cX7_settle 0 = .ok (.aload_n 0, 1) := by decide +kernel
theorem dX7_settle_1 : decode cX7_settle 1 = .ok (.getfield 15, 3) := by decide +kernel
theorem dX7_settle_4 : decode cX7_settle 4 = .ok (.iload_n 1, 1) := by decide +kernel
theorem dX7_settle_5 : decode cX7_settle 5 = .ok (.if_icmp .ne 12, 3) := by decide +kernel
theorem dX7_settle_8 : decode cX7_settle 8 = .ok (.aload_n 0, 1) := by decide +kernel
theorem dX7_settle_9 : decode cX7_settle 9 = .ok (.getfield 19, 3) := by decide +kernel
theorem dX7_settle_12 : decode cX7_settle 12 = .ok (.iload_n 2, 1) := by decide +kernel
theorem dX7_settle_13 : decode cX7_settle 13 = .ok (.if_icmp .ne 4, 3) := by decide +kernel
theorem dX7_settle_16 : decode cX7_settle 16 = .ok (.return_, 1) := by decide +kernel
theorem dX7_settle_17 : decode cX7_settle 17 = .ok (.aload_n 0, 1) := by decide +kernel
theorem dX7_settle_18 : decode cX7_settle 18 = .ok (.iload_n 1, 1) := by decide +kernel
theorem dX7_settle_19 : decode cX7_settle 19 = .ok (.putfield 15, 3) := by decide +kernel
theorem dX7_settle_22 : decode cX7_settle 22 = .ok (.aload_n 0, 1) := by decide +kernel
theorem dX7_settle_23 : decode cX7_settle 23 = .ok (.iload_n 2, 1) := by decide +kernel
theorem dX7_settle_24 : decode cX7_settle 24 = .ok (.putfield 19, 3) := by decide +kernel
theorem dX7_settle_27 : decode cX7_settle 27 = .ok (.iconst 0, 1) := by decide +kernel
theorem dX7_settle_28 : decode cX7_settle 28 = .ok (.istore_n 3, 1) := by decide +kernel
theorem dX7_settle_29 : decode cX7_settle 29 = .ok (.iload_n 3, 1) := by decide +kernel
theorem dX7_settle_30 : decode cX7_settle 30 = .ok (.bipush 64, 2) := by decide +kernel
theorem dX7_settle_32 : decode cX7_settle 32 = .ok (.if_icmp .ge 18, 3) := by decide +kernel
theorem dX7_settle_35 : decode cX7_settle 35 = .ok (.aload_n 0, 1) := by decide +kernel
theorem dX7_settle_36 : decode cX7_settle 36 = .ok (.getfield 11, 3) := by decide +kernel
theorem dX7_settle_39 : decode cX7_settle 39 = .ok (.iload_n 3, 1) := by decide +kernel
theorem dX7_settle_40 : decode cX7_settle 40 = .ok (.ldc2_w 26, 3) := by decide +kernel
theorem dX7_settle_43 : decode cX7_settle 43 = .ok (.lastore, 1) := by decide +kernel
theorem dX7_settle_44 : decode cX7_settle 44 = .ok (.iinc 3 1, 3) := by decide +kernel
theorem dX7_settle_47 : decode cX7_settle 47 = .ok (.goto (-18), 3) := by decide +kernel
theorem dX7_settle_50 : decode cX7_settle 50 = .ok (.iconst 0, 1) := by decide +kernel
theorem dX7_settle_51 : decode cX7_settle 51 = .ok (.istore_n 3, 1) := by decide +kernel
theorem dX7_settle_52 : decode cX7_settle 52 = .ok (.iload_n 3, 1) := by decide +kernel
theorem dX7_settle_53 : decode cX7_settle 53 = .ok (.aload_n 0, 1) := by decide +kernel
theorem dX7_settle_54 : decode cX7_settle 54 = .ok (.getfield 22, 3) := by decide +kernel
theorem dX7_settle_57 : decode cX7_settle 57 = .ok (.getfield 28, 3) := by decide +kernel
theorem dX7_settle_60 : decode cX7_settle 60 = .ok (.if_icmp .ge 30, 3) := by decide +kernel
theorem dX7_settle_63 : decode cX7_settle 63 = .ok (.iload_n 1, 1) := by decide +kernel
theorem dX7_settle_64 : decode cX7_settle 64 = .ok (.iload_n 3, 1) := by decide +kernel
theorem dX7_settle_65 : decode cX7_settle 65 = .ok (.ishr, 1) := by decide +kernel
theorem dX7_settle_66 : decode cX7_settle 66 = .ok (.iconst 1, 1) := by decide +kernel
theorem dX7_settle_67 : decode cX7_settle 67 = .ok (.iand, 1) := by decide +kernel
theorem dX7_settle_68 : decode cX7_settle 68 = .ok (.ifCond .eq 16, 3) := by decide +kernel
theorem dX7_settle_71 : decode cX7_settle 71 = .ok (.aload_n 0, 1) := by decide +kernel
theorem dX7_settle_72 : decode cX7_settle 72 = .ok (.aload_n 0, 1) := by decide +kernel
theorem dX7_settle_73 : decode cX7_settle 73 = .ok (.getfield 22, 3) := by decide +kernel
theorem dX7_settle_76 : decode cX7_settle 76 = .ok (.getfield 33, 3) := by decide +kernel
theorem dX7_settle_79 : decode cX7_settle 79 = .ok (.iload_n 3, 1) := by decide +kernel
theorem dX7_settle_80 : decode cX7_settle 80 = .ok (.iaload, 1) := by decide +kernel
theorem dX7_settle_81 : decode cX7_settle 81 = .ok (.invokevirtual 37, 3) := by decide +kernel
theorem dX7_settle_84 : decode cX7_settle 84 = .ok (.iinc 3 1, 3) := by decide +kernel
theorem dX7_settle_87 : decode cX7_settle 87 = .ok (.goto (-35), 3) := by decide +kernel
theorem dX7_settle_90 : decode cX7_settle 90 = .ok (.iload_n 2, 1) := by decide +kernel
theorem dX7_settle_91 : decode cX7_settle 91 = .ok (.iconst (-1), 1) := by decide +kernel
theorem dX7_settle_92 : decode cX7_settle 92 = .ok (.if_icmp .eq 8, 3) := by decide +kernel
theorem dX7_settle_95 : decode cX7_settle 95 = .ok (.aload_n 0, 1) := by decide +kernel
theorem dX7_settle_96 : decode cX7_settle 96 = .ok (.iload_n 2, 1) := by decide +kernel
theorem dX7_settle_97 : decode cX7_settle 97 = .ok (.invokevirtual 37, 3) := by decide +kernel
theorem dX7_settle_100 : decode cX7_settle 100 = .ok (.aload_n 0, 1) := by decide +kernel
theorem dX7_settle_101 : decode cX7_settle 101 = .ok (.iconst 0, 1) := by decide +kernel
theorem dX7_settle_102 : decode cX7_settle 102 = .ok (.putfield 41, 3) := by decide +kernel
theorem dX7_settle_105 : decode cX7_settle 105 = .ok (.iconst 0, 1) := by decide +kernel
theorem dX7_settle_106 : decode cX7_settle 106 = .ok (.istore_n 3, 1) := by decide +kernel
theorem dX7_settle_107 : decode cX7_settle 107 = .ok (.iload_n 3, 1) := by decide +kernel
theorem dX7_settle_108 : decode cX7_settle 108 = .ok (.bipush 64, 2) := by decide +kernel
theorem dX7_settle_110 : decode cX7_settle 110 = .ok (.if_icmp .ge 27, 3) := by decide +kernel
theorem dX7_settle_113 : decode cX7_settle 113 = .ok (.aload_n 0, 1) := by decide +kernel
theorem dX7_settle_114 : decode cX7_settle 114 = .ok (.dup, 1) := by decide +kernel
theorem dX7_settle_115 : decode cX7_settle 115 = .ok (.getfield 41, 3) := by decide +kernel
theorem dX7_settle_118 : decode cX7_settle 118 = .ok (.aload_n 0, 1) := by decide +kernel
theorem dX7_settle_119 : decode cX7_settle 119 = .ok (.getfield 11, 3) := by decide +kernel
theorem dX7_settle_122 : decode cX7_settle 122 = .ok (.iload_n 3, 1) := by decide +kernel
theorem dX7_settle_123 : decode cX7_settle 123 = .ok (.laload, 1) := by decide +kernel
theorem dX7_settle_124 : decode cX7_settle 124 = .ok (.invokestatic 44, 3) := by decide +kernel
theorem dX7_settle_127 : decode cX7_settle 127 = .ok (.iadd, 1) := by decide +kernel
theorem dX7_settle_128 : decode cX7_settle 128 = .ok (.putfield 41, 3) := by decide +kernel
theorem dX7_settle_131 : decode cX7_settle 131 = .ok (.iinc 3 1, 3) := by decide +kernel
theorem dX7_settle_134 : decode cX7_settle 134 = .ok (.goto (-27), 3) := by decide +kernel
theorem dX7_settle_137 : decode cX7_settle 137 = .ok (.return_, 1) := by decide +kernel
theorem dX7_exclude_0 : decode cX7_exclude 0 = .ok (.iload_n 1, 1) := by decide +kernel
theorem dX7_exclude_1 : decode cX7_exclude 1 = .ok (.invokestatic 50, 3) := by decide +kernel
theorem dX7_exclude_4 : decode cX7_exclude 4 = .ok (.ifCond .ne 4, 3) := by decide +kernel
theorem dX7_exclude_7 : decode cX7_exclude 7 = .ok (.return_, 1) := by decide +kernel
theorem dX7_exclude_8 : decode cX7_exclude 8 = .ok (.iload_n 1, 1) := by decide +kernel
theorem dX7_exclude_9 : decode cX7_exclude 9 = .ok (.invokestatic 56, 3) := by decide +kernel
theorem dX7_exclude_12 : decode cX7_exclude 12 = .ok (.istore_n 2, 1) := by decide +kernel
theorem dX7_exclude_13 : decode cX7_exclude 13 = .ok (.iload_n 1, 1) := by decide +kernel
theorem dX7_exclude_14 : decode cX7_exclude 14 = .ok (.invokestatic 60, 3) := by decide +kernel
theorem dX7_exclude_17 : decode cX7_exclude 17 = .ok (.iconst 1, 1) := by decide +kernel
theorem dX7_exclude_18 : decode cX7_exclude 18 = .ok (.ixor, 1) := by decide +kernel
theorem dX7_exclude_19 : decode cX7_exclude 19 = .ok (.istore_n 3, 1) := by decide +kernel
theorem dX7_exclude_20 : decode cX7_exclude 20 = .ok (.iconst 0, 1) := by decide +kernel
theorem dX7_exclude_21 : decode cX7_exclude 21 = .ok (.istore 4, 2) := by decide +kernel
theorem dX7_exclude_23 : decode cX7_exclude 23 = .ok (.iload 4, 2) := by decide +kernel
theorem dX7_exclude_25 : decode cX7_exclude 25 = .ok (.bipush 64, 2) := by decide +kernel
theorem dX7_exclude_27 : decode cX7_exclude 27 = .ok (.if_icmp .ge 36, 3) := by decide +kernel
theorem dX7_exclude_30 : decode cX7_exclude 30 = .ok (.aload_n 0, 1) := by decide +kernel
theorem dX7_exclude_31 : decode cX7_exclude 31 = .ok (.getfield 11, 3) := by decide +kernel
theorem dX7_exclude_34 : decode cX7_exclude 34 = .ok (.iload 4, 2) := by decide +kernel
theorem dX7_exclude_36 : decode cX7_exclude 36 = .ok (.dup2, 1) := by decide +kernel
theorem dX7_exclude_37 : decode cX7_exclude 37 = .ok (.laload, 1) := by decide +kernel
theorem dX7_exclude_38 : decode cX7_exclude 38 = .ok (.iload_n 2, 1) := by decide +kernel
theorem dX7_exclude_39 : decode cX7_exclude 39 = .ok (.iload 4, 2) := by decide +kernel
theorem dX7_exclude_41 : decode cX7_exclude 41 = .ok (.invokestatic 63, 3) := by decide +kernel
theorem dX7_exclude_44 : decode cX7_exclude 44 = .ok (.iload_n 3, 1) := by decide +kernel
theorem dX7_exclude_45 : decode cX7_exclude 45 = .ok (.iload 4, 2) := by decide +kernel
theorem dX7_exclude_47 : decode cX7_exclude 47 = .ok (.invokestatic 63, 3) := by decide +kernel
theorem dX7_exclude_50 : decode cX7_exclude 50 = .ok (.land, 1) := by decide +kernel
theorem dX7_exclude_51 : decode cX7_exclude 51 = .ok (.ldc2_w 26, 3) := by decide +kernel
theorem dX7_exclude_54 : decode cX7_exclude 54 = .ok (.lxor, 1) := by decide +kernel
theorem dX7_exclude_55 : decode cX7_exclude 55 = .ok (.land, 1) := by decide +kernel
theorem dX7_exclude_56 : decode cX7_exclude 56 = .ok (.lastore, 1) := by decide +kernel
theorem dX7_exclude_57 : decode cX7_exclude 57 = .ok (.iinc 4 1, 3) := by decide +kernel
theorem dX7_exclude_60 : decode cX7_exclude 60 = .ok (.goto (-37), 3) := by decide +kernel
theorem dX7_exclude_63 : decode cX7_exclude 63 = .ok (.return_, 1) := by decide +kernel
theorem dX7_members_0 : decode cX7_members 0 = .ok (.iload_n 0, 1) := by decide +kernel
theorem dX7_members_1 : decode cX7_members 1 = .ok (.iconst 1, 1) := by decide +kernel
theorem dX7_members_2 : decode cX7_members 2 = .ok (.ishr, 1) := by decide +kernel
theorem dX7_members_3 : decode cX7_members 3 = .ok (.istore_n 2, 1) := by decide +kernel
theorem dX7_members_4 : decode cX7_members 4 = .ok (.iload_n 2, 1) := by decide +kernel
theorem dX7_members_5 : decode cX7_members 5 = .ok (.bipush 6, 2) := by decide +kernel
theorem dX7_members_7 : decode cX7_members 7 = .ok (.if_icmp .ge 11, 3) := by decide +kernel
theorem dX7_members_10 : decode cX7_members 10 = .ok (.getstatic 67, 3) := by decide +kernel
theorem dX7_members_13 : decode cX7_members 13 = .ok (.iload_n 2, 1) := by decide +kernel
theorem dX7_members_14 : decode cX7_members 14 = .ok (.laload, 1) := by decide +kernel
theorem dX7_members_15 : decode cX7_members 15 = .ok (.goto 13, 3) := by decide +kernel
theorem dX7_members_18 : decode cX7_members 18 = .ok (.iload_n 1, 1) := by decide +kernel
theorem dX7_members_19 : decode cX7_members 19 = .ok (.iload_n 2, 1) := by decide +kernel
theorem dX7_members_20 : decode cX7_members 20 = .ok (.bipush 6, 2) := by decide +kernel
theorem dX7_members_22 : decode cX7_members 22 = .ok (.isub, 1) := by decide +kernel
theorem dX7_members_23 : decode cX7_members 23 = .ok (.ishr, 1) := by decide +kernel
theorem dX7_members_24 : decode cX7_members 24 = .ok (.iconst 1, 1) := by decide +kernel
theorem dX7_members_25 : decode cX7_members 25 = .ok (.iand, 1) := by decide +kernel
theorem dX7_members_26 : decode cX7_members 26 = .ok (.i2l, 1) := by decide +kernel
theorem dX7_members_27 : decode cX7_members 27 = .ok (.lneg, 1) := by decide +kernel
theorem dX7_members_28 : decode cX7_members 28 = .ok (.lstore_n 3, 1) := by decide +kernel
theorem dX7_members_29 : decode cX7_members 29 = .ok (.iload_n 0, 1) := by decide +kernel
theorem dX7_members_30 : decode cX7_members 30 = .ok (.iconst 1, 1) := by decide +kernel
theorem dX7_members_31 : decode cX7_members 31 = .ok (.iand, 1) := by decide +kernel
theorem dX7_members_32 : decode cX7_members 32 = .ok (.ifCond .ne 7, 3) := by decide +kernel
theorem dX7_members_35 : decode cX7_members 35 = .ok (.lload_n 3, 1) := by decide +kernel
theorem dX7_members_36 : decode cX7_members 36 = .ok (.goto 8, 3) := by decide +kernel
theorem dX7_members_39 : decode cX7_members 39 = .ok (.lload_n 3, 1) := by decide +kernel
theorem dX7_members_40 : decode cX7_members 40 = .ok (.ldc2_w 26, 3) := by decide +kernel
theorem dX7_members_43 : decode cX7_members 43 = .ok (.lxor, 1) := by decide +kernel
theorem dX7_members_44 : decode cX7_members 44 = .ok (.lreturn, 1) := by decide +kernel
theorem dX7_has_0 : decode cX7_has 0 = .ok (.aload_n 0, 1) := by decide +kernel
theorem dX7_has_1 : decode cX7_has 1 = .ok (.getfield 11, 3) := by decide +kernel
theorem dX7_has_4 : decode cX7_has 4 = .ok (.iload_n 1, 1) := by decide +kernel
theorem dX7_has_5 : decode cX7_has 5 = .ok (.bipush 6, 2) := by decide +kernel
theorem dX7_has_7 : decode cX7_has 7 = .ok (.ishr, 1) := by decide +kernel
theorem dX7_has_8 : decode cX7_has 8 = .ok (.laload, 1) := by decide +kernel
theorem dX7_has_9 : decode cX7_has 9 = .ok (.iload_n 1, 1) := by decide +kernel
theorem dX7_has_10 : decode cX7_has 10 = .ok (.bipush 63, 2) := by decide +kernel
theorem dX7_has_12 : decode cX7_has 12 = .ok (.iand, 1) := by decide +kernel
theorem dX7_has_13 : decode cX7_has 13 = .ok (.lushr, 1) := by decide +kernel
theorem dX7_has_14 : decode cX7_has 14 = .ok (.lconst 1, 1) := by decide +kernel
theorem dX7_has_15 : decode cX7_has 15 = .ok (.land, 1) := by decide +kernel
theorem dX7_has_16 : decode cX7_has 16 = .ok (.lconst 0, 1) := by decide +kernel
theorem dX7_has_17 : decode cX7_has 17 = .ok (.lcmp, 1) := by decide +kernel
theorem dX7_has_18 : decode cX7_has 18 = .ok (.ifCond .eq 7, 3) := by decide +kernel
theorem dX7_has_21 : decode cX7_has 21 = .ok (.iconst 1, 1) := by decide +kernel
theorem dX7_has_22 : decode cX7_has 22 = .ok (.goto 4, 3) := by decide +kernel
theorem dX7_has_25 : decode cX7_has 25 = .ok (.iconst 0, 1) := by decide +kernel
theorem dX7_has_26 : decode cX7_has 26 = .ok (.ireturn, 1) := by decide +kernel
theorem dX7_ofBoth_0 : decode cX7_ofBoth 0 = .ok (.iconst 0, 1) := by decide +kernel
theorem dX7_ofBoth_1 : decode cX7_ofBoth 1 = .ok (.istore_n 3, 1) := by decide +kernel
theorem dX7_ofBoth_2 : decode cX7_ofBoth 2 = .ok (.iconst 0, 1) := by decide +kernel
theorem dX7_ofBoth_3 : decode cX7_ofBoth 3 = .ok (.istore 4, 2) := by decide +kernel
theorem dX7_ofBoth_5 : decode cX7_ofBoth 5 = .ok (.iload 4, 2) := by decide +kernel
theorem dX7_ofBoth_7 : decode cX7_ofBoth 7 = .ok (.bipush 64, 2) := by decide +kernel
theorem dX7_ofBoth_9 : decode cX7_ofBoth 9 = .ok (.if_icmp .ge 36, 3) := by decide +kernel
theorem dX7_ofBoth_12 : decode cX7_ofBoth 12 = .ok (.iload_n 3, 1) := by decide +kernel
theorem dX7_ofBoth_13 : decode cX7_ofBoth 13 = .ok (.aload_n 0, 1) := by decide +kernel
theorem dX7_ofBoth_14 : decode cX7_ofBoth 14 = .ok (.getfield 11, 3) := by decide +kernel
theorem dX7_ofBoth_17 : decode cX7_ofBoth 17 = .ok (.iload 4, 2) := by decide +kernel
theorem dX7_ofBoth_19 : decode cX7_ofBoth 19 = .ok (.laload, 1) := by decide +kernel
theorem dX7_ofBoth_20 : decode cX7_ofBoth 20 = .ok (.iload_n 1, 1) := by decide +kernel
theorem dX7_ofBoth_21 : decode cX7_ofBoth 21 = .ok (.iload 4, 2) := by decide +kernel
theorem dX7_ofBoth_23 : decode cX7_ofBoth 23 = .ok (.invokestatic 63, 3) := by decide +kernel
theorem dX7_ofBoth_26 : decode cX7_ofBoth 26 = .ok (.land, 1) := by decide +kernel
theorem dX7_ofBoth_27 : decode cX7_ofBoth 27 = .ok (.iload_n 2, 1) := by decide +kernel
theorem dX7_ofBoth_28 : decode cX7_ofBoth 28 = .ok (.iload 4, 2) := by decide +kernel
theorem dX7_ofBoth_30 : decode cX7_ofBoth 30 = .ok (.invokestatic 63, 3) := by decide +kernel
theorem dX7_ofBoth_33 : decode cX7_ofBoth 33 = .ok (.land, 1) := by decide +kernel
theorem dX7_ofBoth_34 : decode cX7_ofBoth 34 = .ok (.invokestatic 44, 3) := by decide +kernel
theorem dX7_ofBoth_37 : decode cX7_ofBoth 37 = .ok (.iadd, 1) := by decide +kernel
theorem dX7_ofBoth_38 : decode cX7_ofBoth 38 = .ok (.istore_n 3, 1) := by decide +kernel
theorem dX7_ofBoth_39 : decode cX7_ofBoth 39 = .ok (.iinc 4 1, 3) := by decide +kernel
theorem dX7_ofBoth_42 : decode cX7_ofBoth 42 = .ok (.goto (-37), 3) := by decide +kernel
theorem dX7_ofBoth_45 : decode cX7_ofBoth 45 = .ok (.iload_n 3, 1) := by decide +kernel
theorem dX7_ofBoth_46 : decode cX7_ofBoth 46 = .ok (.ireturn, 1) := by decide +kernel
theorem dX7_numbered_0 : decode cX7_numbered 0 = .ok (.iconst 0, 1) := by decide +kernel
theorem dX7_numbered_1 : decode cX7_numbered 1 = .ok (.istore_n 2, 1) := by decide +kernel
theorem dX7_numbered_2 : decode cX7_numbered 2 = .ok (.iconst 0, 1) := by decide +kernel
theorem dX7_numbered_3 : decode cX7_numbered 3 = .ok (.istore_n 3, 1) := by decide +kernel
theorem dX7_numbered_4 : decode cX7_numbered 4 = .ok (.iload_n 3, 1) := by decide +kernel
theorem dX7_numbered_5 : decode cX7_numbered 5 = .ok (.bipush 64, 2) := by decide +kernel
theorem dX7_numbered_7 : decode cX7_numbered 7 = .ok (.if_icmp .ge 42, 3) := by decide +kernel
theorem dX7_numbered_10 : decode cX7_numbered 10 = .ok (.aload_n 0, 1) := by decide +kernel
theorem dX7_numbered_11 : decode cX7_numbered 11 = .ok (.getfield 11, 3) := by decide +kernel
theorem dX7_numbered_14 : decode cX7_numbered 14 = .ok (.iload_n 3, 1) := by decide +kernel
theorem dX7_numbered_15 : decode cX7_numbered 15 = .ok (.laload, 1) := by decide +kernel
theorem dX7_numbered_16 : decode cX7_numbered 16 = .ok (.invokestatic 44, 3) := by decide +kernel
theorem dX7_numbered_19 : decode cX7_numbered 19 = .ok (.istore 4, 2) := by decide +kernel
theorem dX7_numbered_21 : decode cX7_numbered 21 = .ok (.iload_n 1, 1) := by decide +kernel
theorem dX7_numbered_22 : decode cX7_numbered 22 = .ok (.iload_n 2, 1) := by decide +kernel
theorem dX7_numbered_23 : decode cX7_numbered 23 = .ok (.iload 4, 2) := by decide +kernel
theorem dX7_numbered_25 : decode cX7_numbered 25 = .ok (.iadd, 1) := by decide +kernel
theorem dX7_numbered_26 : decode cX7_numbered 26 = .ok (.if_icmp .ge 12, 3) := by decide +kernel
theorem dX7_numbered_29 : decode cX7_numbered 29 = .ok (.aload_n 0, 1) := by decide +kernel
theorem dX7_numbered_30 : decode cX7_numbered 30 = .ok (.iload_n 3, 1) := by decide +kernel
theorem dX7_numbered_31 : decode cX7_numbered 31 = .ok (.iload_n 1, 1) := by decide +kernel
theorem dX7_numbered_32 : decode cX7_numbered 32 = .ok (.iload_n 2, 1) := by decide +kernel
theorem dX7_numbered_33 : decode cX7_numbered 33 = .ok (.isub, 1) := by decide +kernel
theorem dX7_numbered_34 : decode cX7_numbered 34 = .ok (.invokevirtual 70, 3) := by decide +kernel
theorem dX7_numbered_37 : decode cX7_numbered 37 = .ok (.ireturn, 1) := by decide +kernel
theorem dX7_numbered_38 : decode cX7_numbered 38 = .ok (.iload_n 2, 1) := by decide +kernel
theorem dX7_numbered_39 : decode cX7_numbered 39 = .ok (.iload 4, 2) := by decide +kernel
theorem dX7_numbered_41 : decode cX7_numbered 41 = .ok (.iadd, 1) := by decide +kernel
theorem dX7_numbered_42 : decode cX7_numbered 42 = .ok (.istore_n 2, 1) := by decide +kernel
theorem dX7_numbered_43 : decode cX7_numbered 43 = .ok (.iinc 3 1, 3) := by decide +kernel
theorem dX7_numbered_46 : decode cX7_numbered 46 = .ok (.goto (-42), 3) := by decide +kernel
theorem dX7_numbered_49 : decode cX7_numbered 49 = .ok (.bipush (-2), 2) := by decide +kernel
theorem dX7_numbered_51 : decode cX7_numbered 51 = .ok (.ireturn, 1) := by decide +kernel
theorem dX7_numberedFrom_0 : decode cX7_numberedFrom 0 = .ok (.iconst 0, 1) := by decide +kernel
theorem dX7_numberedFrom_1 : decode cX7_numberedFrom 1 = .ok (.istore_n 3, 1) := by decide +kernel
theorem dX7_numberedFrom_2 : decode cX7_numberedFrom 2 = .ok (.bipush 64, 2) := by decide +kernel
theorem dX7_numberedFrom_4 : decode cX7_numberedFrom 4 = .ok (.iload_n 1, 1) := by decide +kernel
theorem dX7_numberedFrom_5 : decode cX7_numberedFrom 5 = .ok (.imul, 1) := by decide +kernel
theorem dX7_numberedFrom_6 : decode cX7_numberedFrom 6 = .ok (.istore 4, 2) := by decide +kernel
theorem dX7_numberedFrom_8 : decode cX7_numberedFrom 8 = .ok (.iload 4, 2) := by decide +kernel
theorem dX7_numberedFrom_10 : decode cX7_numberedFrom 10 = .ok (.bipush 64, 2) := by decide +kernel
theorem dX7_numberedFrom_12 : decode cX7_numberedFrom 12 = .ok (.iload_n 1, 1) := by decide +kernel
theorem dX7_numberedFrom_13 : decode cX7_numberedFrom 13 = .ok (.imul, 1) := by decide +kernel
theorem dX7_numberedFrom_14 : decode cX7_numberedFrom 14 = .ok (.bipush 64, 2) := by decide +kernel
theorem dX7_numberedFrom_16 : decode cX7_numberedFrom 16 = .ok (.iadd, 1) := by decide +kernel
theorem dX7_numberedFrom_17 : decode cX7_numberedFrom 17 = .ok (.if_icmp .ge 29, 3) := by decide +kernel
theorem dX7_numberedFrom_20 : decode cX7_numberedFrom 20 = .ok (.aload_n 0, 1) := by decide +kernel
theorem dX7_numberedFrom_21 : decode cX7_numberedFrom 21 = .ok (.iload 4, 2) := by decide +kernel
theorem dX7_numberedFrom_23 : decode cX7_numberedFrom 23 = .ok (.invokevirtual 74, 3) := by decide +kernel
theorem dX7_numberedFrom_26 : decode cX7_numberedFrom 26 = .ok (.ifCond .eq 14, 3) := by decide +kernel
theorem dX7_numberedFrom_29 : decode cX7_numberedFrom 29 = .ok (.iload_n 3, 1) := by decide +kernel
theorem dX7_numberedFrom_30 : decode cX7_numberedFrom 30 = .ok (.iload_n 2, 1) := by decide +kernel
theorem dX7_numberedFrom_31 : decode cX7_numberedFrom 31 = .ok (.if_icmp .ne 6, 3) := by decide +kernel
theorem dX7_numberedFrom_34 : decode cX7_numberedFrom 34 = .ok (.iload 4, 2) := by decide +kernel
theorem dX7_numberedFrom_36 : decode cX7_numberedFrom 36 = .ok (.ireturn, 1) := by decide +kernel
theorem dX7_numberedFrom_37 : decode cX7_numberedFrom 37 = .ok (.iinc 3 1, 3) := by decide +kernel
theorem dX7_numberedFrom_40 : decode cX7_numberedFrom 40 = .ok (.iinc 4 1, 3) := by decide +kernel
theorem dX7_numberedFrom_43 : decode cX7_numberedFrom 43 = .ok (.goto (-35), 3) := by decide +kernel
theorem dX7_numberedFrom_46 : decode cX7_numberedFrom 46 = .ok (.bipush (-2), 2) := by decide +kernel
theorem dX7_numberedFrom_48 : decode cX7_numberedFrom 48 = .ok (.ireturn, 1) := by decide +kernel
theorem dX8_init_0 : decode cX8_init 0 = .ok (.aload_n 0, 1) := by decide +kernel
theorem dX8_init_1 : decode cX8_init 1 = .ok (.invokespecial 3, 3) := by decide +kernel
theorem dX8_init_4 : decode cX8_init 4 = .ok (.aload_n 0, 1) := by decide +kernel
theorem dX8_init_5 : decode cX8_init 5 = .ok (.bipush 80, 2) := by decide +kernel
theorem dX8_init_7 : decode cX8_init 7 = .ok (.newarray .char, 2) := by decide +kernel
theorem dX8_init_9 : decode cX8_init 9 = .ok (.putfield 11, 3) := by decide +kernel
theorem dX8_init_12 : decode cX8_init 12 = .ok (.return_, 1) := by decide +kernel
theorem dX8_write_0 : decode cX8_write 0 = .ok (.aload_n 0, 1) := by decide +kernel
theorem dX8_write_1 : decode cX8_write 1 = .ok (.getfield 15, 3) := by decide +kernel
theorem dX8_write_4 : decode cX8_write 4 = .ok (.iconst 4, 1) := by decide +kernel
theorem dX8_write_5 : decode cX8_write 5 = .ok (.iadd, 1) := by decide +kernel
theorem dX8_write_6 : decode cX8_write 6 = .ok (.bipush 80, 2) := by decide +kernel
theorem dX8_write_8 : decode cX8_write 8 = .ok (.if_icmp .le 5, 3) := by decide +kernel
theorem dX8_write_11 : decode cX8_write 11 = .ok (.iconst (-1), 1) := by decide +kernel
theorem dX8_write_12 : decode cX8_write 12 = .ok (.ireturn, 1) := by decide +kernel
theorem dX8_write_13 : decode cX8_write 13 = .ok (.bipush 24, 2) := by decide +kernel
theorem dX8_write_15 : decode cX8_write 15 = .ok (.istore_n 2, 1) := by decide +kernel
theorem dX8_write_16 : decode cX8_write 16 = .ok (.iload_n 2, 1) := by decide +kernel
theorem dX8_write_17 : decode cX8_write 17 = .ok (.ifCond .lt 36, 3) := by decide +kernel
theorem dX8_write_20 : decode cX8_write 20 = .ok (.aload_n 0, 1) := by decide +kernel
theorem dX8_write_21 : decode cX8_write 21 = .ok (.getfield 11, 3) := by decide +kernel
theorem dX8_write_24 : decode cX8_write 24 = .ok (.aload_n 0, 1) := by decide +kernel
theorem dX8_write_25 : decode cX8_write 25 = .ok (.getfield 15, 3) := by decide +kernel
theorem dX8_write_28 : decode cX8_write 28 = .ok (.iload_n 1, 1) := by decide +kernel
theorem dX8_write_29 : decode cX8_write 29 = .ok (.iload_n 2, 1) := by decide +kernel
theorem dX8_write_30 : decode cX8_write 30 = .ok (.iushr, 1) := by decide +kernel
theorem dX8_write_31 : decode cX8_write 31 = .ok (.sipush 255, 3) := by decide +kernel
theorem dX8_write_34 : decode cX8_write 34 = .ok (.iand, 1) := by decide +kernel
theorem dX8_write_35 : decode cX8_write 35 = .ok (.i2c, 1) := by decide +kernel
theorem dX8_write_36 : decode cX8_write 36 = .ok (.castore, 1) := by decide +kernel
theorem dX8_write_37 : decode cX8_write 37 = .ok (.aload_n 0, 1) := by decide +kernel
theorem dX8_write_38 : decode cX8_write 38 = .ok (.dup, 1) := by decide +kernel
theorem dX8_write_39 : decode cX8_write 39 = .ok (.getfield 15, 3) := by decide +kernel
theorem dX8_write_42 : decode cX8_write 42 = .ok (.iconst 1, 1) := by decide +kernel
theorem dX8_write_43 : decode cX8_write 43 = .ok (.iadd, 1) := by decide +kernel
theorem dX8_write_44 : decode cX8_write 44 = .ok (.putfield 15, 3) := by decide +kernel
theorem dX8_write_47 : decode cX8_write 47 = .ok (.iinc 2 (-8), 3) := by decide +kernel
theorem dX8_write_50 : decode cX8_write 50 = .ok (.goto (-34), 3) := by decide +kernel
theorem dX8_write_53 : decode cX8_write 53 = .ok (.aload_n 0, 1) := by decide +kernel
theorem dX8_write_54 : decode cX8_write 54 = .ok (.getfield 15, 3) := by decide +kernel
theorem dX8_write_57 : decode cX8_write 57 = .ok (.ireturn, 1) := by decide +kernel
theorem dX8_cut_0 : decode cX8_cut 0 = .ok (.iload_n 1, 1) := by decide +kernel
theorem dX8_cut_1 : decode cX8_cut 1 = .ok (.ifCond .lt 11, 3) := by decide +kernel
theorem dX8_cut_4 : decode cX8_cut 4 = .ok (.iload_n 1, 1) := by decide +kernel
theorem dX8_cut_5 : decode cX8_cut 5 = .ok (.aload_n 0, 1) := by decide +kernel
theorem dX8_cut_6 : decode cX8_cut 6 = .ok (.getfield 15, 3) := by decide +kernel
theorem dX8_cut_9 : decode cX8_cut 9 = .ok (.if_icmp .le 5, 3) := by decide +kernel
theorem dX8_cut_12 : decode cX8_cut 12 = .ok (.iconst 0, 1) := by decide +kernel
theorem dX8_cut_13 : decode cX8_cut 13 = .ok (.ireturn, 1) := by decide +kernel
theorem dX8_cut_14 : decode cX8_cut 14 = .ok (.aload_n 0, 1) := by decide +kernel
theorem dX8_cut_15 : decode cX8_cut 15 = .ok (.iload_n 1, 1) := by decide +kernel
theorem dX8_cut_16 : decode cX8_cut 16 = .ok (.putfield 15, 3) := by decide +kernel
theorem dX8_cut_19 : decode cX8_cut 19 = .ok (.iconst 1, 1) := by decide +kernel
theorem dX8_cut_20 : decode cX8_cut 20 = .ok (.ireturn, 1) := by decide +kernel
theorem dX8_wipe_0 : decode cX8_wipe 0 = .ok (.aload_n 0, 1) := by decide +kernel
theorem dX8_wipe_1 : decode cX8_wipe 1 = .ok (.iconst 0, 1) := by decide +kernel
theorem dX8_wipe_2 : decode cX8_wipe 2 = .ok (.putfield 15, 3) := by decide +kernel
theorem dX8_wipe_5 : decode cX8_wipe 5 = .ok (.return_, 1) := by decide +kernel
theorem dX8_open_0 : decode cX8_open 0 = .ok (.aload_n 0, 1) := by decide +kernel
theorem dX8_open_1 : decode cX8_open 1 = .ok (.iconst 0, 1) := by decide +kernel
theorem dX8_open_2 : decode cX8_open 2 = .ok (.putfield 19, 3) := by decide +kernel
theorem dX8_open_5 : decode cX8_open 5 = .ok (.return_, 1) := by decide +kernel
theorem dX8_peek_0 : decode cX8_peek 0 = .ok (.aload_n 0, 1) := by decide +kernel
theorem dX8_peek_1 : decode cX8_peek 1 = .ok (.getfield 19, 3) := by decide +kernel
theorem dX8_peek_4 : decode cX8_peek 4 = .ok (.aload_n 0, 1) := by decide +kernel
theorem dX8_peek_5 : decode cX8_peek 5 = .ok (.getfield 15, 3) := by decide +kernel
theorem dX8_peek_8 : decode cX8_peek 8 = .ok (.if_icmp .ge 24, 3) := by decide +kernel
theorem dX8_peek_11 : decode cX8_peek 11 = .ok (.aload_n 0, 1) := by decide +kernel
theorem dX8_peek_12 : decode cX8_peek 12 = .ok (.getfield 19, 3) := by decide +kernel
theorem dX8_peek_15 : decode cX8_peek 15 = .ok (.bipush 76, 2) := by decide +kernel
theorem dX8_peek_17 : decode cX8_peek 17 = .ok (.if_icmp .ge 15, 3) := by decide +kernel
theorem dX8_peek_20 : decode cX8_peek 20 = .ok (.aload_n 0, 1) := by decide +kernel
theorem dX8_peek_21 : decode cX8_peek 21 = .ok (.getfield 11, 3) := by decide +kernel
theorem dX8_peek_24 : decode cX8_peek 24 = .ok (.aload_n 0, 1) := by decide +kernel
theorem dX8_peek_25 : decode cX8_peek 25 = .ok (.getfield 19, 3) := by decide +kernel
theorem dX8_peek_28 : decode cX8_peek 28 = .ok (.caload, 1) := by decide +kernel
theorem dX8_peek_29 : decode cX8_peek 29 = .ok (.goto 4, 3) := by decide +kernel
theorem dX8_peek_32 : decode cX8_peek 32 = .ok (.iconst (-1), 1) := by decide +kernel
theorem dX8_peek_33 : decode cX8_peek 33 = .ok (.ireturn, 1) := by decide +kernel
theorem dX8_isRead_0 : decode cX8_isRead 0 = .ok (.aload_n 0, 1) := by decide +kernel
theorem dX8_isRead_1 : decode cX8_isRead 1 = .ok (.getfield 19, 3) := by decide +kernel
theorem dX8_isRead_4 : decode cX8_isRead 4 = .ok (.aload_n 0, 1) := by decide +kernel
theorem dX8_isRead_5 : decode cX8_isRead 5 = .ok (.getfield 15, 3) := by decide +kernel
theorem dX8_isRead_8 : decode cX8_isRead 8 = .ok (.if_icmp .ne 7, 3) := by decide +kernel
theorem dX8_isRead_11 : decode cX8_isRead 11 = .ok (.iconst 1, 1) := by decide +kernel
theorem dX8_isRead_12 : decode cX8_isRead 12 = .ok (.goto 4, 3) := by decide +kernel
theorem dX8_isRead_15 : decode cX8_isRead 15 = .ok (.iconst 0, 1) := by decide +kernel
theorem dX8_isRead_16 : decode cX8_isRead 16 = .ok (.ireturn, 1) := by decide +kernel
theorem dX8_wrong_0 : decode cX8_wrong 0 = .ok (.iconst (-1), 1) := by decide +kernel
theorem dX8_wrong_1 : decode cX8_wrong 1 = .ok (.aload_n 0, 1) := by decide +kernel
theorem dX8_wrong_2 : decode cX8_wrong 2 = .ok (.getfield 19, 3) := by decide +kernel
theorem dX8_wrong_5 : decode cX8_wrong 5 = .ok (.isub, 1) := by decide +kernel
theorem dX8_wrong_6 : decode cX8_wrong 6 = .ok (.ireturn, 1) := by decide +kernel
theorem dX8_take_0 : decode cX8_take 0 = .ok (.aload_n 0, 1) := by decide +kernel
theorem dX8_take_1 : decode cX8_take 1 = .ok (.invokevirtual 22, 3) := by decide +kernel
theorem dX8_take_4 : decode cX8_take 4 = .ok (.iload_n 1, 1) := by decide +kernel
theorem dX8_take_5 : decode cX8_take 5 = .ok (.if_icmp .eq 5, 3) := by decide +kernel
theorem dX8_take_8 : decode cX8_take 8 = .ok (.iconst 0, 1) := by decide +kernel
theorem dX8_take_9 : decode cX8_take 9 = .ok (.ireturn, 1) := by decide +kernel
theorem dX8_take_10 : decode cX8_take 10 = .ok (.aload_n 0, 1) := by decide +kernel
theorem dX8_take_11 : decode cX8_take 11 = .ok (.dup, 1) := by decide +kernel
theorem dX8_take_12 : decode cX8_take 12 = .ok (.getfield 19, 3) := by decide +kernel
theorem dX8_take_15 : decode cX8_take 15 = .ok (.iconst 1, 1) := by decide +kernel
theorem dX8_take_16 : decode cX8_take 16 = .ok (.iadd, 1) := by decide +kernel
theorem dX8_take_17 : decode cX8_take 17 = .ok (.putfield 19, 3) := by decide +kernel
theorem dX8_take_20 : decode cX8_take 20 = .ok (.iconst 1, 1) := by decide +kernel
theorem dX8_take_21 : decode cX8_take 21 = .ok (.ireturn, 1) := by decide +kernel
theorem dX8_takeWithin_0 : decode cX8_takeWithin 0 = .ok (.aload_n 0, 1) := by decide +kernel
theorem dX8_takeWithin_1 : decode cX8_takeWithin 1 = .ok (.invokevirtual 22, 3) := by decide +kernel
theorem dX8_takeWithin_4 : decode cX8_takeWithin 4 = .ok (.istore_n 3, 1) := by decide +kernel
theorem dX8_takeWithin_5 : decode cX8_takeWithin 5 = .ok (.iload_n 3, 1) := by decide +kernel
theorem dX8_takeWithin_6 : decode cX8_takeWithin 6 = .ok (.iload_n 1, 1) := by decide +kernel
theorem dX8_takeWithin_7 : decode cX8_takeWithin 7 = .ok (.if_icmp .lt 8, 3) := by decide +kernel
theorem dX8_takeWithin_10 : decode cX8_takeWithin 10 = .ok (.iload_n 3, 1) := by decide +kernel
theorem dX8_takeWithin_11 : decode cX8_takeWithin 11 = .ok (.iload_n 2, 1) := by decide +kernel
theorem dX8_takeWithin_12 : decode cX8_takeWithin 12 = .ok (.if_icmp .le 5, 3) := by decide +kernel
theorem dX8_takeWithin_15 : decode cX8_takeWithin 15 = .ok (.iconst (-1), 1) := by decide +kernel
theorem dX8_takeWithin_16 : decode cX8_takeWithin 16 = .ok (.ireturn, 1) := by decide +kernel
theorem dX8_takeWithin_17 : decode cX8_takeWithin 17 = .ok (.aload_n 0, 1) := by decide +kernel
theorem dX8_takeWithin_18 : decode cX8_takeWithin 18 = .ok (.dup, 1) := by decide +kernel
theorem dX8_takeWithin_19 : decode cX8_takeWithin 19 = .ok (.getfield 19, 3) := by decide +kernel
theorem dX8_takeWithin_22 : decode cX8_takeWithin 22 = .ok (.iconst 1, 1) := by decide +kernel
theorem dX8_takeWithin_23 : decode cX8_takeWithin 23 = .ok (.iadd, 1) := by decide +kernel
theorem dX8_takeWithin_24 : decode cX8_takeWithin 24 = .ok (.putfield 19, 3) := by decide +kernel
theorem dX8_takeWithin_27 : decode cX8_takeWithin 27 = .ok (.iload_n 3, 1) := by decide +kernel
theorem dX8_takeWithin_28 : decode cX8_takeWithin 28 = .ok (.iload_n 1, 1) := by decide +kernel
theorem dX8_takeWithin_29 : decode cX8_takeWithin 29 = .ok (.isub, 1) := by decide +kernel
theorem dX8_takeWithin_30 : decode cX8_takeWithin 30 = .ok (.ireturn, 1) := by decide +kernel
theorem dX8_takeForm_0 : decode cX8_takeForm 0 = .ok (.aload_n 0, 1) := by decide +kernel
theorem dX8_takeForm_1 : decode cX8_takeForm 1 = .ok (.bipush 65, 2) := by decide +kernel
theorem dX8_takeForm_3 : decode cX8_takeForm 3 = .ok (.invokevirtual 26, 3) := by decide +kernel
theorem dX8_takeForm_6 : decode cX8_takeForm 6 = .ok (.ifCond .eq 5, 3) := by decide +kernel
theorem dX8_takeForm_9 : decode cX8_takeForm 9 = .ok (.iconst 0, 1) := by decide +kernel
theorem dX8_takeForm_10 : decode cX8_takeForm 10 = .ok (.ireturn, 1) := by decide +kernel
theorem dX8_takeForm_11 : decode cX8_takeForm 11 = .ok (.aload_n 0, 1) := by decide +kernel
theorem dX8_takeForm_12 : decode cX8_takeForm 12 = .ok (.bipush 69, 2) := by decide +kernel
theorem dX8_takeForm_14 : decode cX8_takeForm 14 = .ok (.invokevirtual 26, 3) := by decide +kernel
theorem dX8_takeForm_17 : decode cX8_takeForm 17 = .ok (.ifCond .eq 5, 3) := by decide +kernel
theorem dX8_takeForm_20 : decode cX8_takeForm 20 = .ok (.iconst 1, 1) := by decide +kernel
theorem dX8_takeForm_21 : decode cX8_takeForm 21 = .ok (.ireturn, 1) := by decide +kernel
theorem dX8_takeForm_22 : decode cX8_takeForm 22 = .ok (.aload_n 0, 1) := by decide +kernel
theorem dX8_takeForm_23 : decode cX8_takeForm 23 = .ok (.bipush 73, 2) := by decide +kernel
theorem dX8_takeForm_25 : decode cX8_takeForm 25 = .ok (.invokevirtual 26, 3) := by decide +kernel
theorem dX8_takeForm_28 : decode cX8_takeForm 28 = .ok (.ifCond .eq 5, 3) := by decide +kernel
theorem dX8_takeForm_31 : decode cX8_takeForm 31 = .ok (.iconst 2, 1) := by decide +kernel
theorem dX8_takeForm_32 : decode cX8_takeForm 32 = .ok (.ireturn, 1) := by decide +kernel
theorem dX8_takeForm_33 : decode cX8_takeForm 33 = .ok (.aload_n 0, 1) := by decide +kernel
theorem dX8_takeForm_34 : decode cX8_takeForm 34 = .ok (.bipush 79, 2) := by decide +kernel
theorem dX8_takeForm_36 : decode cX8_takeForm 36 = .ok (.invokevirtual 26, 3) := by decide +kernel
theorem dX8_takeForm_39 : decode cX8_takeForm 39 = .ok (.ifCond .eq 7, 3) := by decide +kernel
theorem dX8_takeForm_42 : decode cX8_takeForm 42 = .ok (.iconst 3, 1) := by decide +kernel
theorem dX8_takeForm_43 : decode cX8_takeForm 43 = .ok (.goto 4, 3) := by decide +kernel
theorem dX8_takeForm_46 : decode cX8_takeForm 46 = .ok (.iconst (-1), 1) := by decide +kernel
theorem dX8_takeForm_47 : decode cX8_takeForm 47 = .ok (.ireturn, 1) := by decide +kernel
theorem dX8_takeTerm_0 : decode cX8_takeTerm 0 = .ok (.aload_n 0, 1) := by decide +kernel
theorem dX8_takeTerm_1 : decode cX8_takeTerm 1 = .ok (.bipush 45, 2) := by decide +kernel
theorem dX8_takeTerm_3 : decode cX8_takeTerm 3 = .ok (.invokevirtual 26, 3) := by decide +kernel
theorem dX8_takeTerm_6 : decode cX8_takeTerm 6 = .ok (.ifCond .eq 7, 3) := by decide +kernel
theorem dX8_takeTerm_9 : decode cX8_takeTerm 9 = .ok (.iconst 1, 1) := by decide +kernel
theorem dX8_takeTerm_10 : decode cX8_takeTerm 10 = .ok (.goto 4, 3) := by decide +kernel
theorem dX8_takeTerm_13 : decode cX8_takeTerm 13 = .ok (.iconst 0, 1) := by decide +kernel
theorem dX8_takeTerm_14 : decode cX8_takeTerm 14 = .ok (.istore_n 1, 1) := by decide +kernel
theorem dX8_takeTerm_15 : decode cX8_takeTerm 15 = .ok (.aload_n 0, 1) := by decide +kernel
theorem dX8_takeTerm_16 : decode cX8_takeTerm 16 = .ok (.bipush 97, 2) := by decide +kernel
theorem dX8_takeTerm_18 : decode cX8_takeTerm 18 = .ok (.bipush 108, 2) := by decide +kernel
theorem dX8_takeTerm_20 : decode cX8_takeTerm 20 = .ok (.invokevirtual 30, 3) := by decide +kernel
theorem dX8_takeTerm_23 : decode cX8_takeTerm 23 = .ok (.istore_n 2, 1) := by decide +kernel
theorem dX8_takeTerm_24 : decode cX8_takeTerm 24 = .ok (.iload_n 2, 1) := by decide +kernel
theorem dX8_takeTerm_25 : decode cX8_takeTerm 25 = .ok (.iconst (-1), 1) := by decide +kernel
theorem dX8_takeTerm_26 : decode cX8_takeTerm 26 = .ok (.if_icmp .ne 7, 3) := by decide +kernel
theorem dX8_takeTerm_29 : decode cX8_takeTerm 29 = .ok (.iconst (-1), 1) := by decide +kernel
theorem dX8_takeTerm_30 : decode cX8_takeTerm 30 = .ok (.goto 8, 3) := by decide +kernel
theorem dX8_takeTerm_33 : decode cX8_takeTerm 33 = .ok (.iconst 2, 1) := by decide +kernel
theorem dX8_takeTerm_34 : decode cX8_takeTerm 34 = .ok (.iload_n 2, 1) := by decide +kernel
theorem dX8_takeTerm_35 : decode cX8_takeTerm 35 = .ok (.imul, 1) := by decide +kernel
theorem dX8_takeTerm_36 : decode cX8_takeTerm 36 = .ok (.iload_n 1, 1) := by decide +kernel
theorem dX8_takeTerm_37 : decode cX8_takeTerm 37 = .ok (.iadd, 1) := by decide +kernel
theorem dX8_takeTerm_38 : decode cX8_takeTerm 38 = .ok (.ireturn, 1) := by decide +kernel
theorem dX8_takeCode_0 : decode cX8_takeCode 0 = .ok (.aload_n 0, 1) := by decide +kernel
theorem dX8_takeCode_1 : decode cX8_takeCode 1 = .ok (.invokevirtual 34, 3) := by decide +kernel
theorem dX8_takeCode_4 : decode cX8_takeCode 4 = .ok (.istore_n 1, 1) := by decide +kernel
theorem dX8_takeCode_5 : decode cX8_takeCode 5 = .ok (.iload_n 1, 1) := by decide +kernel
theorem dX8_takeCode_6 : decode cX8_takeCode 6 = .ok (.iconst (-1), 1) := by decide +kernel
theorem dX8_takeCode_7 : decode cX8_takeCode 7 = .ok (.if_icmp .ne 7, 3) := by decide +kernel
theorem dX8_takeCode_10 : decode cX8_takeCode 10 = .ok (.iconst (-1), 1) := by decide +kernel
theorem dX8_takeCode_11 : decode cX8_takeCode 11 = .ok (.goto 7, 3) := by decide +kernel
theorem dX8_takeCode_14 : decode cX8_takeCode 14 = .ok (.aload_n 0, 1) := by decide +kernel
theorem dX8_takeCode_15 : decode cX8_takeCode 15 = .ok (.invokevirtual 37, 3) := by decide +kernel
theorem dX8_takeCode_18 : decode cX8_takeCode 18 = .ok (.istore_n 2, 1) := by decide +kernel
theorem dX8_takeCode_19 : decode cX8_takeCode 19 = .ok (.iload_n 2, 1) := by decide +kernel
theorem dX8_takeCode_20 : decode cX8_takeCode 20 = .ok (.iconst (-1), 1) := by decide +kernel
theorem dX8_takeCode_21 : decode cX8_takeCode 21 = .ok (.if_icmp .ne 7, 3) := by decide +kernel
theorem dX8_takeCode_24 : decode cX8_takeCode 24 = .ok (.iconst (-1), 1) := by decide +kernel
theorem dX8_takeCode_25 : decode cX8_takeCode 25 = .ok (.goto 7, 3) := by decide +kernel
theorem dX8_takeCode_28 : decode cX8_takeCode 28 = .ok (.aload_n 0, 1) := by decide +kernel
theorem dX8_takeCode_29 : decode cX8_takeCode 29 = .ok (.invokevirtual 37, 3) := by decide +kernel
theorem dX8_takeCode_32 : decode cX8_takeCode 32 = .ok (.istore_n 3, 1) := by decide +kernel
theorem dX8_takeCode_33 : decode cX8_takeCode 33 = .ok (.iload_n 3, 1) := by decide +kernel
theorem dX8_takeCode_34 : decode cX8_takeCode 34 = .ok (.iconst (-1), 1) := by decide +kernel
theorem dX8_takeCode_35 : decode cX8_takeCode 35 = .ok (.if_icmp .ne 7, 3) := by decide +kernel
theorem dX8_takeCode_38 : decode cX8_takeCode 38 = .ok (.iconst (-1), 1) := by decide +kernel
theorem dX8_takeCode_39 : decode cX8_takeCode 39 = .ok (.goto 9, 3) := by decide +kernel
theorem dX8_takeCode_42 : decode cX8_takeCode 42 = .ok (.iload_n 1, 1) := by decide +kernel
theorem dX8_takeCode_43 : decode cX8_takeCode 43 = .ok (.iload_n 2, 1) := by decide +kernel
theorem dX8_takeCode_44 : decode cX8_takeCode 44 = .ok (.iload_n 3, 1) := by decide +kernel
theorem dX8_takeCode_45 : decode cX8_takeCode 45 = .ok (.invokestatic 40, 3) := by decide +kernel
theorem dX8_takeCode_48 : decode cX8_takeCode 48 = .ok (.ireturn, 1) := by decide +kernel
theorem dX8_takeNumber_0 : decode cX8_takeNumber 0 = .ok (.aload_n 0, 1) := by decide +kernel
theorem dX8_takeNumber_1 : decode cX8_takeNumber 1 = .ok (.bipush 48, 2) := by decide +kernel
theorem dX8_takeNumber_3 : decode cX8_takeNumber 3 = .ok (.bipush 57, 2) := by decide +kernel
theorem dX8_takeNumber_5 : decode cX8_takeNumber 5 = .ok (.invokevirtual 30, 3) := by decide +kernel
theorem dX8_takeNumber_8 : decode cX8_takeNumber 8 = .ok (.istore_n 1, 1) := by decide +kernel
theorem dX8_takeNumber_9 : decode cX8_takeNumber 9 = .ok (.iload_n 1, 1) := by decide +kernel
theorem dX8_takeNumber_10 : decode cX8_takeNumber 10 = .ok (.iconst (-1), 1) := by decide +kernel
theorem dX8_takeNumber_11 : decode cX8_takeNumber 11 = .ok (.if_icmp .ne 5, 3) := by decide +kernel
theorem dX8_takeNumber_14 : decode cX8_takeNumber 14 = .ok (.iconst (-1), 1) := by decide +kernel
theorem dX8_takeNumber_15 : decode cX8_takeNumber 15 = .ok (.ireturn, 1) := by decide +kernel
theorem dX8_takeNumber_16 : decode cX8_takeNumber 16 = .ok (.aload_n 0, 1) := by decide +kernel
theorem dX8_takeNumber_17 : decode cX8_takeNumber 17 = .ok (.bipush 48, 2) := by decide +kernel
theorem dX8_takeNumber_19 : decode cX8_takeNumber 19 = .ok (.bipush 57, 2) := by decide +kernel
theorem dX8_takeNumber_21 : decode cX8_takeNumber 21 = .ok (.invokevirtual 30, 3) := by decide +kernel
theorem dX8_takeNumber_24 : decode cX8_takeNumber 24 = .ok (.istore_n 2, 1) := by decide +kernel
theorem dX8_takeNumber_25 : decode cX8_takeNumber 25 = .ok (.iload_n 2, 1) := by decide +kernel
theorem dX8_takeNumber_26 : decode cX8_takeNumber 26 = .ok (.iconst (-1), 1) := by decide +kernel
theorem dX8_takeNumber_27 : decode cX8_takeNumber 27 = .ok (.if_icmp .ne 7, 3) := by decide +kernel
theorem dX8_takeNumber_30 : decode cX8_takeNumber 30 = .ok (.iload_n 1, 1) := by decide +kernel
theorem dX8_takeNumber_31 : decode cX8_takeNumber 31 = .ok (.goto 9, 3) := by decide +kernel
theorem dX8_takeNumber_34 : decode cX8_takeNumber 34 = .ok (.bipush 10, 2) := by decide +kernel
theorem dX8_takeNumber_36 : decode cX8_takeNumber 36 = .ok (.iload_n 1, 1) := by decide +kernel
theorem dX8_takeNumber_37 : decode cX8_takeNumber 37 = .ok (.imul, 1) := by decide +kernel
theorem dX8_takeNumber_38 : decode cX8_takeNumber 38 = .ok (.iload_n 2, 1) := by decide +kernel
theorem dX8_takeNumber_39 : decode cX8_takeNumber 39 = .ok (.iadd, 1) := by decide +kernel
theorem dX8_takeNumber_40 : decode cX8_takeNumber 40 = .ok (.ireturn, 1) := by decide +kernel
theorem dX9_init_0 : decode cX9_init 0 = .ok (.aload_n 0, 1) := by decide +kernel
theorem dX9_init_1 : decode cX9_init 1 = .ok (.invokespecial 3, 3) := by decide +kernel
theorem dX9_init_4 : decode cX9_init 4 = .ok (.aload_n 0, 1) := by decide +kernel
theorem dX9_init_5 : decode cX9_init 5 = .ok (.bipush 24, 2) := by decide +kernel
theorem dX9_init_7 : decode cX9_init 7 = .ok (.newarray .int, 2) := by decide +kernel
theorem dX9_init_9 : decode cX9_init 9 = .ok (.putfield 9, 3) := by decide +kernel
theorem dX9_init_12 : decode cX9_init 12 = .ok (.aload_n 0, 1) := by decide +kernel
theorem dX9_init_13 : decode cX9_init 13 = .ok (.bipush 29, 2) := by decide +kernel
theorem dX9_init_15 : decode cX9_init 15 = .ok (.newarray .int, 2) := by decide +kernel
theorem dX9_init_17 : decode cX9_init 17 = .ok (.putfield 15, 3) := by decide +kernel
theorem dX9_init_20 : decode cX9_init 20 = .ok (.aload_n 0, 1) := by decide +kernel
theorem dX9_init_21 : decode cX9_init 21 = .ok (.bipush 29, 2) := by decide +kernel
theorem dX9_init_23 : decode cX9_init 23 = .ok (.newarray .int, 2) := by decide +kernel
theorem dX9_init_25 : decode cX9_init 25 = .ok (.putfield 18, 3) := by decide +kernel
theorem dX9_init_28 : decode cX9_init 28 = .ok (.return_, 1) := by decide +kernel
theorem dX9_clear_0 : decode cX9_clear 0 = .ok (.iconst 0, 1) := by decide +kernel
theorem dX9_clear_1 : decode cX9_clear 1 = .ok (.istore_n 1, 1) := by decide +kernel
theorem dX9_clear_2 : decode cX9_clear 2 = .ok (.iload_n 1, 1) := by decide +kernel
theorem dX9_clear_3 : decode cX9_clear 3 = .ok (.bipush 24, 2) := by decide +kernel
theorem dX9_clear_5 : decode cX9_clear 5 = .ok (.if_icmp .ge 18, 3) := by decide +kernel
theorem dX9_clear_8 : decode cX9_clear 8 = .ok (.aload_n 0, 1) := by decide +kernel
theorem dX9_clear_9 : decode cX9_clear 9 = .ok (.getfield 9, 3) := by decide +kernel
theorem dX9_clear_12 : decode cX9_clear 12 = .ok (.iload_n 1, 1) := by decide +kernel
theorem dX9_clear_13 : decode cX9_clear 13 = .ok (.iconst 1, 1) := by decide +kernel
theorem dX9_clear_14 : decode cX9_clear 14 = .ok (.iload_n 1, 1) := by decide +kernel
theorem dX9_clear_15 : decode cX9_clear 15 = .ok (.ishl, 1) := by decide +kernel
theorem dX9_clear_16 : decode cX9_clear 16 = .ok (.iastore, 1) := by decide +kernel
theorem dX9_clear_17 : decode cX9_clear 17 = .ok (.iinc 1 1, 3) := by decide +kernel
theorem dX9_clear_20 : decode cX9_clear 20 = .ok (.goto (-18), 3) := by decide +kernel
theorem dX9_clear_23 : decode cX9_clear 23 = .ok (.aload_n 0, 1) := by decide +kernel
theorem dX9_clear_24 : decode cX9_clear 24 = .ok (.iconst 0, 1) := by decide +kernel
theorem dX9_clear_25 : decode cX9_clear 25 = .ok (.putfield 21, 3) := by decide +kernel
theorem dX9_clear_28 : decode cX9_clear 28 = .ok (.aload_n 0, 1) := by decide +kernel
theorem dX9_clear_29 : decode cX9_clear 29 = .ok (.iconst 0, 1) := by decide +kernel
theorem dX9_clear_30 : decode cX9_clear 30 = .ok (.putfield 25, 3) := by decide +kernel
theorem dX9_clear_33 : decode cX9_clear 33 = .ok (.return_, 1) := by decide +kernel
theorem dX9_copyFrom_0 : decode cX9_copyFrom 0 = .ok (.iconst 0, 1) := by decide +kernel
theorem dX9_copyFrom_1 : decode cX9_copyFrom 1 = .ok (.istore_n 2, 1) := by decide +kernel
theorem dX9_copyFrom_2 : decode cX9_copyFrom 2 = .ok (.iload_n 2, 1) := by decide +kernel
theorem dX9_copyFrom_3 : decode cX9_copyFrom 3 = .ok (.bipush 24, 2) := by decide +kernel
theorem dX9_copyFrom_5 : decode cX9_copyFrom 5 = .ok (.if_icmp .ge 21, 3) := by decide +kernel
theorem dX9_copyFrom_8 : decode cX9_copyFrom 8 = .ok (.aload_n 0, 1) := by decide +kernel
theorem dX9_copyFrom_9 : decode cX9_copyFrom 9 = .ok (.getfield 9, 3) := by decide +kernel
theorem dX9_copyFrom_12 : decode cX9_copyFrom 12 = .ok (.iload_n 2, 1) := by decide +kernel
theorem dX9_copyFrom_13 : decode cX9_copyFrom 13 = .ok (.aload_n 1, 1) := by decide +kernel
theorem dX9_copyFrom_14 : decode cX9_copyFrom 14 = .ok (.getfield 9, 3) := by decide +kernel
theorem dX9_copyFrom_17 : decode cX9_copyFrom 17 = .ok (.iload_n 2, 1) := by decide +kernel
theorem dX9_copyFrom_18 : decode cX9_copyFrom 18 = .ok (.iaload, 1) := by decide +kernel
theorem dX9_copyFrom_19 : decode cX9_copyFrom 19 = .ok (.iastore, 1) := by decide +kernel
theorem dX9_copyFrom_20 : decode cX9_copyFrom 20 = .ok (.iinc 2 1, 3) := by decide +kernel
theorem dX9_copyFrom_23 : decode cX9_copyFrom 23 = .ok (.goto (-21), 3) := by decide +kernel
theorem dX9_copyFrom_26 : decode cX9_copyFrom 26 = .ok (.iconst 0, 1) := by decide +kernel
theorem dX9_copyFrom_27 : decode cX9_copyFrom 27 = .ok (.istore_n 2, 1) := by decide +kernel
theorem dX9_copyFrom_28 : decode cX9_copyFrom 28 = .ok (.iload_n 2, 1) := by decide +kernel
theorem dX9_copyFrom_29 : decode cX9_copyFrom 29 = .ok (.aload_n 1, 1) := by decide +kernel
theorem dX9_copyFrom_30 : decode cX9_copyFrom 30 = .ok (.getfield 21, 3) := by decide +kernel
theorem dX9_copyFrom_33 : decode cX9_copyFrom 33 = .ok (.if_icmp .ge 33, 3) := by decide +kernel
theorem dX9_copyFrom_36 : decode cX9_copyFrom 36 = .ok (.aload_n 0, 1) := by decide +kernel
theorem dX9_copyFrom_37 : decode cX9_copyFrom 37 = .ok (.getfield 15, 3) := by decide +kernel
theorem dX9_copyFrom_40 : decode cX9_copyFrom 40 = .ok (.iload_n 2, 1) := by decide +kernel
theorem dX9_copyFrom_41 : decode cX9_copyFrom 41 = .ok (.aload_n 1, 1) := by decide +kernel
theorem dX9_copyFrom_42 : decode cX9_copyFrom 42 = .ok (.getfield 15, 3) := by decide +kernel
theorem dX9_copyFrom_45 : decode cX9_copyFrom 45 = .ok (.iload_n 2, 1) := by decide +kernel
theorem dX9_copyFrom_46 : decode cX9_copyFrom 46 = .ok (.iaload, 1) := by decide +kernel
theorem dX9_copyFrom_47 : decode cX9_copyFrom 47 = .ok (.iastore, 1) := by decide +kernel
theorem dX9_copyFrom_48 : decode cX9_copyFrom 48 = .ok (.aload_n 0, 1) := by decide +kernel
theorem dX9_copyFrom_49 : decode cX9_copyFrom 49 = .ok (.getfield 18, 3) := by decide +kernel
theorem dX9_copyFrom_52 : decode cX9_copyFrom 52 = .ok (.iload_n 2, 1) := by decide +kernel
theorem dX9_copyFrom_53 : decode cX9_copyFrom 53 = .ok (.aload_n 1, 1) := by decide +kernel
theorem dX9_copyFrom_54 : decode cX9_copyFrom 54 = .ok (.getfield 18, 3) := by decide +kernel
theorem dX9_copyFrom_57 : decode cX9_copyFrom 57 = .ok (.iload_n 2, 1) := by decide +kernel
theorem dX9_copyFrom_58 : decode cX9_copyFrom 58 = .ok (.iaload, 1) := by decide +kernel
theorem dX9_copyFrom_59 : decode cX9_copyFrom 59 = .ok (.iastore, 1) := by decide +kernel
theorem dX9_copyFrom_60 : decode cX9_copyFrom 60 = .ok (.iinc 2 1, 3) := by decide +kernel
theorem dX9_copyFrom_63 : decode cX9_copyFrom 63 = .ok (.goto (-35), 3) := by decide +kernel
theorem dX9_copyFrom_66 : decode cX9_copyFrom 66 = .ok (.aload_n 0, 1) := by decide +kernel
theorem dX9_copyFrom_67 : decode cX9_copyFrom 67 = .ok (.aload_n 1, 1) := by decide +kernel
theorem dX9_copyFrom_68 : decode cX9_copyFrom 68 = .ok (.getfield 21, 3) := by decide +kernel
theorem dX9_copyFrom_71 : decode cX9_copyFrom 71 = .ok (.putfield 21, 3) := by decide +kernel
theorem dX9_copyFrom_74 : decode cX9_copyFrom 74 = .ok (.aload_n 0, 1) := by decide +kernel
theorem dX9_copyFrom_75 : decode cX9_copyFrom 75 = .ok (.aload_n 1, 1) := by decide +kernel
theorem dX9_copyFrom_76 : decode cX9_copyFrom 76 = .ok (.getfield 25, 3) := by decide +kernel
theorem dX9_copyFrom_79 : decode cX9_copyFrom 79 = .ok (.putfield 25, 3) := by decide +kernel
theorem dX9_copyFrom_82 : decode cX9_copyFrom 82 = .ok (.return_, 1) := by decide +kernel
theorem dX9_add_0 : decode cX9_add 0 = .ok (.iload_n 1, 1) := by decide +kernel
theorem dX9_add_1 : decode cX9_add 1 = .ok (.invokestatic 29, 3) := by decide +kernel
theorem dX9_add_4 : decode cX9_add 4 = .ok (.ifCond .eq 18, 3) := by decide +kernel
theorem dX9_add_7 : decode cX9_add 7 = .ok (.aload_n 0, 1) := by decide +kernel
theorem dX9_add_8 : decode cX9_add 8 = .ok (.iload_n 1, 1) := by decide +kernel
theorem dX9_add_9 : decode cX9_add 9 = .ok (.invokestatic 35, 3) := by decide +kernel
theorem dX9_add_12 : decode cX9_add 12 = .ok (.iload_n 1, 1) := by decide +kernel
theorem dX9_add_13 : decode cX9_add 13 = .ok (.invokestatic 39, 3) := by decide +kernel
theorem dX9_add_16 : decode cX9_add 16 = .ok (.invokevirtual 42, 3) := by decide +kernel
theorem dX9_add_19 : decode cX9_add 19 = .ok (.goto 15, 3) := by decide +kernel
theorem dX9_add_22 : decode cX9_add 22 = .ok (.aload_n 0, 1) := by decide +kernel
theorem dX9_add_23 : decode cX9_add 23 = .ok (.iload_n 1, 1) := by decide +kernel
theorem dX9_add_24 : decode cX9_add 24 = .ok (.invokestatic 35, 3) := by decide +kernel
theorem dX9_add_27 : decode cX9_add 27 = .ok (.iload_n 1, 1) := by decide +kernel
theorem dX9_add_28 : decode cX9_add 28 = .ok (.invokestatic 39, 3) := by decide +kernel
theorem dX9_add_31 : decode cX9_add 31 = .ok (.invokevirtual 46, 3) := by decide +kernel
theorem dX9_add_34 : decode cX9_add 34 = .ok (.return_, 1) := by decide +kernel
theorem dX9_addLiving_0 : decode cX9_addLiving 0 = .ok (.iconst 0, 1) := by decide +kernel
theorem dX9_addLiving_1 : decode cX9_addLiving 1 = .ok (.istore_n 2, 1) := by decide +kernel
theorem dX9_addLiving_2 : decode cX9_addLiving 2 = .ok (.iload_n 2, 1) := by decide +kernel
theorem dX9_addLiving_3 : decode cX9_addLiving 3 = .ok (.bipush 12, 2) := by decide +kernel
theorem dX9_addLiving_5 : decode cX9_addLiving 5 = .ok (.if_icmp .ge 60, 3) := by decide +kernel
theorem dX9_addLiving_8 : decode cX9_addLiving 8 = .ok (.iload_n 1, 1) := by decide +kernel
theorem dX9_addLiving_9 : decode cX9_addLiving 9 = .ok (.iload_n 2, 1) := by decide +kernel
theorem dX9_addLiving_10 : decode cX9_addLiving 10 = .ok (.ishr, 1) := by decide +kernel
theorem dX9_addLiving_11 : decode cX9_addLiving 11 = .ok (.iconst 1, 1) := by decide +kernel
theorem dX9_addLiving_12 : decode cX9_addLiving 12 = .ok (.iand, 1) := by decide +kernel
theorem dX9_addLiving_13 : decode cX9_addLiving 13 = .ok (.ifCond .eq 46, 3) := by decide +kernel
theorem dX9_addLiving_16 : decode cX9_addLiving 16 = .ok (.aload_n 0, 1) := by decide +kernel
theorem dX9_addLiving_17 : decode cX9_addLiving 17 = .ok (.getfield 21, 3) := by decide +kernel
theorem dX9_addLiving_20 : decode cX9_addLiving 20 = .ok (.bipush 29, 2) := by decide +kernel
theorem dX9_addLiving_22 : decode cX9_addLiving 22 = .ok (.if_icmp .ge 37, 3) := by decide +kernel
theorem dX9_addLiving_25 : decode cX9_addLiving 25 = .ok (.aload_n 0, 1) := by decide +kernel
theorem dX9_addLiving_26 : decode cX9_addLiving 26 = .ok (.getfield 15, 3) := by decide +kernel
theorem dX9_addLiving_29 : decode cX9_addLiving 29 = .ok (.aload_n 0, 1) := by decide +kernel
theorem dX9_addLiving_30 : decode cX9_addLiving 30 = .ok (.getfield 21, 3) := by decide +kernel
theorem dX9_addLiving_33 : decode cX9_addLiving 33 = .ok (.iconst 2, 1) := by decide +kernel
theorem dX9_addLiving_34 : decode cX9_addLiving 34 = .ok (.iload_n 2, 1) := by decide +kernel
theorem dX9_addLiving_35 : decode cX9_addLiving 35 = .ok (.imul, 1) := by decide +kernel
theorem dX9_addLiving_36 : decode cX9_addLiving 36 = .ok (.iastore, 1) := by decide +kernel
theorem dX9_addLiving_37 : decode cX9_addLiving 37 = .ok (.aload_n 0, 1) := by decide +kernel
theorem dX9_addLiving_38 : decode cX9_addLiving 38 = .ok (.getfield 18, 3) := by decide +kernel
theorem dX9_addLiving_41 : decode cX9_addLiving 41 = .ok (.aload_n 0, 1) := by decide +kernel
theorem dX9_addLiving_42 : decode cX9_addLiving 42 = .ok (.getfield 21, 3) := by decide +kernel
theorem dX9_addLiving_45 : decode cX9_addLiving 45 = .ok (.iconst 2, 1) := by decide +kernel
theorem dX9_addLiving_46 : decode cX9_addLiving 46 = .ok (.iload_n 2, 1) := by decide +kernel
theorem dX9_addLiving_47 : decode cX9_addLiving 47 = .ok (.imul, 1) := by decide +kernel
theorem dX9_addLiving_48 : decode cX9_addLiving 48 = .ok (.iastore, 1) := by decide +kernel
theorem dX9_addLiving_49 : decode cX9_addLiving 49 = .ok (.aload_n 0, 1) := by decide +kernel
theorem dX9_addLiving_50 : decode cX9_addLiving 50 = .ok (.dup, 1) := by decide +kernel
theorem dX9_addLiving_51 : decode cX9_addLiving 51 = .ok (.getfield 21, 3) := by decide +kernel
theorem dX9_addLiving_54 : decode cX9_addLiving 54 = .ok (.iconst 1, 1) := by decide +kernel
theorem dX9_addLiving_55 : decode cX9_addLiving 55 = .ok (.iadd, 1) := by decide +kernel
theorem dX9_addLiving_56 : decode cX9_addLiving 56 = .ok (.putfield 21, 3) := by decide +kernel
theorem dX9_addLiving_59 : decode cX9_addLiving 59 = .ok (.iinc 2 1, 3) := by decide +kernel
theorem dX9_addLiving_62 : decode cX9_addLiving 62 = .ok (.goto (-60), 3) := by decide +kernel
theorem dX9_addLiving_65 : decode cX9_addLiving 65 = .ok (.return_, 1) := by decide +kernel
theorem dX9_require_0 : decode cX9_require 0 = .ok (.aload_n 0, 1) := by decide +kernel
theorem dX9_require_1 : decode cX9_require 1 = .ok (.getfield 21, 3) := by decide +kernel
theorem dX9_require_4 : decode cX9_require 4 = .ok (.bipush 29, 2) := by decide +kernel
theorem dX9_require_6 : decode cX9_require 6 = .ok (.if_icmp .ge 33, 3) := by decide +kernel
theorem dX9_require_9 : decode cX9_require 9 = .ok (.aload_n 0, 1) := by decide +kernel
theorem dX9_require_10 : decode cX9_require 10 = .ok (.getfield 15, 3) := by decide +kernel
theorem dX9_require_13 : decode cX9_require 13 = .ok (.aload_n 0, 1) := by decide +kernel
theorem dX9_require_14 : decode cX9_require 14 = .ok (.getfield 21, 3) := by decide +kernel
theorem dX9_require_17 : decode cX9_require 17 = .ok (.iload_n 1, 1) := by decide +kernel
theorem dX9_require_18 : decode cX9_require 18 = .ok (.iastore, 1) := by decide +kernel
theorem dX9_require_19 : decode cX9_require 19 = .ok (.aload_n 0, 1) := by decide +kernel
theorem dX9_require_20 : decode cX9_require 20 = .ok (.getfield 18, 3) := by decide +kernel
theorem dX9_require_23 : decode cX9_require 23 = .ok (.aload_n 0, 1) := by decide +kernel
theorem dX9_require_24 : decode cX9_require 24 = .ok (.getfield 21, 3) := by decide +kernel
theorem dX9_require_27 : decode cX9_require 27 = .ok (.iload_n 2, 1) := by decide +kernel
theorem dX9_require_28 : decode cX9_require 28 = .ok (.iastore, 1) := by decide +kernel
theorem dX9_require_29 : decode cX9_require 29 = .ok (.aload_n 0, 1) := by decide +kernel
theorem dX9_require_30 : decode cX9_require 30 = .ok (.dup, 1) := by decide +kernel
theorem dX9_require_31 : decode cX9_require 31 = .ok (.getfield 21, 3) := by decide +kernel
theorem dX9_require_34 : decode cX9_require 34 = .ok (.iconst 1, 1) := by decide +kernel
theorem dX9_require_35 : decode cX9_require 35 = .ok (.iadd, 1) := by decide +kernel
theorem dX9_require_36 : decode cX9_require 36 = .ok (.putfield 21, 3) := by decide +kernel
theorem dX9_require_39 : decode cX9_require 39 = .ok (.return_, 1) := by decide +kernel
theorem dX9_imply_0 : decode cX9_imply 0 = .ok (.aload_n 0, 1) := by decide +kernel
theorem dX9_imply_1 : decode cX9_imply 1 = .ok (.getfield 9, 3) := by decide +kernel
theorem dX9_imply_4 : decode cX9_imply 4 = .ok (.iload_n 1, 1) := by decide +kernel
theorem dX9_imply_5 : decode cX9_imply 5 = .ok (.iaload, 1) := by decide +kernel
theorem dX9_imply_6 : decode cX9_imply 6 = .ok (.iload_n 2, 1) := by decide +kernel
theorem dX9_imply_7 : decode cX9_imply 7 = .ok (.ishr, 1) := by decide +kernel
theorem dX9_imply_8 : decode cX9_imply 8 = .ok (.iconst 1, 1) := by decide +kernel
theorem dX9_imply_9 : decode cX9_imply 9 = .ok (.iand, 1) := by decide +kernel
theorem dX9_imply_10 : decode cX9_imply 10 = .ok (.ifCond .eq 4, 3) := by decide +kernel
theorem dX9_imply_13 : decode cX9_imply 13 = .ok (.return_, 1) := by decide +kernel
theorem dX9_imply_14 : decode cX9_imply 14 = .ok (.iconst 0, 1) := by decide +kernel
theorem dX9_imply_15 : decode cX9_imply 15 = .ok (.istore_n 3, 1) := by decide +kernel
theorem dX9_imply_16 : decode cX9_imply 16 = .ok (.iload_n 3, 1) := by decide +kernel
theorem dX9_imply_17 : decode cX9_imply 17 = .ok (.bipush 24, 2) := by decide +kernel
theorem dX9_imply_19 : decode cX9_imply 19 = .ok (.if_icmp .ge 37, 3) := by decide +kernel
theorem dX9_imply_22 : decode cX9_imply 22 = .ok (.aload_n 0, 1) := by decide +kernel
theorem dX9_imply_23 : decode cX9_imply 23 = .ok (.getfield 9, 3) := by decide +kernel
theorem dX9_imply_26 : decode cX9_imply 26 = .ok (.iload_n 3, 1) := by decide +kernel
theorem dX9_imply_27 : decode cX9_imply 27 = .ok (.iaload, 1) := by decide +kernel
theorem dX9_imply_28 : decode cX9_imply 28 = .ok (.iload_n 1, 1) := by decide +kernel
theorem dX9_imply_29 : decode cX9_imply 29 = .ok (.ishr, 1) := by decide +kernel
theorem dX9_imply_30 : decode cX9_imply 30 = .ok (.iconst 1, 1) := by decide +kernel
theorem dX9_imply_31 : decode cX9_imply 31 = .ok (.iand, 1) := by decide +kernel
theorem dX9_imply_32 : decode cX9_imply 32 = .ok (.ifCond .eq 18, 3) := by decide +kernel
theorem dX9_imply_35 : decode cX9_imply 35 = .ok (.aload_n 0, 1) := by decide +kernel
theorem dX9_imply_36 : decode cX9_imply 36 = .ok (.getfield 9, 3) := by decide +kernel
theorem dX9_imply_39 : decode cX9_imply 39 = .ok (.iload_n 3, 1) := by decide +kernel
theorem dX9_imply_40 : decode cX9_imply 40 = .ok (.dup2, 1) := by decide +kernel
theorem dX9_imply_41 : decode cX9_imply 41 = .ok (.iaload, 1) := by decide +kernel
theorem dX9_imply_42 : decode cX9_imply 42 = .ok (.aload_n 0, 1) := by decide +kernel
theorem dX9_imply_43 : decode cX9_imply 43 = .ok (.getfield 9, 3) := by decide +kernel
theorem dX9_imply_46 : decode cX9_imply 46 = .ok (.iload_n 2, 1) := by decide +kernel
theorem dX9_imply_47 : decode cX9_imply 47 = .ok (.iaload, 1) := by decide +kernel
theorem dX9_imply_48 : decode cX9_imply 48 = .ok (.ior, 1) := by decide +kernel
theorem dX9_imply_49 : decode cX9_imply 49 = .ok (.iastore, 1) := by decide +kernel
theorem dX9_imply_50 : decode cX9_imply 50 = .ok (.iinc 3 1, 3) := by decide +kernel
theorem dX9_imply_53 : decode cX9_imply 53 = .ok (.goto (-37), 3) := by decide +kernel
theorem dX9_imply_56 : decode cX9_imply 56 = .ok (.iconst 0, 1) := by decide +kernel
theorem dX9_imply_57 : decode cX9_imply 57 = .ok (.istore_n 3, 1) := by decide +kernel
theorem dX9_imply_58 : decode cX9_imply 58 = .ok (.iload_n 3, 1) := by decide +kernel
theorem dX9_imply_59 : decode cX9_imply 59 = .ok (.bipush 24, 2) := by decide +kernel
theorem dX9_imply_61 : decode cX9_imply 61 = .ok (.if_icmp .ge 41, 3) := by decide +kernel
theorem dX9_imply_64 : decode cX9_imply 64 = .ok (.aload_n 0, 1) := by decide +kernel
theorem dX9_imply_65 : decode cX9_imply 65 = .ok (.getfield 9, 3) := by decide +kernel
theorem dX9_imply_68 : decode cX9_imply 68 = .ok (.iload_n 3, 1) := by decide +kernel
theorem dX9_imply_69 : decode cX9_imply 69 = .ok (.iaload, 1) := by decide +kernel
theorem dX9_imply_70 : decode cX9_imply 70 = .ok (.iload_n 2, 1) := by decide +kernel
theorem dX9_imply_71 : decode cX9_imply 71 = .ok (.iconst 1, 1) := by decide +kernel
theorem dX9_imply_72 : decode cX9_imply 72 = .ok (.ixor, 1) := by decide +kernel
theorem dX9_imply_73 : decode cX9_imply 73 = .ok (.ishr, 1) := by decide +kernel
theorem dX9_imply_74 : decode cX9_imply 74 = .ok (.iconst 1, 1) := by decide +kernel
theorem dX9_imply_75 : decode cX9_imply 75 = .ok (.iand, 1) := by decide +kernel
theorem dX9_imply_76 : decode cX9_imply 76 = .ok (.ifCond .eq 20, 3) := by decide +kernel
theorem dX9_imply_79 : decode cX9_imply 79 = .ok (.aload_n 0, 1) := by decide +kernel
theorem dX9_imply_80 : decode cX9_imply 80 = .ok (.getfield 9, 3) := by decide +kernel
theorem dX9_imply_83 : decode cX9_imply 83 = .ok (.iload_n 3, 1) := by decide +kernel
theorem dX9_imply_84 : decode cX9_imply 84 = .ok (.dup2, 1) := by decide +kernel
theorem dX9_imply_85 : decode cX9_imply 85 = .ok (.iaload, 1) := by decide +kernel
theorem dX9_imply_86 : decode cX9_imply 86 = .ok (.aload_n 0, 1) := by decide +kernel
theorem dX9_imply_87 : decode cX9_imply 87 = .ok (.getfield 9, 3) := by decide +kernel
theorem dX9_imply_90 : decode cX9_imply 90 = .ok (.iload_n 1, 1) := by decide +kernel
theorem dX9_imply_91 : decode cX9_imply 91 = .ok (.iconst 1, 1) := by decide +kernel
theorem dX9_imply_92 : decode cX9_imply 92 = .ok (.ixor, 1) := by decide +kernel
theorem dX9_imply_93 : decode cX9_imply 93 = .ok (.iaload, 1) := by decide +kernel
theorem dX9_imply_94 : decode cX9_imply 94 = .ok (.ior, 1) := by decide +kernel
theorem dX9_imply_95 : decode cX9_imply 95 = .ok (.iastore, 1) := by decide +kernel
theorem dX9_imply_96 : decode cX9_imply 96 = .ok (.iinc 3 1, 3) := by decide +kernel
theorem dX9_imply_99 : decode cX9_imply 99 = .ok (.goto (-41), 3) := by decide +kernel
theorem dX9_imply_102 : decode cX9_imply 102 = .ok (.aload_n 0, 1) := by decide +kernel
theorem dX9_imply_103 : decode cX9_imply 103 = .ok (.getfield 9, 3) := by decide +kernel
theorem dX9_imply_106 : decode cX9_imply 106 = .ok (.iload_n 1, 1) := by decide +kernel
theorem dX9_imply_107 : decode cX9_imply 107 = .ok (.iaload, 1) := by decide +kernel
theorem dX9_imply_108 : decode cX9_imply 108 = .ok (.iload_n 1, 1) := by decide +kernel
theorem dX9_imply_109 : decode cX9_imply 109 = .ok (.iconst 1, 1) := by decide +kernel
theorem dX9_imply_110 : decode cX9_imply 110 = .ok (.ixor, 1) := by decide +kernel
theorem dX9_imply_111 : decode cX9_imply 111 = .ok (.ishr, 1) := by decide +kernel
theorem dX9_imply_112 : decode cX9_imply 112 = .ok (.iconst 1, 1) := by decide +kernel
theorem dX9_imply_113 : decode cX9_imply 113 = .ok (.iand, 1) := by decide +kernel
theorem dX9_imply_114 : decode cX9_imply 114 = .ok (.ifCond .eq 23, 3) := by decide +kernel
theorem dX9_imply_117 : decode cX9_imply 117 = .ok (.aload_n 0, 1) := by decide +kernel
theorem dX9_imply_118 : decode cX9_imply 118 = .ok (.getfield 9, 3) := by decide +kernel
theorem dX9_imply_121 : decode cX9_imply 121 = .ok (.iload_n 1, 1) := by decide +kernel
theorem dX9_imply_122 : decode cX9_imply 122 = .ok (.iconst 1, 1) := by decide +kernel
theorem dX9_imply_123 : decode cX9_imply 123 = .ok (.ixor, 1) := by decide +kernel
theorem dX9_imply_124 : decode cX9_imply 124 = .ok (.iaload, 1) := by decide +kernel
theorem dX9_imply_125 : decode cX9_imply 125 = .ok (.iload_n 1, 1) := by decide +kernel
theorem dX9_imply_126 : decode cX9_imply 126 = .ok (.ishr, 1) := by decide +kernel
theorem dX9_imply_127 : decode cX9_imply 127 = .ok (.iconst 1, 1) := by decide +kernel
theorem dX9_imply_128 : decode cX9_imply 128 = .ok (.iand, 1) := by decide +kernel
theorem dX9_imply_129 : decode cX9_imply 129 = .ok (.ifCond .eq 8, 3) := by decide +kernel
theorem dX9_imply_132 : decode cX9_imply 132 = .ok (.aload_n 0, 1) := by decide +kernel
theorem dX9_imply_133 : decode cX9_imply 133 = .ok (.iconst 1, 1) := by decide +kernel
theorem dX9_imply_134 : decode cX9_imply 134 = .ok (.putfield 25, 3) := by decide +kernel
theorem dX9_imply_137 : decode cX9_imply 137 = .ok (.return_, 1) := by decide +kernel
theorem dX9_canBe_0 : decode cX9_canBe 0 = .ok (.aload_n 0, 1) := by decide +kernel
theorem dX9_canBe_1 : decode cX9_canBe 1 = .ok (.getfield 9, 3) := by decide +kernel
theorem dX9_canBe_4 : decode cX9_canBe 4 = .ok (.iload_n 1, 1) := by decide +kernel
theorem dX9_canBe_5 : decode cX9_canBe 5 = .ok (.iaload, 1) := by decide +kernel
theorem dX9_canBe_6 : decode cX9_canBe 6 = .ok (.aload_n 0, 1) := by decide +kernel
theorem dX9_canBe_7 : decode cX9_canBe 7 = .ok (.getfield 9, 3) := by decide +kernel
theorem dX9_canBe_10 : decode cX9_canBe 10 = .ok (.iload_n 2, 1) := by decide +kernel
theorem dX9_canBe_11 : decode cX9_canBe 11 = .ok (.iaload, 1) := by decide +kernel
theorem dX9_canBe_12 : decode cX9_canBe 12 = .ok (.ior, 1) := by decide +kernel
theorem dX9_canBe_13 : decode cX9_canBe 13 = .ok (.istore_n 3, 1) := by decide +kernel
theorem dX9_canBe_14 : decode cX9_canBe 14 = .ok (.aload_n 0, 1) := by decide +kernel
theorem dX9_canBe_15 : decode cX9_canBe 15 = .ok (.getfield 25, 3) := by decide +kernel
theorem dX9_canBe_18 : decode cX9_canBe 18 = .ok (.ifCond .ne 18, 3) := by decide +kernel
theorem dX9_canBe_21 : decode cX9_canBe 21 = .ok (.iload_n 3, 1) := by decide +kernel
theorem dX9_canBe_22 : decode cX9_canBe 22 = .ok (.iload_n 3, 1) := by decide +kernel
theorem dX9_canBe_23 : decode cX9_canBe 23 = .ok (.iconst 1, 1) := by decide +kernel
theorem dX9_canBe_24 : decode cX9_canBe 24 = .ok (.iushr, 1) := by decide +kernel
theorem dX9_canBe_25 : decode cX9_canBe 25 = .ok (.iand, 1) := by decide +kernel
theorem dX9_canBe_26 : decode cX9_canBe 26 = .ok (.ldc 49, 2) := by decide +kernel
theorem dX9_canBe_28 : decode cX9_canBe 28 = .ok (.iand, 1) := by decide +kernel
theorem dX9_canBe_29 : decode cX9_canBe 29 = .ok (.ifCond .ne 7, 3) := by decide +kernel
theorem dX9_canBe_32 : decode cX9_canBe 32 = .ok (.iconst 1, 1) := by decide +kernel
theorem dX9_canBe_33 : decode cX9_canBe 33 = .ok (.goto 4, 3) := by decide +kernel
theorem dX9_canBe_36 : decode cX9_canBe 36 = .ok (.iconst 0, 1) := by decide +kernel
theorem dX9_canBe_37 : decode cX9_canBe 37 = .ok (.ireturn, 1) := by decide +kernel
theorem dX9_canShare_0 : decode cX9_canShare 0 = .ok (.aload_n 0, 1) := by decide +kernel
theorem dX9_canShare_1 : decode cX9_canShare 1 = .ok (.aload_n 0, 1) := by decide +kernel
theorem dX9_canShare_2 : decode cX9_canShare 2 = .ok (.getfield 15, 3) := by decide +kernel
theorem dX9_canShare_5 : decode cX9_canShare 5 = .ok (.iload_n 1, 1) := by decide +kernel
theorem dX9_canShare_6 : decode cX9_canShare 6 = .ok (.iaload, 1) := by decide +kernel
theorem dX9_canShare_7 : decode cX9_canShare 7 = .ok (.aload_n 0, 1) := by decide +kernel
theorem dX9_canShare_8 : decode cX9_canShare 8 = .ok (.getfield 15, 3) := by decide +kernel
theorem dX9_canShare_11 : decode cX9_canShare 11 = .ok (.iload_n 2, 1) := by decide +kernel
theorem dX9_canShare_12 : decode cX9_canShare 12 = .ok (.iaload, 1) := by decide +kernel
theorem dX9_canShare_13 : decode cX9_canShare 13 = .ok (.invokevirtual 50, 3) := by decide +kernel
theorem dX9_canShare_16 : decode cX9_canShare 16 = .ok (.ifCond .eq 64, 3) := by decide +kernel
theorem dX9_canShare_19 : decode cX9_canShare 19 = .ok (.aload_n 0, 1) := by decide +kernel
theorem dX9_canShare_20 : decode cX9_canShare 20 = .ok (.aload_n 0, 1) := by decide +kernel
theorem dX9_canShare_21 : decode cX9_canShare 21 = .ok (.getfield 15, 3) := by decide +kernel
theorem dX9_canShare_24 : decode cX9_canShare 24 = .ok (.iload_n 1, 1) := by decide +kernel
theorem dX9_canShare_25 : decode cX9_canShare 25 = .ok (.iaload, 1) := by decide +kernel
theorem dX9_canShare_26 : decode cX9_canShare 26 = .ok (.aload_n 0, 1) := by decide +kernel
theorem dX9_canShare_27 : decode cX9_canShare 27 = .ok (.getfield 18, 3) := by decide +kernel
theorem dX9_canShare_30 : decode cX9_canShare 30 = .ok (.iload_n 2, 1) := by decide +kernel
theorem dX9_canShare_31 : decode cX9_canShare 31 = .ok (.iaload, 1) := by decide +kernel
theorem dX9_canShare_32 : decode cX9_canShare 32 = .ok (.invokevirtual 50, 3) := by decide +kernel
theorem dX9_canShare_35 : decode cX9_canShare 35 = .ok (.ifCond .eq 45, 3) := by decide +kernel
theorem dX9_canShare_38 : decode cX9_canShare 38 = .ok (.aload_n 0, 1) := by decide +kernel
theorem dX9_canShare_39 : decode cX9_canShare 39 = .ok (.aload_n 0, 1) := by decide +kernel
theorem dX9_canShare_40 : decode cX9_canShare 40 = .ok (.getfield 18, 3) := by decide +kernel
theorem dX9_canShare_43 : decode cX9_canShare 43 = .ok (.iload_n 1, 1) := by decide +kernel
theorem dX9_canShare_44 : decode cX9_canShare 44 = .ok (.iaload, 1) := by decide +kernel
theorem dX9_canShare_45 : decode cX9_canShare 45 = .ok (.aload_n 0, 1) := by decide +kernel
theorem dX9_canShare_46 : decode cX9_canShare 46 = .ok (.getfield 15, 3) := by decide +kernel
theorem dX9_canShare_49 : decode cX9_canShare 49 = .ok (.iload_n 2, 1) := by decide +kernel
theorem dX9_canShare_50 : decode cX9_canShare 50 = .ok (.iaload, 1) := by decide +kernel
theorem dX9_canShare_51 : decode cX9_canShare 51 = .ok (.invokevirtual 50, 3) := by decide +kernel
theorem dX9_canShare_54 : decode cX9_canShare 54 = .ok (.ifCond .eq 26, 3) := by decide +kernel
theorem dX9_canShare_57 : decode cX9_canShare 57 = .ok (.aload_n 0, 1) := by decide +kernel
theorem dX9_canShare_58 : decode cX9_canShare 58 = .ok (.aload_n 0, 1) := by decide +kernel
theorem dX9_canShare_59 : decode cX9_canShare 59 = .ok (.getfield 18, 3) := by decide +kernel
theorem dX9_canShare_62 : decode cX9_canShare 62 = .ok (.iload_n 1, 1) := by decide +kernel
theorem dX9_canShare_63 : decode cX9_canShare 63 = .ok (.iaload, 1) := by decide +kernel
theorem dX9_canShare_64 : decode cX9_canShare 64 = .ok (.aload_n 0, 1) := by decide +kernel
theorem dX9_canShare_65 : decode cX9_canShare 65 = .ok (.getfield 18, 3) := by decide +kernel
theorem dX9_canShare_68 : decode cX9_canShare 68 = .ok (.iload_n 2, 1) := by decide +kernel
theorem dX9_canShare_69 : decode cX9_canShare 69 = .ok (.iaload, 1) := by decide +kernel
theorem dX9_canShare_70 : decode cX9_canShare 70 = .ok (.invokevirtual 50, 3) := by decide +kernel
theorem dX9_canShare_73 : decode cX9_canShare 73 = .ok (.ifCond .eq 7, 3) := by decide +kernel
theorem dX9_canShare_76 : decode cX9_canShare 76 = .ok (.iconst 1, 1) := by decide +kernel
theorem dX9_canShare_77 : decode cX9_canShare 77 = .ok (.goto 4, 3) := by decide +kernel
theorem dX9_canShare_80 : decode cX9_canShare 80 = .ok (.iconst 0, 1) := by decide +kernel
theorem dX9_canShare_81 : decode cX9_canShare 81 = .ok (.ireturn, 1) := by decide +kernel
theorem dX9_consistent_0 : decode cX9_consistent 0 = .ok (.iconst 0, 1) := by decide +kernel
theorem dX9_consistent_1 : decode cX9_consistent 1 = .ok (.istore_n 1, 1) := by decide +kernel
theorem dX9_consistent_2 : decode cX9_consistent 2 = .ok (.iload_n 1, 1) := by decide +kernel
theorem dX9_consistent_3 : decode cX9_consistent 3 = .ok (.aload_n 0, 1) := by decide +kernel
theorem dX9_consistent_4 : decode cX9_consistent 4 = .ok (.getfield 21, 3) := by decide +kernel
theorem dX9_consistent_7 : decode cX9_consistent 7 = .ok (.if_icmp .ge 53, 3) := by decide +kernel
theorem dX9_consistent_10 : decode cX9_consistent 10 = .ok (.aload_n 0, 1) := by decide +kernel
theorem dX9_consistent_11 : decode cX9_consistent 11 = .ok (.getfield 9, 3) := by decide +kernel
theorem dX9_consistent_14 : decode cX9_consistent 14 = .ok (.aload_n 0, 1) := by decide +kernel
theorem dX9_consistent_15 : decode cX9_consistent 15 = .ok (.getfield 15, 3) := by decide +kernel
theorem dX9_consistent_18 : decode cX9_consistent 18 = .ok (.iload_n 1, 1) := by decide +kernel
theorem dX9_consistent_19 : decode cX9_consistent 19 = .ok (.iaload, 1) := by decide +kernel
theorem dX9_consistent_20 : decode cX9_consistent 20 = .ok (.iaload, 1) := by decide +kernel
theorem dX9_consistent_21 : decode cX9_consistent 21 = .ok (.aload_n 0, 1) := by decide +kernel
theorem dX9_consistent_22 : decode cX9_consistent 22 = .ok (.getfield 9, 3) := by decide +kernel
theorem dX9_consistent_25 : decode cX9_consistent 25 = .ok (.aload_n 0, 1) := by decide +kernel
theorem dX9_consistent_26 : decode cX9_consistent 26 = .ok (.getfield 18, 3) := by decide +kernel
theorem dX9_consistent_29 : decode cX9_consistent 29 = .ok (.iload_n 1, 1) := by decide +kernel
theorem dX9_consistent_30 : decode cX9_consistent 30 = .ok (.iaload, 1) := by decide +kernel
theorem dX9_consistent_31 : decode cX9_consistent 31 = .ok (.iaload, 1) := by decide +kernel
theorem dX9_consistent_32 : decode cX9_consistent 32 = .ok (.ior, 1) := by decide +kernel
theorem dX9_consistent_33 : decode cX9_consistent 33 = .ok (.istore_n 2, 1) := by decide +kernel
theorem dX9_consistent_34 : decode cX9_consistent 34 = .ok (.aload_n 0, 1) := by decide +kernel
theorem dX9_consistent_35 : decode cX9_consistent 35 = .ok (.getfield 25, 3) := by decide +kernel
theorem dX9_consistent_38 : decode cX9_consistent 38 = .ok (.ifCond .ne 14, 3) := by decide +kernel
theorem dX9_consistent_41 : decode cX9_consistent 41 = .ok (.iload_n 2, 1) := by decide +kernel
theorem dX9_consistent_42 : decode cX9_consistent 42 = .ok (.iload_n 2, 1) := by decide +kernel
theorem dX9_consistent_43 : decode cX9_consistent 43 = .ok (.iconst 1, 1) := by decide +kernel
theorem dX9_consistent_44 : decode cX9_consistent 44 = .ok (.iushr, 1) := by decide +kernel
theorem dX9_consistent_45 : decode cX9_consistent 45 = .ok (.iand, 1) := by decide +kernel
theorem dX9_consistent_46 : decode cX9_consistent 46 = .ok (.ldc 49, 2) := by decide +kernel
theorem dX9_consistent_48 : decode cX9_consistent 48 = .ok (.iand, 1) := by decide +kernel
theorem dX9_consistent_49 : decode cX9_consistent 49 = .ok (.ifCond .eq 5, 3) := by decide +kernel
theorem dX9_consistent_52 : decode cX9_consistent 52 = .ok (.iconst 0, 1) := by decide +kernel
theorem dX9_consistent_53 : decode cX9_consistent 53 = .ok (.ireturn, 1) := by decide +kernel
theorem dX9_consistent_54 : decode cX9_consistent 54 = .ok (.iinc 1 1, 3) := by decide +kernel
theorem dX9_consistent_57 : decode cX9_consistent 57 = .ok (.goto (-55), 3) := by decide +kernel
theorem dX9_consistent_60 : decode cX9_consistent 60 = .ok (.iconst 1, 1) := by decide +kernel
theorem dX9_consistent_61 : decode cX9_consistent 61 = .ok (.ireturn, 1) := by decide +kernel
theorem dX9_metBy_0 : decode cX9_metBy 0 = .ok (.iconst 0, 1) := by decide +kernel
theorem dX9_metBy_1 : decode cX9_metBy 1 = .ok (.istore_n 2, 1) := by decide +kernel
theorem dX9_metBy_2 : decode cX9_metBy 2 = .ok (.iconst 0, 1) := by decide +kernel
theorem dX9_metBy_3 : decode cX9_metBy 3 = .ok (.istore_n 3, 1) := by decide +kernel
theorem dX9_metBy_4 : decode cX9_metBy 4 = .ok (.iload_n 3, 1) := by decide +kernel
theorem dX9_metBy_5 : decode cX9_metBy 5 = .ok (.aload_n 0, 1) := by decide +kernel
theorem dX9_metBy_6 : decode cX9_metBy 6 = .ok (.getfield 21, 3) := by decide +kernel
theorem dX9_metBy_9 : decode cX9_metBy 9 = .ok (.if_icmp .ge 41, 3) := by decide +kernel
theorem dX9_metBy_12 : decode cX9_metBy 12 = .ok (.iload_n 1, 1) := by decide +kernel
theorem dX9_metBy_13 : decode cX9_metBy 13 = .ok (.aload_n 0, 1) := by decide +kernel
theorem dX9_metBy_14 : decode cX9_metBy 14 = .ok (.getfield 15, 3) := by decide +kernel
theorem dX9_metBy_17 : decode cX9_metBy 17 = .ok (.iload_n 3, 1) := by decide +kernel
theorem dX9_metBy_18 : decode cX9_metBy 18 = .ok (.iaload, 1) := by decide +kernel
theorem dX9_metBy_19 : decode cX9_metBy 19 = .ok (.invokestatic 54, 3) := by decide +kernel
theorem dX9_metBy_22 : decode cX9_metBy 22 = .ok (.ifCond .eq 22, 3) := by decide +kernel
theorem dX9_metBy_25 : decode cX9_metBy 25 = .ok (.iload_n 1, 1) := by decide +kernel
theorem dX9_metBy_26 : decode cX9_metBy 26 = .ok (.aload_n 0, 1) := by decide +kernel
theorem dX9_metBy_27 : decode cX9_metBy 27 = .ok (.getfield 18, 3) := by decide +kernel
theorem dX9_metBy_30 : decode cX9_metBy 30 = .ok (.iload_n 3, 1) := by decide +kernel
theorem dX9_metBy_31 : decode cX9_metBy 31 = .ok (.iaload, 1) := by decide +kernel
theorem dX9_metBy_32 : decode cX9_metBy 32 = .ok (.invokestatic 54, 3) := by decide +kernel
theorem dX9_metBy_35 : decode cX9_metBy 35 = .ok (.ifCond .eq 9, 3) := by decide +kernel
theorem dX9_metBy_38 : decode cX9_metBy 38 = .ok (.iload_n 2, 1) := by decide +kernel
theorem dX9_metBy_39 : decode cX9_metBy 39 = .ok (.iconst 1, 1) := by decide +kernel
theorem dX9_metBy_40 : decode cX9_metBy 40 = .ok (.iload_n 3, 1) := by decide +kernel
theorem dX9_metBy_41 : decode cX9_metBy 41 = .ok (.ishl, 1) := by decide +kernel
theorem dX9_metBy_42 : decode cX9_metBy 42 = .ok (.ior, 1) := by decide +kernel
theorem dX9_metBy_43 : decode cX9_metBy 43 = .ok (.istore_n 2, 1) := by decide +kernel
theorem dX9_metBy_44 : decode cX9_metBy 44 = .ok (.iinc 3 1, 3) := by decide +kernel
theorem dX9_metBy_47 : decode cX9_metBy 47 = .ok (.goto (-43), 3) := by decide +kernel
theorem dX9_metBy_50 : decode cX9_metBy 50 = .ok (.iload_n 2, 1) := by decide +kernel
theorem dX9_metBy_51 : decode cX9_metBy 51 = .ok (.ireturn, 1) := by decide +kernel
theorem dX10_init_0 : decode cX10_init 0 = .ok (.aload_n 0, 1) := by decide +kernel
theorem dX10_init_1 : decode cX10_init 1 = .ok (.invokespecial 3, 3) := by decide +kernel
theorem dX10_init_4 : decode cX10_init 4 = .ok (.aload_n 0, 1) := by decide +kernel
theorem dX10_init_5 : decode cX10_init 5 = .ok (.bipush 12, 2) := by decide +kernel
theorem dX10_init_7 : decode cX10_init 7 = .ok (.newarray .int, 2) := by decide +kernel
theorem dX10_init_9 : decode cX10_init 9 = .ok (.putfield 9, 3) := by decide +kernel
theorem dX10_init_12 : decode cX10_init 12 = .ok (.aload_n 0, 1) := by decide +kernel
theorem dX10_init_13 : decode cX10_init 13 = .ok (.bipush 12, 2) := by decide +kernel
theorem dX10_init_15 : decode cX10_init 15 = .ok (.newarray .int, 2) := by decide +kernel
theorem dX10_init_17 : decode cX10_init 17 = .ok (.putfield 15, 3) := by decide +kernel
theorem dX10_init_20 : decode cX10_init 20 = .ok (.aload_n 0, 1) := by decide +kernel
theorem dX10_init_21 : decode cX10_init 21 = .ok (.sipush 4096, 3) := by decide +kernel
theorem dX10_init_24 : decode cX10_init 24 = .ok (.newarray .byte, 2) := by decide +kernel
theorem dX10_init_26 : decode cX10_init 26 = .ok (.putfield 18, 3) := by decide +kernel
theorem dX10_init_29 : decode cX10_init 29 = .ok (.aload_n 0, 1) := by decide +kernel
theorem dX10_init_30 : decode cX10_init 30 = .ok (.aload_n 1, 1) := by decide +kernel
theorem dX10_init_31 : decode cX10_init 31 = .ok (.putfield 22, 3) := by decide +kernel
theorem dX10_init_34 : decode cX10_init 34 = .ok (.aload_n 0, 1) := by decide +kernel
theorem dX10_init_35 : decode cX10_init 35 = .ok (.aload_n 2, 1) := by decide +kernel
theorem dX10_init_36 : decode cX10_init 36 = .ok (.putfield 26, 3) := by decide +kernel
theorem dX10_init_39 : decode cX10_init 39 = .ok (.aload_n 0, 1) := by decide +kernel
theorem dX10_init_40 : decode cX10_init 40 = .ok (.aload_n 3, 1) := by decide +kernel
theorem dX10_init_41 : decode cX10_init 41 = .ok (.putfield 30, 3) := by decide +kernel
theorem dX10_init_44 : decode cX10_init 44 = .ok (.return_, 1) := by decide +kernel
theorem dX10_least_0 : decode cX10_least 0 = .ok (.aload_n 0, 1) := by decide +kernel
theorem dX10_least_1 : decode cX10_least 1 = .ok (.getfield 22, 3) := by decide +kernel
theorem dX10_least_4 : decode cX10_least 4 = .ok (.invokevirtual 34, 3) := by decide +kernel
theorem dX10_least_7 : decode cX10_least 7 = .ok (.istore_n 2, 1) := by decide +kernel
theorem dX10_least_8 : decode cX10_least 8 = .ok (.aload_n 0, 1) := by decide +kernel
theorem dX10_least_9 : decode cX10_least 9 = .ok (.getfield 26, 3) := by decide +kernel
theorem dX10_least_12 : decode cX10_least 12 = .ok (.iload_n 2, 1) := by decide +kernel
theorem dX10_least_13 : decode cX10_least 13 = .ok (.invokevirtual 40, 3) := by decide +kernel
theorem dX10_least_16 : decode cX10_least 16 = .ok (.pop, 1) := by decide +kernel
theorem dX10_least_17 : decode cX10_least 17 = .ok (.aload_n 0, 1) := by decide +kernel
theorem dX10_least_18 : decode cX10_least 18 = .ok (.getfield 26, 3) := by decide +kernel
theorem dX10_least_21 : decode cX10_least 21 = .ok (.iload_n 1, 1) := by decide +kernel
theorem dX10_least_22 : decode cX10_least 22 = .ok (.invokevirtual 46, 3) := by decide +kernel
theorem dX10_least_25 : decode cX10_least 25 = .ok (.astore_n 3, 1) := by decide +kernel
theorem dX10_least_26 : decode cX10_least 26 = .ok (.aload_n 3, 1) := by decide +kernel
theorem dX10_least_27 : decode cX10_least 27 = .ok (.invokevirtual 49, 3) := by decide +kernel
theorem dX10_least_30 : decode cX10_least 30 = .ok (.ifCond .ne 6, 3) := by decide +kernel
theorem dX10_least_33 : decode cX10_least 33 = .ok (.bipush (-2), 2) := by decide +kernel
theorem dX10_least_35 : decode cX10_least 35 = .ok (.ireturn, 1) := by decide +kernel
theorem dX10_least_36 : decode cX10_least 36 = .ok (.aload_n 3, 1) := by decide +kernel
theorem dX10_least_37 : decode cX10_least 37 = .ok (.getfield 55, 3) := by decide +kernel
theorem dX10_least_40 : decode cX10_least 40 = .ok (.bipush 12, 2) := by decide +kernel
theorem dX10_least_42 : decode cX10_least 42 = .ok (.if_icmp .le 6, 3) := by decide +kernel
theorem dX10_least_45 : decode cX10_least 45 = .ok (.bipush (-3), 2) := by decide +kernel
theorem dX10_least_47 : decode cX10_least 47 = .ok (.ireturn, 1) := by decide +kernel
theorem dX10_least_48 : decode cX10_least 48 = .ok (.aload_n 0, 1) := by decide +kernel
theorem dX10_least_49 : decode cX10_least 49 = .ok (.getfield 30, 3) := by decide +kernel
theorem dX10_least_52 : decode cX10_least 52 = .ok (.iload_n 2, 1) := by decide +kernel
theorem dX10_least_53 : decode cX10_least 53 = .ok (.iload_n 1, 1) := by decide +kernel
theorem dX10_least_54 : decode cX10_least 54 = .ok (.invokevirtual 59, 3) := by decide +kernel
theorem dX10_least_57 : decode cX10_least 57 = .ok (.aload_n 0, 1) := by decide +kernel
theorem dX10_least_58 : decode cX10_least 58 = .ok (.aload_n 3, 1) := by decide +kernel
theorem dX10_least_59 : decode cX10_least 59 = .ok (.invokevirtual 65, 3) := by decide +kernel
theorem dX10_least_62 : decode cX10_least 62 = .ok (.aload_n 0, 1) := by decide +kernel
theorem dX10_least_63 : decode cX10_least 63 = .ok (.aload_n 3, 1) := by decide +kernel
theorem dX10_least_64 : decode cX10_least 64 = .ok (.invokevirtual 69, 3) := by decide +kernel
theorem dX10_least_67 : decode cX10_least 67 = .ok (.ireturn, 1) := by decide +kernel
theorem dX10_study_0 : decode cX10_study 0 = .ok (.iconst 0, 1) := by decide +kernel
theorem dX10_study_1 : decode cX10_study 1 = .ok (.istore_n 2, 1) := by decide +kernel
theorem dX10_study_2 : decode cX10_study 2 = .ok (.iload_n 2, 1) := by decide +kernel
theorem dX10_study_3 : decode cX10_study 3 = .ok (.aload_n 1, 1) := by decide +kernel
theorem dX10_study_4 : decode cX10_study 4 = .ok (.getfield 55, 3) := by decide +kernel
theorem dX10_study_7 : decode cX10_study 7 = .ok (.if_icmp .ge 53, 3) := by decide +kernel
theorem dX10_study_10 : decode cX10_study 10 = .ok (.aload_n 0, 1) := by decide +kernel
theorem dX10_study_11 : decode cX10_study 11 = .ok (.getfield 15, 3) := by decide +kernel
theorem dX10_study_14 : decode cX10_study 14 = .ok (.iload_n 2, 1) := by decide +kernel
theorem dX10_study_15 : decode cX10_study 15 = .ok (.iconst 0, 1) := by decide +kernel
theorem dX10_study_16 : decode cX10_study 16 = .ok (.iastore, 1) := by decide +kernel
theorem dX10_study_17 : decode cX10_study 17 = .ok (.iconst 0, 1) := by decide +kernel
theorem dX10_study_18 : decode cX10_study 18 = .ok (.istore_n 3, 1) := by decide +kernel
theorem dX10_study_19 : decode cX10_study 19 = .ok (.iload_n 3, 1) := by decide +kernel
theorem dX10_study_20 : decode cX10_study 20 = .ok (.aload_n 1, 1) := by decide +kernel
theorem dX10_study_21 : decode cX10_study 21 = .ok (.getfield 55, 3) := by decide +kernel
theorem dX10_study_24 : decode cX10_study 24 = .ok (.if_icmp .ge 30, 3) := by decide +kernel
theorem dX10_study_27 : decode cX10_study 27 = .ok (.aload_n 1, 1) := by decide +kernel
theorem dX10_study_28 : decode cX10_study 28 = .ok (.iload_n 2, 1) := by decide +kernel
theorem dX10_study_29 : decode cX10_study 29 = .ok (.iload_n 3, 1) := by decide +kernel
theorem dX10_study_30 : decode cX10_study 30 = .ok (.invokevirtual 73, 3) := by decide +kernel
theorem dX10_study_33 : decode cX10_study 33 = .ok (.ifCond .ne 15, 3) := by decide +kernel
theorem dX10_study_36 : decode cX10_study 36 = .ok (.aload_n 0, 1) := by decide +kernel
theorem dX10_study_37 : decode cX10_study 37 = .ok (.getfield 15, 3) := by decide +kernel
theorem dX10_study_40 : decode cX10_study 40 = .ok (.iload_n 2, 1) := by decide +kernel
theorem dX10_study_41 : decode cX10_study 41 = .ok (.dup2, 1) := by decide +kernel
theorem dX10_study_42 : decode cX10_study 42 = .ok (.iaload, 1) := by decide +kernel
theorem dX10_study_43 : decode cX10_study 43 = .ok (.iconst 1, 1) := by decide +kernel
theorem dX10_study_44 : decode cX10_study 44 = .ok (.iload_n 3, 1) := by decide +kernel
theorem dX10_study_45 : decode cX10_study 45 = .ok (.ishl, 1) := by decide +kernel
theorem dX10_study_46 : decode cX10_study 46 = .ok (.ior, 1) := by decide +kernel
theorem dX10_study_47 : decode cX10_study 47 = .ok (.iastore, 1) := by decide +kernel
theorem dX10_study_48 : decode cX10_study 48 = .ok (.iinc 3 1, 3) := by decide +kernel
theorem dX10_study_51 : decode cX10_study 51 = .ok (.goto (-32), 3) := by decide +kernel
theorem dX10_study_54 : decode cX10_study 54 = .ok (.iinc 2 1, 3) := by decide +kernel
theorem dX10_study_57 : decode cX10_study 57 = .ok (.goto (-55), 3) := by decide +kernel
theorem dX10_study_60 : decode cX10_study 60 = .ok (.iconst 0, 1) := by decide +kernel
theorem dX10_study_61 : decode cX10_study 61 = .ok (.istore_n 2, 1) := by decide +kernel
theorem dX10_study_62 : decode cX10_study 62 = .ok (.iload_n 2, 1) := by decide +kernel
theorem dX10_study_63 : decode cX10_study 63 = .ok (.iconst 1, 1) := by decide +kernel
theorem dX10_study_64 : decode cX10_study 64 = .ok (.aload_n 1, 1) := by decide +kernel
theorem dX10_study_65 : decode cX10_study 65 = .ok (.getfield 55, 3) := by decide +kernel
theorem dX10_study_68 : decode cX10_study 68 = .ok (.ishl, 1) := by decide +kernel
theorem dX10_study_69 : decode cX10_study 69 = .ok (.if_icmp .ge 16, 3) := by decide +kernel
theorem dX10_study_72 : decode cX10_study 72 = .ok (.aload_n 0, 1) := by decide +kernel
theorem dX10_study_73 : decode cX10_study 73 = .ok (.getfield 18, 3) := by decide +kernel
theorem dX10_study_76 : decode cX10_study 76 = .ok (.iload_n 2, 1) := by decide +kernel
theorem dX10_study_77 : decode cX10_study 77 = .ok (.iconst 0, 1) := by decide +kernel
theorem dX10_study_78 : decode cX10_study 78 = .ok (.bastore, 1) := by decide +kernel
theorem dX10_study_79 : decode cX10_study 79 = .ok (.iinc 2 1, 3) := by decide +kernel
theorem dX10_study_82 : decode cX10_study 82 = .ok (.goto (-20), 3) := by decide +kernel
theorem dX10_study_85 : decode cX10_study 85 = .ok (.return_, 1) := by decide +kernel
theorem dX10_choose_0 : decode cX10_choose 0 = .ok (.iconst 1, 1) := by decide +kernel
theorem dX10_choose_1 : decode cX10_choose 1 = .ok (.aload_n 1, 1) := by decide +kernel
theorem dX10_choose_2 : decode cX10_choose 2 = .ok (.getfield 55, 3) := by decide +kernel
theorem dX10_choose_5 : decode cX10_choose 5 = .ok (.ishl, 1) := by decide +kernel
theorem dX10_choose_6 : decode cX10_choose 6 = .ok (.iconst 1, 1) := by decide +kernel
theorem dX10_choose_7 : decode cX10_choose 7 = .ok (.isub, 1) := by decide +kernel
theorem dX10_choose_8 : decode cX10_choose 8 = .ok (.istore_n 2, 1) := by decide +kernel
theorem dX10_choose_9 : decode cX10_choose 9 = .ok (.aload_n 0, 1) := by decide +kernel
theorem dX10_choose_10 : decode cX10_choose 10 = .ok (.iload_n 2, 1) := by decide +kernel
theorem dX10_choose_11 : decode cX10_choose 11 = .ok (.invokevirtual 77, 3) := by decide +kernel
theorem dX10_choose_14 : decode cX10_choose 14 = .ok (.istore_n 3, 1) := by decide +kernel
theorem dX10_choose_15 : decode cX10_choose 15 = .ok (.iconst 0, 1) := by decide +kernel
theorem dX10_choose_16 : decode cX10_choose 16 = .ok (.istore 4, 2) := by decide +kernel
theorem dX10_choose_18 : decode cX10_choose 18 = .ok (.iconst 0, 1) := by decide +kernel
theorem dX10_choose_19 : decode cX10_choose 19 = .ok (.istore 5, 2) := by decide +kernel
theorem dX10_choose_21 : decode cX10_choose 21 = .ok (.iload 5, 2) := by decide +kernel
theorem dX10_choose_23 : decode cX10_choose 23 = .ok (.sipush 4096, 3) := by decide +kernel
theorem dX10_choose_26 : decode cX10_choose 26 = .ok (.if_icmp .ge 84, 3) := by decide +kernel
theorem dX10_choose_29 : decode cX10_choose 29 = .ok (.iload 4, 2) := by decide +kernel
theorem dX10_choose_31 : decode cX10_choose 31 = .ok (.iload_n 3, 1) := by decide +kernel
theorem dX10_choose_32 : decode cX10_choose 32 = .ok (.if_icmp .ge 78, 3) := by decide +kernel
theorem dX10_choose_35 : decode cX10_choose 35 = .ok (.aload_n 0, 1) := by decide +kernel
theorem dX10_choose_36 : decode cX10_choose 36 = .ok (.getfield 30, 3) := by decide +kernel
theorem dX10_choose_39 : decode cX10_choose 39 = .ok (.iload 5, 2) := by decide +kernel
theorem dX10_choose_41 : decode cX10_choose 41 = .ok (.invokevirtual 81, 3) := by decide +kernel
theorem dX10_choose_44 : decode cX10_choose 44 = .ok (.ifCond .eq 14, 3) := by decide +kernel
theorem dX10_choose_47 : decode cX10_choose 47 = .ok (.aload_n 1, 1) := by decide +kernel
theorem dX10_choose_48 : decode cX10_choose 48 = .ok (.iload 5, 2) := by decide +kernel
theorem dX10_choose_50 : decode cX10_choose 50 = .ok (.invokevirtual 85, 3) := by decide +kernel
theorem dX10_choose_53 : decode cX10_choose 53 = .ok (.iload_n 2, 1) := by decide +kernel
theorem dX10_choose_54 : decode cX10_choose 54 = .ok (.iand, 1) := by decide +kernel
theorem dX10_choose_55 : decode cX10_choose 55 = .ok (.goto 4, 3) := by decide +kernel
theorem dX10_choose_58 : decode cX10_choose 58 = .ok (.iconst 0, 1) := by decide +kernel
theorem dX10_choose_59 : decode cX10_choose 59 = .ok (.istore 6, 2) := by decide +kernel
theorem dX10_choose_61 : decode cX10_choose 61 = .ok (.iload 6, 2) := by decide +kernel
theorem dX10_choose_63 : decode cX10_choose 63 = .ok (.ifCond .eq 41, 3) := by decide +kernel
theorem dX10_choose_66 : decode cX10_choose 66 = .ok (.aload_n 0, 1) := by decide +kernel
theorem dX10_choose_67 : decode cX10_choose 67 = .ok (.iload_n 2, 1) := by decide +kernel
theorem dX10_choose_68 : decode cX10_choose 68 = .ok (.iload 6, 2) := by decide +kernel
theorem dX10_choose_70 : decode cX10_choose 70 = .ok (.iconst (-1), 1) := by decide +kernel
theorem dX10_choose_71 : decode cX10_choose 71 = .ok (.ixor, 1) := by decide +kernel
theorem dX10_choose_72 : decode cX10_choose 72 = .ok (.iand, 1) := by decide +kernel
theorem dX10_choose_73 : decode cX10_choose 73 = .ok (.invokevirtual 77, 3) := by decide +kernel
theorem dX10_choose_76 : decode cX10_choose 76 = .ok (.iload_n 3, 1) := by decide +kernel
theorem dX10_choose_77 : decode cX10_choose 77 = .ok (.iload 4, 2) := by decide +kernel
theorem dX10_choose_79 : decode cX10_choose 79 = .ok (.isub, 1) := by decide +kernel
theorem dX10_choose_80 : decode cX10_choose 80 = .ok (.iconst 1, 1) := by decide +kernel
theorem dX10_choose_81 : decode cX10_choose 81 = .ok (.isub, 1) := by decide +kernel
theorem dX10_choose_82 : decode cX10_choose 82 = .ok (.if_icmp .ne 22, 3) := by decide +kernel
theorem dX10_choose_85 : decode cX10_choose 85 = .ok (.aload_n 0, 1) := by decide +kernel
theorem dX10_choose_86 : decode cX10_choose 86 = .ok (.getfield 9, 3) := by decide +kernel
theorem dX10_choose_89 : decode cX10_choose 89 = .ok (.iload 4, 2) := by decide +kernel
theorem dX10_choose_91 : decode cX10_choose 91 = .ok (.iload 5, 2) := by decide +kernel
theorem dX10_choose_93 : decode cX10_choose 93 = .ok (.iastore, 1) := by decide +kernel
theorem dX10_choose_94 : decode cX10_choose 94 = .ok (.iinc 4 1, 3) := by decide +kernel
theorem dX10_choose_97 : decode cX10_choose 97 = .ok (.iload_n 2, 1) := by decide +kernel
theorem dX10_choose_98 : decode cX10_choose 98 = .ok (.iload 6, 2) := by decide +kernel
theorem dX10_choose_100 : decode cX10_choose 100 = .ok (.iconst (-1), 1) := by decide +kernel
theorem dX10_choose_101 : decode cX10_choose 101 = .ok (.ixor, 1) := by decide +kernel
theorem dX10_choose_102 : decode cX10_choose 102 = .ok (.iand, 1) := by decide +kernel
theorem dX10_choose_103 : decode cX10_choose 103 = .ok (.istore_n 2, 1) := by decide +kernel
theorem dX10_choose_104 : decode cX10_choose 104 = .ok (.iinc 5 1, 3) := by decide +kernel
theorem dX10_choose_107 : decode cX10_choose 107 = .ok (.goto (-86), 3) := by decide +kernel
theorem dX10_choose_110 : decode cX10_choose 110 = .ok (.iload 4, 2) := by decide +kernel
theorem dX10_choose_112 : decode cX10_choose 112 = .ok (.ireturn, 1) := by decide +kernel
theorem dX10_fewestSorts_0 : decode cX10_fewestSorts 0 = .ok (.iload_n 1, 1) := by decide +kernel
theorem dX10_fewestSorts_1 : decode cX10_fewestSorts 1 = .ok (.ifCond .ne 5, 3) := by decide +kernel
theorem dX10_fewestSorts_4 : decode cX10_fewestSorts 4 = .ok (.iconst 0, 1) := by decide +kernel
theorem dX10_fewestSorts_5 : decode cX10_fewestSorts 5 = .ok (.ireturn, 1) := by decide +kernel
theorem dX10_fewestSorts_6 : decode cX10_fewestSorts 6 = .ok (.aload_n 0, 1) := by decide +kernel
theorem dX10_fewestSorts_7 : decode cX10_fewestSorts 7 = .ok (.getfield 18, 3) := by decide +kernel
theorem dX10_fewestSorts_10 : decode cX10_fewestSorts 10 = .ok (.iload_n 1, 1) := by decide +kernel
theorem dX10_fewestSorts_11 : decode cX10_fewestSorts 11 = .ok (.baload, 1) := by decide +kernel
theorem dX10_fewestSorts_12 : decode cX10_fewestSorts 12 = .ok (.ifCond .eq 10, 3) := by decide +kernel
theorem dX10_fewestSorts_15 : decode cX10_fewestSorts 15 = .ok (.aload_n 0, 1) := by decide +kernel
theorem dX10_fewestSorts_16 : decode cX10_fewestSorts 16 = .ok (.getfield 18, 3) := by decide +kernel
theorem dX10_fewestSorts_19 : decode cX10_fewestSorts 19 = .ok (.iload_n 1, 1) := by decide +kernel
theorem dX10_fewestSorts_20 : decode cX10_fewestSorts 20 = .ok (.baload, 1) := by decide +kernel
theorem dX10_fewestSorts_21 : decode cX10_fewestSorts 21 = .ok (.ireturn, 1) := by decide +kernel
theorem dX10_fewestSorts_22 : decode cX10_fewestSorts 22 = .ok (.iconst 0, 1) := by decide +kernel
theorem dX10_fewestSorts_23 : decode cX10_fewestSorts 23 = .ok (.istore_n 2, 1) := by decide +kernel
theorem dX10_fewestSorts_24 : decode cX10_fewestSorts 24 = .ok (.iload_n 2, 1) := by decide +kernel
theorem dX10_fewestSorts_25 : decode cX10_fewestSorts 25 = .ok (.bipush 11, 2) := by decide +kernel
theorem dX10_fewestSorts_27 : decode cX10_fewestSorts 27 = .ok (.if_icmp .ge 17, 3) := by decide +kernel
theorem dX10_fewestSorts_30 : decode cX10_fewestSorts 30 = .ok (.iload_n 1, 1) := by decide +kernel
theorem dX10_fewestSorts_31 : decode cX10_fewestSorts 31 = .ok (.iload_n 2, 1) := by decide +kernel
theorem dX10_fewestSorts_32 : decode cX10_fewestSorts 32 = .ok (.ishr, 1) := by decide +kernel
theorem dX10_fewestSorts_33 : decode cX10_fewestSorts 33 = .ok (.iconst 1, 1) := by decide +kernel
theorem dX10_fewestSorts_34 : decode cX10_fewestSorts 34 = .ok (.iand, 1) := by decide +kernel
theorem dX10_fewestSorts_35 : decode cX10_fewestSorts 35 = .ok (.ifCond .ne 9, 3) := by decide +kernel
theorem dX10_fewestSorts_38 : decode cX10_fewestSorts 38 = .ok (.iinc 2 1, 3) := by decide +kernel
theorem dX10_fewestSorts_41 : decode cX10_fewestSorts 41 = .ok (.goto (-17), 3) := by decide +kernel
theorem dX10_fewestSorts_44 : decode cX10_fewestSorts 44 = .ok (.iload_n 1, 1) := by decide +kernel
theorem dX10_fewestSorts_45 : decode cX10_fewestSorts 45 = .ok (.iconst 1, 1) := by decide +kernel
theorem dX10_fewestSorts_46 : decode cX10_fewestSorts 46 = .ok (.iload_n 2, 1) := by decide +kernel
theorem dX10_fewestSorts_47 : decode cX10_fewestSorts 47 = .ok (.ishl, 1) := by decide +kernel
theorem dX10_fewestSorts_48 : decode cX10_fewestSorts 48 = .ok (.iconst (-1), 1) := by decide +kernel
theorem dX10_fewestSorts_49 : decode cX10_fewestSorts 49 = .ok (.ixor, 1) := by decide +kernel
theorem dX10_fewestSorts_50 : decode cX10_fewestSorts 50 = .ok (.iand, 1) := by decide +kernel
theorem dX10_fewestSorts_51 : decode cX10_fewestSorts 51 = .ok (.istore_n 3, 1) := by decide +kernel
theorem dX10_fewestSorts_52 : decode cX10_fewestSorts 52 = .ok (.iload_n 3, 1) := by decide +kernel
theorem dX10_fewestSorts_53 : decode cX10_fewestSorts 53 = .ok (.aload_n 0, 1) := by decide +kernel
theorem dX10_fewestSorts_54 : decode cX10_fewestSorts 54 = .ok (.getfield 15, 3) := by decide +kernel
theorem dX10_fewestSorts_57 : decode cX10_fewestSorts 57 = .ok (.iload_n 2, 1) := by decide +kernel
theorem dX10_fewestSorts_58 : decode cX10_fewestSorts 58 = .ok (.iaload, 1) := by decide +kernel
theorem dX10_fewestSorts_59 : decode cX10_fewestSorts 59 = .ok (.iconst (-1), 1) := by decide +kernel
theorem dX10_fewestSorts_60 : decode cX10_fewestSorts 60 = .ok (.ixor, 1) := by decide +kernel
theorem dX10_fewestSorts_61 : decode cX10_fewestSorts 61 = .ok (.iand, 1) := by decide +kernel
theorem dX10_fewestSorts_62 : decode cX10_fewestSorts 62 = .ok (.istore 4, 2) := by decide +kernel
theorem dX10_fewestSorts_64 : decode cX10_fewestSorts 64 = .ok (.aload_n 0, 1) := by decide +kernel
theorem dX10_fewestSorts_65 : decode cX10_fewestSorts 65 = .ok (.iload_n 1, 1) := by decide +kernel
theorem dX10_fewestSorts_66 : decode cX10_fewestSorts 66 = .ok (.invokevirtual 88, 3) := by decide +kernel
theorem dX10_fewestSorts_69 : decode cX10_fewestSorts 69 = .ok (.ifCond .eq 7, 3) := by decide +kernel
theorem dX10_fewestSorts_72 : decode cX10_fewestSorts 72 = .ok (.iconst 1, 1) := by decide +kernel
theorem dX10_fewestSorts_73 : decode cX10_fewestSorts 73 = .ok (.goto 10, 3) := by decide +kernel
theorem dX10_fewestSorts_76 : decode cX10_fewestSorts 76 = .ok (.iconst 1, 1) := by decide +kernel
theorem dX10_fewestSorts_77 : decode cX10_fewestSorts 77 = .ok (.aload_n 0, 1) := by decide +kernel
theorem dX10_fewestSorts_78 : decode cX10_fewestSorts 78 = .ok (.iload_n 3, 1) := by decide +kernel
theorem dX10_fewestSorts_79 : decode cX10_fewestSorts 79 = .ok (.invokevirtual 77, 3) := by decide +kernel
theorem dX10_fewestSorts_82 : decode cX10_fewestSorts 82 = .ok (.iadd, 1) := by decide +kernel
theorem dX10_fewestSorts_83 : decode cX10_fewestSorts 83 = .ok (.istore 5, 2) := by decide +kernel
theorem dX10_fewestSorts_85 : decode cX10_fewestSorts 85 = .ok (.iload 4, 2) := by decide +kernel
theorem dX10_fewestSorts_87 : decode cX10_fewestSorts 87 = .ok (.istore 6, 2) := by decide +kernel
theorem dX10_fewestSorts_89 : decode cX10_fewestSorts 89 = .ok (.iload 6, 2) := by decide +kernel
theorem dX10_fewestSorts_91 : decode cX10_fewestSorts 91 = .ok (.ifCond .le 49, 3) := by decide +kernel
theorem dX10_fewestSorts_94 : decode cX10_fewestSorts 94 = .ok (.iload 5, 2) := by decide +kernel
theorem dX10_fewestSorts_96 : decode cX10_fewestSorts 96 = .ok (.iconst 2, 1) := by decide +kernel
theorem dX10_fewestSorts_97 : decode cX10_fewestSorts 97 = .ok (.if_icmp .le 43, 3) := by decide +kernel
theorem dX10_fewestSorts_100 : decode cX10_fewestSorts 100 = .ok (.aload_n 0, 1) := by decide +kernel
theorem dX10_fewestSorts_101 : decode cX10_fewestSorts 101 = .ok (.iload 6, 2) := by decide +kernel
theorem dX10_fewestSorts_103 : decode cX10_fewestSorts 103 = .ok (.invokevirtual 88, 3) := by decide +kernel
theorem dX10_fewestSorts_106 : decode cX10_fewestSorts 106 = .ok (.ifCond .eq 22, 3) := by decide +kernel
theorem dX10_fewestSorts_109 : decode cX10_fewestSorts 109 = .ok (.iload 5, 2) := by decide +kernel
theorem dX10_fewestSorts_111 : decode cX10_fewestSorts 111 = .ok (.iconst 1, 1) := by decide +kernel
theorem dX10_fewestSorts_112 : decode cX10_fewestSorts 112 = .ok (.aload_n 0, 1) := by decide +kernel
theorem dX10_fewestSorts_113 : decode cX10_fewestSorts 113 = .ok (.iload_n 3, 1) := by decide +kernel
theorem dX10_fewestSorts_114 : decode cX10_fewestSorts 114 = .ok (.iload 6, 2) := by decide +kernel
theorem dX10_fewestSorts_116 : decode cX10_fewestSorts 116 = .ok (.iconst (-1), 1) := by decide +kernel
theorem dX10_fewestSorts_117 : decode cX10_fewestSorts 117 = .ok (.ixor, 1) := by decide +kernel
theorem dX10_fewestSorts_118 : decode cX10_fewestSorts 118 = .ok (.iand, 1) := by decide +kernel
theorem dX10_fewestSorts_119 : decode cX10_fewestSorts 119 = .ok (.invokevirtual 77, 3) := by decide +kernel
theorem dX10_fewestSorts_122 : decode cX10_fewestSorts 122 = .ok (.iadd, 1) := by decide +kernel
theorem dX10_fewestSorts_123 : decode cX10_fewestSorts 123 = .ok (.invokestatic 91, 3) := by decide +kernel
theorem dX10_fewestSorts_126 : decode cX10_fewestSorts 126 = .ok (.istore 5, 2) := by decide +kernel
theorem dX10_fewestSorts_128 : decode cX10_fewestSorts 128 = .ok (.iload 6, 2) := by decide +kernel
theorem dX10_fewestSorts_130 : decode cX10_fewestSorts 130 = .ok (.iconst 1, 1) := by decide +kernel
theorem dX10_fewestSorts_131 : decode cX10_fewestSorts 131 = .ok (.isub, 1) := by decide +kernel
theorem dX10_fewestSorts_132 : decode cX10_fewestSorts 132 = .ok (.iload 4, 2) := by decide +kernel
theorem dX10_fewestSorts_134 : decode cX10_fewestSorts 134 = .ok (.iand, 1) := by decide +kernel
theorem dX10_fewestSorts_135 : decode cX10_fewestSorts 135 = .ok (.istore 6, 2) := by decide +kernel
theorem dX10_fewestSorts_137 : decode cX10_fewestSorts 137 = .ok (.goto (-48), 3) := by decide +kernel
theorem dX10_fewestSorts_140 : decode cX10_fewestSorts 140 = .ok (.aload_n 0, 1) := by decide +kernel
theorem dX10_fewestSorts_141 : decode cX10_fewestSorts 141 = .ok (.getfield 18, 3) := by decide +kernel
theorem dX10_fewestSorts_144 : decode cX10_fewestSorts 144 = .ok (.iload_n 1, 1) := by decide +kernel
theorem dX10_fewestSorts_145 : decode cX10_fewestSorts 145 = .ok (.iload 5, 2) := by decide +kernel
theorem dX10_fewestSorts_147 : decode cX10_fewestSorts 147 = .ok (.i2b, 1) := by decide +kernel
theorem dX10_fewestSorts_148 : decode cX10_fewestSorts 148 = .ok (.bastore, 1) := by decide +kernel
theorem dX10_fewestSorts_149 : decode cX10_fewestSorts 149 = .ok (.iload 5, 2) := by decide +kernel
theorem dX10_fewestSorts_151 : decode cX10_fewestSorts 151 = .ok (.ireturn, 1) := by decide +kernel
theorem dX10_canAllShare_0 : decode cX10_canAllShare 0 = .ok (.iconst 0, 1) := by decide +kernel
theorem dX10_canAllShare_1 : decode cX10_canAllShare 1 = .ok (.istore_n 2, 1) := by decide +kernel
theorem dX10_canAllShare_2 : decode cX10_canAllShare 2 = .ok (.iload_n 2, 1) := by decide +kernel
theorem dX10_canAllShare_3 : decode cX10_canAllShare 3 = .ok (.bipush 12, 2) := by decide +kernel
