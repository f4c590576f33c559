theorem dX3_change_0 : decode cX3_change 0 = .ok (.iconst 0, 1) := by decide +kernel
theorem dX3_change_1 : decode cX3_change 1 = .ok (.istore 4, 2) := by decide +kernel
theorem dX3_change_3 : decode cX3_change 3 = .ok (.iload 4, 2) := by decide +kernel
theorem dX3_change_5 : decode cX3_change 5 = .ok (.aload_n 1, 1) := by decide +kernel
theorem dX3_change_6 : decode cX3_change 6 = .ok (.getfield 19, 3) := by decide +kernel
theorem dX3_change_9 : decode cX3_change 9 = .ok (.if_icmp .ge 53, 3) := by decide +kernel
theorem dX3_change_12 : decode cX3_change 12 = .ok (.iload_n 2, 1) := by decide +kernel
theorem dX3_change_13 : decode cX3_change 13 = .ok (.iload 4, 2) := by decide +kernel
theorem dX3_change_15 : decode cX3_change 15 = .ok (.iushr, 1) := by decide +kernel
theorem dX3_change_16 : decode cX3_change 16 = .ok (.iconst 1, 1) := by decide +kernel
theorem dX3_change_17 : decode cX3_change 17 = .ok (.iand, 1) := by decide +kernel
theorem dX3_change_18 : decode cX3_change 18 = .ok (.ifCond .ne 6, 3) := by decide +kernel
theorem dX3_change_21 : decode cX3_change 21 = .ok (.goto 35, 3) := by decide +kernel
theorem dX3_change_24 : decode cX3_change 24 = .ok (.aload_n 0, 1) := by decide +kernel
theorem dX3_change_25 : decode cX3_change 25 = .ok (.getfield 9, 3) := by decide +kernel
theorem dX3_change_28 : decode cX3_change 28 = .ok (.aload_n 1, 1) := by decide +kernel
theorem dX3_change_29 : decode cX3_change 29 = .ok (.getfield 78, 3) := by decide +kernel
theorem dX3_change_32 : decode cX3_change 32 = .ok (.iload 4, 2) := by decide +kernel
theorem dX3_change_34 : decode cX3_change 34 = .ok (.iaload, 1) := by decide +kernel
theorem dX3_change_35 : decode cX3_change 35 = .ok (.iload_n 3, 1) := by decide +kernel
theorem dX3_change_36 : decode cX3_change 36 = .ok (.iload 4, 2) := by decide +kernel
theorem dX3_change_38 : decode cX3_change 38 = .ok (.iushr, 1) := by decide +kernel
theorem dX3_change_39 : decode cX3_change 39 = .ok (.iconst 1, 1) := by decide +kernel
theorem dX3_change_40 : decode cX3_change 40 = .ok (.iand, 1) := by decide +kernel
theorem dX3_change_41 : decode cX3_change 41 = .ok (.ifCond .eq 11, 3) := by decide +kernel
theorem dX3_change_44 : decode cX3_change 44 = .ok (.bipush 10, 2) := by decide +kernel
theorem dX3_change_46 : decode cX3_change 46 = .ok (.iload 4, 2) := by decide +kernel
theorem dX3_change_48 : decode cX3_change 48 = .ok (.iadd, 1) := by decide +kernel
theorem dX3_change_49 : decode cX3_change 49 = .ok (.goto 4, 3) := by decide +kernel
theorem dX3_change_52 : decode cX3_change 52 = .ok (.iconst 0, 1) := by decide +kernel
theorem dX3_change_53 : decode cX3_change 53 = .ok (.invokevirtual 81, 3) := by decide +kernel
theorem dX3_change_56 : decode cX3_change 56 = .ok (.iinc 4 1, 3) := by decide +kernel
theorem dX3_change_59 : decode cX3_change 59 = .ok (.goto (-56), 3) := by decide +kernel
theorem dX3_change_62 : decode cX3_change 62 = .ok (.return_, 1) := by decide +kernel
theorem dX3_differences_0 : decode cX3_differences 0 = .ok (.iconst 0, 1) := by decide +kernel
theorem dX3_differences_1 : decode cX3_differences 1 = .ok (.istore_n 3, 1) := by decide +kernel
theorem dX3_differences_2 : decode cX3_differences 2 = .ok (.iconst 0, 1) := by decide +kernel
theorem dX3_differences_3 : decode cX3_differences 3 = .ok (.istore 4, 2) := by decide +kernel
theorem dX3_differences_5 : decode cX3_differences 5 = .ok (.iload 4, 2) := by decide +kernel
theorem dX3_differences_7 : decode cX3_differences 7 = .ok (.aload_n 0, 1) := by decide +kernel
theorem dX3_differences_8 : decode cX3_differences 8 = .ok (.getfield 9, 3) := by decide +kernel
theorem dX3_differences_11 : decode cX3_differences 11 = .ok (.getfield 85, 3) := by decide +kernel
theorem dX3_differences_14 : decode cX3_differences 14 = .ok (.getfield 89, 3) := by decide +kernel
theorem dX3_differences_17 : decode cX3_differences 17 = .ok (.if_icmp .ge 47, 3) := by decide +kernel
theorem dX3_differences_20 : decode cX3_differences 20 = .ok (.aload_n 2, 1) := by decide +kernel
theorem dX3_differences_21 : decode cX3_differences 21 = .ok (.getfield 92, 3) := by decide +kernel
theorem dX3_differences_24 : decode cX3_differences 24 = .ok (.iload 4, 2) := by decide +kernel
theorem dX3_differences_26 : decode cX3_differences 26 = .ok (.iaload, 1) := by decide +kernel
theorem dX3_differences_27 : decode cX3_differences 27 = .ok (.iconst (-1), 1) := by decide +kernel
theorem dX3_differences_28 : decode cX3_differences 28 = .ok (.if_icmp .ne 6, 3) := by decide +kernel
theorem dX3_differences_31 : decode cX3_differences 31 = .ok (.goto 27, 3) := by decide +kernel
theorem dX3_differences_34 : decode cX3_differences 34 = .ok (.iload_n 3, 1) := by decide +kernel
theorem dX3_differences_35 : decode cX3_differences 35 = .ok (.aload_n 2, 1) := by decide +kernel
theorem dX3_differences_36 : decode cX3_differences 36 = .ok (.getfield 92, 3) := by decide +kernel
theorem dX3_differences_39 : decode cX3_differences 39 = .ok (.iload 4, 2) := by decide +kernel
theorem dX3_differences_41 : decode cX3_differences 41 = .ok (.iaload, 1) := by decide +kernel
theorem dX3_differences_42 : decode cX3_differences 42 = .ok (.aload_n 0, 1) := by decide +kernel
theorem dX3_differences_43 : decode cX3_differences 43 = .ok (.getfield 9, 3) := by decide +kernel
theorem dX3_differences_46 : decode cX3_differences 46 = .ok (.iload 4, 2) := by decide +kernel
theorem dX3_differences_48 : decode cX3_differences 48 = .ok (.aload_n 1, 1) := by decide +kernel
theorem dX3_differences_49 : decode cX3_differences 49 = .ok (.invokevirtual 95, 3) := by decide +kernel
theorem dX3_differences_52 : decode cX3_differences 52 = .ok (.isub, 1) := by decide +kernel
theorem dX3_differences_53 : decode cX3_differences 53 = .ok (.invokestatic 99, 3) := by decide +kernel
theorem dX3_differences_56 : decode cX3_differences 56 = .ok (.iadd, 1) := by decide +kernel
theorem dX3_differences_57 : decode cX3_differences 57 = .ok (.istore_n 3, 1) := by decide +kernel
theorem dX3_differences_58 : decode cX3_differences 58 = .ok (.iinc 4 1, 3) := by decide +kernel
theorem dX3_differences_61 : decode cX3_differences 61 = .ok (.goto (-56), 3) := by decide +kernel
theorem dX3_differences_64 : decode cX3_differences 64 = .ok (.iload_n 3, 1) := by decide +kernel
theorem dX3_differences_65 : decode cX3_differences 65 = .ok (.ireturn, 1) := by decide +kernel
theorem dX3_noteCounts_0 : decode cX3_noteCounts 0 = .ok (.iconst 0, 1) := by decide +kernel
theorem dX3_noteCounts_1 : decode cX3_noteCounts 1 = .ok (.istore_n 2, 1) := by decide +kernel
theorem dX3_noteCounts_2 : decode cX3_noteCounts 2 = .ok (.iload_n 2, 1) := by decide +kernel
theorem dX3_noteCounts_3 : decode cX3_noteCounts 3 = .ok (.aload_n 0, 1) := by decide +kernel
theorem dX3_noteCounts_4 : decode cX3_noteCounts 4 = .ok (.getfield 9, 3) := by decide +kernel
theorem dX3_noteCounts_7 : decode cX3_noteCounts 7 = .ok (.getfield 85, 3) := by decide +kernel
theorem dX3_noteCounts_10 : decode cX3_noteCounts 10 = .ok (.getfield 89, 3) := by decide +kernel
theorem dX3_noteCounts_13 : decode cX3_noteCounts 13 = .ok (.if_icmp .ge 40, 3) := by decide +kernel
theorem dX3_noteCounts_16 : decode cX3_noteCounts 16 = .ok (.aload_n 0, 1) := by decide +kernel
theorem dX3_noteCounts_17 : decode cX3_noteCounts 17 = .ok (.getfield 9, 3) := by decide +kernel
theorem dX3_noteCounts_20 : decode cX3_noteCounts 20 = .ok (.iload_n 2, 1) := by decide +kernel
theorem dX3_noteCounts_21 : decode cX3_noteCounts 21 = .ok (.aload_n 1, 1) := by decide +kernel
theorem dX3_noteCounts_22 : decode cX3_noteCounts 22 = .ok (.invokevirtual 95, 3) := by decide +kernel
theorem dX3_noteCounts_25 : decode cX3_noteCounts 25 = .ok (.istore_n 3, 1) := by decide +kernel
theorem dX3_noteCounts_26 : decode cX3_noteCounts 26 = .ok (.iload_n 3, 1) := by decide +kernel
theorem dX3_noteCounts_27 : decode cX3_noteCounts 27 = .ok (.bipush 10, 2) := by decide +kernel
theorem dX3_noteCounts_29 : decode cX3_noteCounts 29 = .ok (.if_icmp .ge 18, 3) := by decide +kernel
theorem dX3_noteCounts_32 : decode cX3_noteCounts 32 = .ok (.aload_n 0, 1) := by decide +kernel
theorem dX3_noteCounts_33 : decode cX3_noteCounts 33 = .ok (.getfield 15, 3) := by decide +kernel
theorem dX3_noteCounts_36 : decode cX3_noteCounts 36 = .ok (.bipush 10, 2) := by decide +kernel
theorem dX3_noteCounts_38 : decode cX3_noteCounts 38 = .ok (.iload_n 2, 1) := by decide +kernel
theorem dX3_noteCounts_39 : decode cX3_noteCounts 39 = .ok (.imul, 1) := by decide +kernel
theorem dX3_noteCounts_40 : decode cX3_noteCounts 40 = .ok (.iload_n 3, 1) := by decide +kernel
theorem dX3_noteCounts_41 : decode cX3_noteCounts 41 = .ok (.iadd, 1) := by decide +kernel
theorem dX3_noteCounts_42 : decode cX3_noteCounts 42 = .ok (.dup2, 1) := by decide +kernel
theorem dX3_noteCounts_43 : decode cX3_noteCounts 43 = .ok (.iaload, 1) := by decide +kernel
theorem dX3_noteCounts_44 : decode cX3_noteCounts 44 = .ok (.iconst 1, 1) := by decide +kernel
theorem dX3_noteCounts_45 : decode cX3_noteCounts 45 = .ok (.iadd, 1) := by decide +kernel
theorem dX3_noteCounts_46 : decode cX3_noteCounts 46 = .ok (.iastore, 1) := by decide +kernel
theorem dX3_noteCounts_47 : decode cX3_noteCounts 47 = .ok (.iinc 2 1, 3) := by decide +kernel
theorem dX3_noteCounts_50 : decode cX3_noteCounts 50 = .ok (.goto (-48), 3) := by decide +kernel
theorem dX3_noteCounts_53 : decode cX3_noteCounts 53 = .ok (.return_, 1) := by decide +kernel
theorem dX3_measure_0 : decode cX3_measure 0 = .ok (.iconst 1, 1) := by decide +kernel
theorem dX3_measure_1 : decode cX3_measure 1 = .ok (.aload_n 1, 1) := by decide +kernel
theorem dX3_measure_2 : decode cX3_measure 2 = .ok (.getfield 19, 3) := by decide +kernel
theorem dX3_measure_5 : decode cX3_measure 5 = .ok (.ishl, 1) := by decide +kernel
theorem dX3_measure_6 : decode cX3_measure 6 = .ok (.iconst 1, 1) := by decide +kernel
theorem dX3_measure_7 : decode cX3_measure 7 = .ok (.isub, 1) := by decide +kernel
theorem dX3_measure_8 : decode cX3_measure 8 = .ok (.istore 5, 2) := by decide +kernel
theorem dX3_measure_10 : decode cX3_measure 10 = .ok (.aload_n 0, 1) := by decide +kernel
theorem dX3_measure_11 : decode cX3_measure 11 = .ok (.getfield 9, 3) := by decide +kernel
theorem dX3_measure_14 : decode cX3_measure 14 = .ok (.aload_n 1, 1) := by decide +kernel
theorem dX3_measure_15 : decode cX3_measure 15 = .ok (.invokevirtual 25, 3) := by decide +kernel
theorem dX3_measure_18 : decode cX3_measure 18 = .ok (.aload_n 0, 1) := by decide +kernel
theorem dX3_measure_19 : decode cX3_measure 19 = .ok (.iconst 0, 1) := by decide +kernel
theorem dX3_measure_20 : decode cX3_measure 20 = .ok (.putfield 31, 3) := by decide +kernel
theorem dX3_measure_23 : decode cX3_measure 23 = .ok (.aload_n 0, 1) := by decide +kernel
theorem dX3_measure_24 : decode cX3_measure 24 = .ok (.iload 5, 2) := by decide +kernel
theorem dX3_measure_26 : decode cX3_measure 26 = .ok (.putfield 34, 3) := by decide +kernel
theorem dX3_measure_29 : decode cX3_measure 29 = .ok (.aload_n 0, 1) := by decide +kernel
theorem dX3_measure_30 : decode cX3_measure 30 = .ok (.iload 5, 2) := by decide +kernel
theorem dX3_measure_32 : decode cX3_measure 32 = .ok (.putfield 37, 3) := by decide +kernel
theorem dX3_measure_35 : decode cX3_measure 35 = .ok (.aload_n 0, 1) := by decide +kernel
theorem dX3_measure_36 : decode cX3_measure 36 = .ok (.iconst (-1), 1) := by decide +kernel
theorem dX3_measure_37 : decode cX3_measure 37 = .ok (.putfield 40, 3) := by decide +kernel
theorem dX3_measure_40 : decode cX3_measure 40 = .ok (.aload_n 0, 1) := by decide +kernel
theorem dX3_measure_41 : decode cX3_measure 41 = .ok (.bipush (-2), 2) := by decide +kernel
theorem dX3_measure_43 : decode cX3_measure 43 = .ok (.putfield 43, 3) := by decide +kernel
theorem dX3_measure_46 : decode cX3_measure 46 = .ok (.aload_n 0, 1) := by decide +kernel
theorem dX3_measure_47 : decode cX3_measure 47 = .ok (.getfield 15, 3) := by decide +kernel
theorem dX3_measure_50 : decode cX3_measure 50 = .ok (.iconst 0, 1) := by decide +kernel
theorem dX3_measure_51 : decode cX3_measure 51 = .ok (.invokestatic 46, 3) := by decide +kernel
theorem dX3_measure_54 : decode cX3_measure 54 = .ok (.iload 5, 2) := by decide +kernel
theorem dX3_measure_56 : decode cX3_measure 56 = .ok (.istore 6, 2) := by decide +kernel
theorem dX3_measure_58 : decode cX3_measure 58 = .ok (.iconst 0, 1) := by decide +kernel
theorem dX3_measure_59 : decode cX3_measure 59 = .ok (.istore 7, 2) := by decide +kernel
theorem dX3_measure_61 : decode cX3_measure 61 = .ok (.iload 7, 2) := by decide +kernel
theorem dX3_measure_63 : decode cX3_measure 63 = .ok (.iload 5, 2) := by decide +kernel
theorem dX3_measure_65 : decode cX3_measure 65 = .ok (.if_icmp .gt 134, 3) := by decide +kernel
theorem dX3_measure_68 : decode cX3_measure 68 = .ok (.aload_n 0, 1) := by decide +kernel
theorem dX3_measure_69 : decode cX3_measure 69 = .ok (.aload_n 1, 1) := by decide +kernel
theorem dX3_measure_70 : decode cX3_measure 70 = .ok (.iload 6, 2) := by decide +kernel
theorem dX3_measure_72 : decode cX3_measure 72 = .ok (.iload 7, 2) := by decide +kernel
theorem dX3_measure_74 : decode cX3_measure 74 = .ok (.ixor, 1) := by decide +kernel
theorem dX3_measure_75 : decode cX3_measure 75 = .ok (.iload 7, 2) := by decide +kernel
theorem dX3_measure_77 : decode cX3_measure 77 = .ok (.invokevirtual 52, 3) := by decide +kernel
theorem dX3_measure_80 : decode cX3_measure 80 = .ok (.iload 7, 2) := by decide +kernel
theorem dX3_measure_82 : decode cX3_measure 82 = .ok (.istore 6, 2) := by decide +kernel
theorem dX3_measure_84 : decode cX3_measure 84 = .ok (.aload_n 0, 1) := by decide +kernel
theorem dX3_measure_85 : decode cX3_measure 85 = .ok (.getfield 9, 3) := by decide +kernel
theorem dX3_measure_88 : decode cX3_measure 88 = .ok (.aload_n 2, 1) := by decide +kernel
theorem dX3_measure_89 : decode cX3_measure 89 = .ok (.getfield 56, 3) := by decide +kernel
theorem dX3_measure_92 : decode cX3_measure 92 = .ok (.invokevirtual 61, 3) := by decide +kernel
theorem dX3_measure_95 : decode cX3_measure 95 = .ok (.pop, 1) := by decide +kernel
theorem dX3_measure_96 : decode cX3_measure 96 = .ok (.aload_n 0, 1) := by decide +kernel
theorem dX3_measure_97 : decode cX3_measure 97 = .ok (.aload_n 2, 1) := by decide +kernel
theorem dX3_measure_98 : decode cX3_measure 98 = .ok (.aload_n 3, 1) := by decide +kernel
theorem dX3_measure_99 : decode cX3_measure 99 = .ok (.invokevirtual 65, 3) := by decide +kernel
theorem dX3_measure_102 : decode cX3_measure 102 = .ok (.istore 8, 2) := by decide +kernel
theorem dX3_measure_104 : decode cX3_measure 104 = .ok (.aload_n 0, 1) := by decide +kernel
theorem dX3_measure_105 : decode cX3_measure 105 = .ok (.getfield 40, 3) := by decide +kernel
theorem dX3_measure_108 : decode cX3_measure 108 = .ok (.iconst (-1), 1) := by decide +kernel
theorem dX3_measure_109 : decode cX3_measure 109 = .ok (.if_icmp .eq 12, 3) := by decide +kernel
theorem dX3_measure_112 : decode cX3_measure 112 = .ok (.iload 8, 2) := by decide +kernel
theorem dX3_measure_114 : decode cX3_measure 114 = .ok (.aload_n 0, 1) := by decide +kernel
theorem dX3_measure_115 : decode cX3_measure 115 = .ok (.getfield 40, 3) := by decide +kernel
theorem dX3_measure_118 : decode cX3_measure 118 = .ok (.if_icmp .ge 9, 3) := by decide +kernel
theorem dX3_measure_121 : decode cX3_measure 121 = .ok (.aload_n 0, 1) := by decide +kernel
theorem dX3_measure_122 : decode cX3_measure 122 = .ok (.iload 8, 2) := by decide +kernel
theorem dX3_measure_124 : decode cX3_measure 124 = .ok (.putfield 40, 3) := by decide +kernel
theorem dX3_measure_127 : decode cX3_measure 127 = .ok (.iload 8, 2) := by decide +kernel
theorem dX3_measure_129 : decode cX3_measure 129 = .ok (.aload_n 3, 1) := by decide +kernel
theorem dX3_measure_130 : decode cX3_measure 130 = .ok (.getfield 69, 3) := by decide +kernel
theorem dX3_measure_133 : decode cX3_measure 133 = .ok (.if_icmp .le 6, 3) := by decide +kernel
theorem dX3_measure_136 : decode cX3_measure 136 = .ok (.goto 57, 3) := by decide +kernel
theorem dX3_measure_139 : decode cX3_measure 139 = .ok (.aload_n 0, 1) := by decide +kernel
theorem dX3_measure_140 : decode cX3_measure 140 = .ok (.getfield 31, 3) := by decide +kernel
theorem dX3_measure_143 : decode cX3_measure 143 = .ok (.iload 4, 2) := by decide +kernel
theorem dX3_measure_145 : decode cX3_measure 145 = .ok (.if_icmp .ne 9, 3) := by decide +kernel
theorem dX3_measure_148 : decode cX3_measure 148 = .ok (.aload_n 0, 1) := by decide +kernel
theorem dX3_measure_149 : decode cX3_measure 149 = .ok (.iload 7, 2) := by decide +kernel
theorem dX3_measure_151 : decode cX3_measure 151 = .ok (.putfield 43, 3) := by decide +kernel
theorem dX3_measure_154 : decode cX3_measure 154 = .ok (.aload_n 0, 1) := by decide +kernel
theorem dX3_measure_155 : decode cX3_measure 155 = .ok (.dup, 1) := by decide +kernel
theorem dX3_measure_156 : decode cX3_measure 156 = .ok (.getfield 31, 3) := by decide +kernel
theorem dX3_measure_159 : decode cX3_measure 159 = .ok (.iconst 1, 1) := by decide +kernel
theorem dX3_measure_160 : decode cX3_measure 160 = .ok (.iadd, 1) := by decide +kernel
theorem dX3_measure_161 : decode cX3_measure 161 = .ok (.putfield 31, 3) := by decide +kernel
theorem dX3_measure_164 : decode cX3_measure 164 = .ok (.aload_n 0, 1) := by decide +kernel
theorem dX3_measure_165 : decode cX3_measure 165 = .ok (.dup, 1) := by decide +kernel
theorem dX3_measure_166 : decode cX3_measure 166 = .ok (.getfield 34, 3) := by decide +kernel
theorem dX3_measure_169 : decode cX3_measure 169 = .ok (.iload 7, 2) := by decide +kernel
theorem dX3_measure_171 : decode cX3_measure 171 = .ok (.iand, 1) := by decide +kernel
theorem dX3_measure_172 : decode cX3_measure 172 = .ok (.putfield 34, 3) := by decide +kernel
theorem dX3_measure_175 : decode cX3_measure 175 = .ok (.aload_n 0, 1) := by decide +kernel
theorem dX3_measure_176 : decode cX3_measure 176 = .ok (.dup, 1) := by decide +kernel
theorem dX3_measure_177 : decode cX3_measure 177 = .ok (.getfield 37, 3) := by decide +kernel
theorem dX3_measure_180 : decode cX3_measure 180 = .ok (.iload 7, 2) := by decide +kernel
theorem dX3_measure_182 : decode cX3_measure 182 = .ok (.iconst (-1), 1) := by decide +kernel
theorem dX3_measure_183 : decode cX3_measure 183 = .ok (.ixor, 1) := by decide +kernel
theorem dX3_measure_184 : decode cX3_measure 184 = .ok (.iand, 1) := by decide +kernel
theorem dX3_measure_185 : decode cX3_measure 185 = .ok (.putfield 37, 3) := by decide +kernel
theorem dX3_measure_188 : decode cX3_measure 188 = .ok (.aload_n 0, 1) := by decide +kernel
theorem dX3_measure_189 : decode cX3_measure 189 = .ok (.aload_n 2, 1) := by decide +kernel
theorem dX3_measure_190 : decode cX3_measure 190 = .ok (.invokevirtual 74, 3) := by decide +kernel
theorem dX3_measure_193 : decode cX3_measure 193 = .ok (.iinc 7 1, 3) := by decide +kernel
theorem dX3_measure_196 : decode cX3_measure 196 = .ok (.goto (-135), 3) := by decide +kernel
theorem dX3_measure_199 : decode cX3_measure 199 = .ok (.return_, 1) := by decide +kernel
theorem dX3_nextShine_0 : decode cX3_nextShine 0 = .ok (.iconst (-1), 1) := by decide +kernel
theorem dX3_nextShine_1 : decode cX3_nextShine 1 = .ok (.istore_n 1, 1) := by decide +kernel
theorem dX3_nextShine_2 : decode cX3_nextShine 2 = .ok (.iconst 0, 1) := by decide +kernel
theorem dX3_nextShine_3 : decode cX3_nextShine 3 = .ok (.istore_n 2, 1) := by decide +kernel
theorem dX3_nextShine_4 : decode cX3_nextShine 4 = .ok (.iconst 0, 1) := by decide +kernel
theorem dX3_nextShine_5 : decode cX3_nextShine 5 = .ok (.istore_n 3, 1) := by decide +kernel
theorem dX3_nextShine_6 : decode cX3_nextShine 6 = .ok (.iload_n 3, 1) := by decide +kernel
theorem dX3_nextShine_7 : decode cX3_nextShine 7 = .ok (.aload_n 0, 1) := by decide +kernel
theorem dX3_nextShine_8 : decode cX3_nextShine 8 = .ok (.getfield 9, 3) := by decide +kernel
theorem dX3_nextShine_11 : decode cX3_nextShine 11 = .ok (.getfield 85, 3) := by decide +kernel
theorem dX3_nextShine_14 : decode cX3_nextShine 14 = .ok (.getfield 89, 3) := by decide +kernel
theorem dX3_nextShine_17 : decode cX3_nextShine 17 = .ok (.if_icmp .ge 66, 3) := by decide +kernel
theorem dX3_nextShine_20 : decode cX3_nextShine 20 = .ok (.iconst 0, 1) := by decide +kernel
theorem dX3_nextShine_21 : decode cX3_nextShine 21 = .ok (.istore 4, 2) := by decide +kernel
theorem dX3_nextShine_23 : decode cX3_nextShine 23 = .ok (.iconst 0, 1) := by decide +kernel
theorem dX3_nextShine_24 : decode cX3_nextShine 24 = .ok (.istore 5, 2) := by decide +kernel
theorem dX3_nextShine_26 : decode cX3_nextShine 26 = .ok (.iload 5, 2) := by decide +kernel
theorem dX3_nextShine_28 : decode cX3_nextShine 28 = .ok (.bipush 10, 2) := by decide +kernel
theorem dX3_nextShine_30 : decode cX3_nextShine 30 = .ok (.if_icmp .ge 28, 3) := by decide +kernel
theorem dX3_nextShine_33 : decode cX3_nextShine 33 = .ok (.iload 4, 2) := by decide +kernel
theorem dX3_nextShine_35 : decode cX3_nextShine 35 = .ok (.aload_n 0, 1) := by decide +kernel
theorem dX3_nextShine_36 : decode cX3_nextShine 36 = .ok (.getfield 15, 3) := by decide +kernel
theorem dX3_nextShine_39 : decode cX3_nextShine 39 = .ok (.bipush 10, 2) := by decide +kernel
theorem dX3_nextShine_41 : decode cX3_nextShine 41 = .ok (.iload_n 3, 1) := by decide +kernel
theorem dX3_nextShine_42 : decode cX3_nextShine 42 = .ok (.imul, 1) := by decide +kernel
theorem dX3_nextShine_43 : decode cX3_nextShine 43 = .ok (.iload 5, 2) := by decide +kernel
theorem dX3_nextShine_45 : decode cX3_nextShine 45 = .ok (.iadd, 1) := by decide +kernel
theorem dX3_nextShine_46 : decode cX3_nextShine 46 = .ok (.iaload, 1) := by decide +kernel
theorem dX3_nextShine_47 : decode cX3_nextShine 47 = .ok (.invokestatic 104, 3) := by decide +kernel
theorem dX3_nextShine_50 : decode cX3_nextShine 50 = .ok (.istore 4, 2) := by decide +kernel
theorem dX3_nextShine_52 : decode cX3_nextShine 52 = .ok (.iinc 5 1, 3) := by decide +kernel
theorem dX3_nextShine_55 : decode cX3_nextShine 55 = .ok (.goto (-29), 3) := by decide +kernel
theorem dX3_nextShine_58 : decode cX3_nextShine 58 = .ok (.iload_n 1, 1) := by decide +kernel
theorem dX3_nextShine_59 : decode cX3_nextShine 59 = .ok (.iconst (-1), 1) := by decide +kernel
theorem dX3_nextShine_60 : decode cX3_nextShine 60 = .ok (.if_icmp .eq 12, 3) := by decide +kernel
theorem dX3_nextShine_63 : decode cX3_nextShine 63 = .ok (.iload 4, 2) := by decide +kernel
theorem dX3_nextShine_65 : decode cX3_nextShine 65 = .ok (.iload_n 2, 1) := by decide +kernel
theorem dX3_nextShine_66 : decode cX3_nextShine 66 = .ok (.if_icmp .lt 6, 3) := by decide +kernel
theorem dX3_nextShine_69 : decode cX3_nextShine 69 = .ok (.goto 8, 3) := by decide +kernel
theorem dX3_nextShine_72 : decode cX3_nextShine 72 = .ok (.iload_n 3, 1) := by decide +kernel
theorem dX3_nextShine_73 : decode cX3_nextShine 73 = .ok (.istore_n 1, 1) := by decide +kernel
theorem dX3_nextShine_74 : decode cX3_nextShine 74 = .ok (.iload 4, 2) := by decide +kernel
theorem dX3_nextShine_76 : decode cX3_nextShine 76 = .ok (.istore_n 2, 1) := by decide +kernel
theorem dX3_nextShine_77 : decode cX3_nextShine 77 = .ok (.iinc 3 1, 3) := by decide +kernel
theorem dX3_nextShine_80 : decode cX3_nextShine 80 = .ok (.goto (-74), 3) := by decide +kernel
theorem dX3_nextShine_83 : decode cX3_nextShine 83 = .ok (.iload_n 1, 1) := by decide +kernel
theorem dX3_nextShine_84 : decode cX3_nextShine 84 = .ok (.ireturn, 1) := by decide +kernel
theorem dX3_tell_0 : decode cX3_tell 0 = .ok (.iload_n 1, 1) := by decide +kernel
theorem dX3_tell_1 : decode cX3_tell 1 = .ok (.ifCond .ne 8, 3) := by decide +kernel
theorem dX3_tell_4 : decode cX3_tell 4 = .ok (.aload_n 0, 1) := by decide +kernel
theorem dX3_tell_5 : decode cX3_tell 5 = .ok (.getfield 31, 3) := by decide +kernel
theorem dX3_tell_8 : decode cX3_tell 8 = .ok (.ireturn, 1) := by decide +kernel
theorem dX3_tell_9 : decode cX3_tell 9 = .ok (.iload_n 1, 1) := by decide +kernel
theorem dX3_tell_10 : decode cX3_tell 10 = .ok (.iconst 3, 1) := by decide +kernel
theorem dX3_tell_11 : decode cX3_tell 11 = .ok (.if_icmp .ne 8, 3) := by decide +kernel
theorem dX3_tell_14 : decode cX3_tell 14 = .ok (.aload_n 0, 1) := by decide +kernel
theorem dX3_tell_15 : decode cX3_tell 15 = .ok (.getfield 40, 3) := by decide +kernel
theorem dX3_tell_18 : decode cX3_tell 18 = .ok (.ireturn, 1) := by decide +kernel
theorem dX3_tell_19 : decode cX3_tell 19 = .ok (.iload_n 1, 1) := by decide +kernel
theorem dX3_tell_20 : decode cX3_tell 20 = .ok (.bipush 10, 2) := by decide +kernel
theorem dX3_tell_22 : decode cX3_tell 22 = .ok (.if_icmp .lt 8, 3) := by decide +kernel
theorem dX3_tell_25 : decode cX3_tell 25 = .ok (.aload_n 0, 1) := by decide +kernel
theorem dX3_tell_26 : decode cX3_tell 26 = .ok (.getfield 43, 3) := by decide +kernel
theorem dX3_tell_29 : decode cX3_tell 29 = .ok (.ireturn, 1) := by decide +kernel
theorem dX3_tell_30 : decode cX3_tell 30 = .ok (.aload_n 0, 1) := by decide +kernel
theorem dX3_tell_31 : decode cX3_tell 31 = .ok (.getfield 31, 3) := by decide +kernel
theorem dX3_tell_34 : decode cX3_tell 34 = .ok (.ifCond .ne 5, 3) := by decide +kernel
theorem dX3_tell_37 : decode cX3_tell 37 = .ok (.iconst (-1), 1) := by decide +kernel
theorem dX3_tell_38 : decode cX3_tell 38 = .ok (.ireturn, 1) := by decide +kernel
theorem dX3_tell_39 : decode cX3_tell 39 = .ok (.iload_n 1, 1) := by decide +kernel
theorem dX3_tell_40 : decode cX3_tell 40 = .ok (.iconst 1, 1) := by decide +kernel
theorem dX3_tell_41 : decode cX3_tell 41 = .ok (.if_icmp .ne 8, 3) := by decide +kernel
theorem dX3_tell_44 : decode cX3_tell 44 = .ok (.aload_n 0, 1) := by decide +kernel
theorem dX3_tell_45 : decode cX3_tell 45 = .ok (.getfield 34, 3) := by decide +kernel
theorem dX3_tell_48 : decode cX3_tell 48 = .ok (.ireturn, 1) := by decide +kernel
theorem dX3_tell_49 : decode cX3_tell 49 = .ok (.iload_n 1, 1) := by decide +kernel
theorem dX3_tell_50 : decode cX3_tell 50 = .ok (.iconst 2, 1) := by decide +kernel
theorem dX3_tell_51 : decode cX3_tell 51 = .ok (.if_icmp .ne 8, 3) := by decide +kernel
theorem dX3_tell_54 : decode cX3_tell 54 = .ok (.aload_n 0, 1) := by decide +kernel
theorem dX3_tell_55 : decode cX3_tell 55 = .ok (.getfield 37, 3) := by decide +kernel
theorem dX3_tell_58 : decode cX3_tell 58 = .ok (.ireturn, 1) := by decide +kernel
theorem dX3_tell_59 : decode cX3_tell 59 = .ok (.iload_n 1, 1) := by decide +kernel
theorem dX3_tell_60 : decode cX3_tell 60 = .ok (.iconst 4, 1) := by decide +kernel
theorem dX3_tell_61 : decode cX3_tell 61 = .ok (.if_icmp .ne 10, 3) := by decide +kernel
theorem dX3_tell_64 : decode cX3_tell 64 = .ok (.aload_n 0, 1) := by decide +kernel
theorem dX3_tell_65 : decode cX3_tell 65 = .ok (.invokevirtual 108, 3) := by decide +kernel
theorem dX3_tell_68 : decode cX3_tell 68 = .ok (.goto 5, 3) := by decide +kernel
theorem dX3_tell_71 : decode cX3_tell 71 = .ok (.bipush (-2), 2) := by decide +kernel
theorem dX3_tell_73 : decode cX3_tell 73 = .ok (.ireturn, 1) := by decide +kernel
theorem dX10_flood_0 : decode cX10_flood 0 = .ok (.aload_n 0, 1) := by decide +kernel
theorem dX10_flood_1 : decode cX10_flood 1 = .ok (.getfield 15, 3) := by decide +kernel
theorem dX10_flood_4 : decode cX10_flood 4 = .ok (.iconst (-1), 1) := by decide +kernel
theorem dX10_flood_5 : decode cX10_flood 5 = .ok (.invokestatic 28, 3) := by decide +kernel
theorem dX10_flood_8 : decode cX10_flood 8 = .ok (.aload_n 0, 1) := by decide +kernel
theorem dX10_flood_9 : decode cX10_flood 9 = .ok (.getfield 15, 3) := by decide +kernel
theorem dX10_flood_12 : decode cX10_flood 12 = .ok (.iload_n 1, 1) := by decide +kernel
theorem dX10_flood_13 : decode cX10_flood 13 = .ok (.iconst 0, 1) := by decide +kernel
theorem dX10_flood_14 : decode cX10_flood 14 = .ok (.iastore, 1) := by decide +kernel
theorem dX10_flood_15 : decode cX10_flood 15 = .ok (.aload_n 0, 1) := by decide +kernel
theorem dX10_flood_16 : decode cX10_flood 16 = .ok (.getfield 19, 3) := by decide +kernel
theorem dX10_flood_19 : decode cX10_flood 19 = .ok (.iconst 0, 1) := by decide +kernel
theorem dX10_flood_20 : decode cX10_flood 20 = .ok (.iload_n 1, 1) := by decide +kernel
theorem dX10_flood_21 : decode cX10_flood 21 = .ok (.iastore, 1) := by decide +kernel
theorem dX10_flood_22 : decode cX10_flood 22 = .ok (.iconst 1, 1) := by decide +kernel
theorem dX10_flood_23 : decode cX10_flood 23 = .ok (.istore_n 2, 1) := by decide +kernel
theorem dX10_flood_24 : decode cX10_flood 24 = .ok (.iconst 0, 1) := by decide +kernel
theorem dX10_flood_25 : decode cX10_flood 25 = .ok (.istore_n 3, 1) := by decide +kernel
theorem dX10_flood_26 : decode cX10_flood 26 = .ok (.iload_n 3, 1) := by decide +kernel
theorem dX10_flood_27 : decode cX10_flood 27 = .ok (.iload_n 2, 1) := by decide +kernel
theorem dX10_flood_28 : decode cX10_flood 28 = .ok (.if_icmp .ge 125, 3) := by decide +kernel
theorem dX10_flood_31 : decode cX10_flood 31 = .ok (.iload_n 3, 1) := by decide +kernel
theorem dX10_flood_32 : decode cX10_flood 32 = .ok (.bipush 64, 2) := by decide +kernel
theorem dX10_flood_34 : decode cX10_flood 34 = .ok (.if_icmp .ge 119, 3) := by decide +kernel
theorem dX10_flood_37 : decode cX10_flood 37 = .ok (.aload_n 0, 1) := by decide +kernel
theorem dX10_flood_38 : decode cX10_flood 38 = .ok (.getfield 19, 3) := by decide +kernel
theorem dX10_flood_41 : decode cX10_flood 41 = .ok (.iload_n 3, 1) := by decide +kernel
theorem dX10_flood_42 : decode cX10_flood 42 = .ok (.iaload, 1) := by decide +kernel
theorem dX10_flood_43 : decode cX10_flood 43 = .ok (.istore 4, 2) := by decide +kernel
theorem dX10_flood_45 : decode cX10_flood 45 = .ok (.iconst 0, 1) := by decide +kernel
theorem dX10_flood_46 : decode cX10_flood 46 = .ok (.istore 5, 2) := by decide +kernel
theorem dX10_flood_48 : decode cX10_flood 48 = .ok (.iload 5, 2) := by decide +kernel
theorem dX10_flood_50 : decode cX10_flood 50 = .ok (.bipush 8, 2) := by decide +kernel
theorem dX10_flood_52 : decode cX10_flood 52 = .ok (.if_icmp .ge 95, 3) := by decide +kernel
theorem dX10_flood_55 : decode cX10_flood 55 = .ok (.aload_n 0, 1) := by decide +kernel
theorem dX10_flood_56 : decode cX10_flood 56 = .ok (.getfield 9, 3) := by decide +kernel
theorem dX10_flood_59 : decode cX10_flood 59 = .ok (.iload 4, 2) := by decide +kernel
theorem dX10_flood_61 : decode cX10_flood 61 = .ok (.iload 5, 2) := by decide +kernel
theorem dX10_flood_63 : decode cX10_flood 63 = .ok (.invokevirtual 34, 3) := by decide +kernel
theorem dX10_flood_66 : decode cX10_flood 66 = .ok (.istore 6, 2) := by decide +kernel
theorem dX10_flood_68 : decode cX10_flood 68 = .ok (.iload 6, 2) := by decide +kernel
theorem dX10_flood_70 : decode cX10_flood 70 = .ok (.iconst (-1), 1) := by decide +kernel
theorem dX10_flood_71 : decode cX10_flood 71 = .ok (.if_icmp .eq 70, 3) := by decide +kernel
theorem dX10_flood_74 : decode cX10_flood 74 = .ok (.aload_n 0, 1) := by decide +kernel
theorem dX10_flood_75 : decode cX10_flood 75 = .ok (.getfield 15, 3) := by decide +kernel
theorem dX10_flood_78 : decode cX10_flood 78 = .ok (.iload 6, 2) := by decide +kernel
theorem dX10_flood_80 : decode cX10_flood 80 = .ok (.iaload, 1) := by decide +kernel
theorem dX10_flood_81 : decode cX10_flood 81 = .ok (.iconst (-1), 1) := by decide +kernel
theorem dX10_flood_82 : decode cX10_flood 82 = .ok (.if_icmp .ne 59, 3) := by decide +kernel
theorem dX10_flood_85 : decode cX10_flood 85 = .ok (.aload_n 0, 1) := by decide +kernel
theorem dX10_flood_86 : decode cX10_flood 86 = .ok (.getfield 9, 3) := by decide +kernel
theorem dX10_flood_89 : decode cX10_flood 89 = .ok (.getfield 40, 3) := by decide +kernel
theorem dX10_flood_92 : decode cX10_flood 92 = .ok (.getfield 44, 3) := by decide +kernel
theorem dX10_flood_95 : decode cX10_flood 95 = .ok (.iload 6, 2) := by decide +kernel
theorem dX10_flood_97 : decode cX10_flood 97 = .ok (.iaload, 1) := by decide +kernel
theorem dX10_flood_98 : decode cX10_flood 98 = .ok (.iconst 1, 1) := by decide +kernel
theorem dX10_flood_99 : decode cX10_flood 99 = .ok (.if_icmp .ne 6, 3) := by decide +kernel
theorem dX10_flood_102 : decode cX10_flood 102 = .ok (.goto 39, 3) := by decide +kernel
theorem dX10_flood_105 : decode cX10_flood 105 = .ok (.iload_n 2, 1) := by decide +kernel
theorem dX10_flood_106 : decode cX10_flood 106 = .ok (.bipush 64, 2) := by decide +kernel
theorem dX10_flood_108 : decode cX10_flood 108 = .ok (.if_icmp .lt 6, 3) := by decide +kernel
theorem dX10_flood_111 : decode cX10_flood 111 = .ok (.goto 30, 3) := by decide +kernel
theorem dX10_flood_114 : decode cX10_flood 114 = .ok (.aload_n 0, 1) := by decide +kernel
theorem dX10_flood_115 : decode cX10_flood 115 = .ok (.getfield 15, 3) := by decide +kernel
theorem dX10_flood_118 : decode cX10_flood 118 = .ok (.iload 6, 2) := by decide +kernel
theorem dX10_flood_120 : decode cX10_flood 120 = .ok (.aload_n 0, 1) := by decide +kernel
theorem dX10_flood_121 : decode cX10_flood 121 = .ok (.getfield 15, 3) := by decide +kernel
theorem dX10_flood_124 : decode cX10_flood 124 = .ok (.iload 4, 2) := by decide +kernel
theorem dX10_flood_126 : decode cX10_flood 126 = .ok (.iaload, 1) := by decide +kernel
theorem dX10_flood_127 : decode cX10_flood 127 = .ok (.iconst 1, 1) := by decide +kernel
theorem dX10_flood_128 : decode cX10_flood 128 = .ok (.iadd, 1) := by decide +kernel
theorem dX10_flood_129 : decode cX10_flood 129 = .ok (.iastore, 1) := by decide +kernel
theorem dX10_flood_130 : decode cX10_flood 130 = .ok (.aload_n 0, 1) := by decide +kernel
theorem dX10_flood_131 : decode cX10_flood 131 = .ok (.getfield 19, 3) := by decide +kernel
theorem dX10_flood_134 : decode cX10_flood 134 = .ok (.iload_n 2, 1) := by decide +kernel
theorem dX10_flood_135 : decode cX10_flood 135 = .ok (.iload 6, 2) := by decide +kernel
theorem dX10_flood_137 : decode cX10_flood 137 = .ok (.iastore, 1) := by decide +kernel
theorem dX10_flood_138 : decode cX10_flood 138 = .ok (.iinc 2 1, 3) := by decide +kernel
theorem dX10_flood_141 : decode cX10_flood 141 = .ok (.iinc 5 2, 3) := by decide +kernel
theorem dX10_flood_144 : decode cX10_flood 144 = .ok (.goto (-96), 3) := by decide +kernel
theorem dX10_flood_147 : decode cX10_flood 147 = .ok (.iinc 3 1, 3) := by decide +kernel
theorem dX10_flood_150 : decode cX10_flood 150 = .ok (.goto (-124), 3) := by decide +kernel
theorem dX10_flood_153 : decode cX10_flood 153 = .ok (.return_, 1) := by decide +kernel
theorem dX10_goOn_0 : decode cX10_goOn 0 = .ok (.iconst 0, 1) := by decide +kernel
theorem dX10_goOn_1 : decode cX10_goOn 1 = .ok (.istore_n 3, 1) := by decide +kernel
theorem dX10_goOn_2 : decode cX10_goOn 2 = .ok (.iload_n 3, 1) := by decide +kernel
theorem dX10_goOn_3 : decode cX10_goOn 3 = .ok (.aload_n 0, 1) := by decide +kernel
theorem dX10_goOn_4 : decode cX10_goOn 4 = .ok (.getfield 9, 3) := by decide +kernel
theorem dX10_goOn_7 : decode cX10_goOn 7 = .ok (.getfield 40, 3) := by decide +kernel
theorem dX10_goOn_10 : decode cX10_goOn 10 = .ok (.getfield 49, 3) := by decide +kernel
theorem dX10_goOn_13 : decode cX10_goOn 13 = .ok (.if_icmp .ge 104, 3) := by decide +kernel
theorem dX10_goOn_16 : decode cX10_goOn 16 = .ok (.iload_n 1, 1) := by decide +kernel
theorem dX10_goOn_17 : decode cX10_goOn 17 = .ok (.iload_n 3, 1) := by decide +kernel
theorem dX10_goOn_18 : decode cX10_goOn 18 = .ok (.iushr, 1) := by decide +kernel
theorem dX10_goOn_19 : decode cX10_goOn 19 = .ok (.iconst 1, 1) := by decide +kernel
theorem dX10_goOn_20 : decode cX10_goOn 20 = .ok (.iand, 1) := by decide +kernel
theorem dX10_goOn_21 : decode cX10_goOn 21 = .ok (.ifCond .ne 90, 3) := by decide +kernel
theorem dX10_goOn_24 : decode cX10_goOn 24 = .ok (.aload_n 0, 1) := by decide +kernel
theorem dX10_goOn_25 : decode cX10_goOn 25 = .ok (.getfield 22, 3) := by decide +kernel
theorem dX10_goOn_28 : decode cX10_goOn 28 = .ok (.bipush 8, 2) := by decide +kernel
theorem dX10_goOn_30 : decode cX10_goOn 30 = .ok (.iload_n 2, 1) := by decide +kernel
theorem dX10_goOn_31 : decode cX10_goOn 31 = .ok (.imul, 1) := by decide +kernel
theorem dX10_goOn_32 : decode cX10_goOn 32 = .ok (.iload_n 3, 1) := by decide +kernel
theorem dX10_goOn_33 : decode cX10_goOn 33 = .ok (.iadd, 1) := by decide +kernel
theorem dX10_goOn_34 : decode cX10_goOn 34 = .ok (.iaload, 1) := by decide +kernel
theorem dX10_goOn_35 : decode cX10_goOn 35 = .ok (.iconst (-1), 1) := by decide +kernel
theorem dX10_goOn_36 : decode cX10_goOn 36 = .ok (.if_icmp .ne 6, 3) := by decide +kernel
theorem dX10_goOn_39 : decode cX10_goOn 39 = .ok (.goto 72, 3) := by decide +kernel
theorem dX10_goOn_42 : decode cX10_goOn 42 = .ok (.aload_n 0, 1) := by decide +kernel
theorem dX10_goOn_43 : decode cX10_goOn 43 = .ok (.getfield 25, 3) := by decide +kernel
theorem dX10_goOn_46 : decode cX10_goOn 46 = .ok (.bipush 8, 2) := by decide +kernel
theorem dX10_goOn_48 : decode cX10_goOn 48 = .ok (.iload_n 1, 1) := by decide +kernel
theorem dX10_goOn_49 : decode cX10_goOn 49 = .ok (.imul, 1) := by decide +kernel
theorem dX10_goOn_50 : decode cX10_goOn 50 = .ok (.iload_n 2, 1) := by decide +kernel
theorem dX10_goOn_51 : decode cX10_goOn 51 = .ok (.iadd, 1) := by decide +kernel
theorem dX10_goOn_52 : decode cX10_goOn 52 = .ok (.iaload, 1) := by decide +kernel
theorem dX10_goOn_53 : decode cX10_goOn 53 = .ok (.aload_n 0, 1) := by decide +kernel
theorem dX10_goOn_54 : decode cX10_goOn 54 = .ok (.getfield 22, 3) := by decide +kernel
theorem dX10_goOn_57 : decode cX10_goOn 57 = .ok (.bipush 8, 2) := by decide +kernel
theorem dX10_goOn_59 : decode cX10_goOn 59 = .ok (.iload_n 2, 1) := by decide +kernel
theorem dX10_goOn_60 : decode cX10_goOn 60 = .ok (.imul, 1) := by decide +kernel
theorem dX10_goOn_61 : decode cX10_goOn 61 = .ok (.iload_n 3, 1) := by decide +kernel
theorem dX10_goOn_62 : decode cX10_goOn 62 = .ok (.iadd, 1) := by decide +kernel
theorem dX10_goOn_63 : decode cX10_goOn 63 = .ok (.iaload, 1) := by decide +kernel
theorem dX10_goOn_64 : decode cX10_goOn 64 = .ok (.iadd, 1) := by decide +kernel
theorem dX10_goOn_65 : decode cX10_goOn 65 = .ok (.istore 4, 2) := by decide +kernel
theorem dX10_goOn_67 : decode cX10_goOn 67 = .ok (.bipush 8, 2) := by decide +kernel
theorem dX10_goOn_69 : decode cX10_goOn 69 = .ok (.iload_n 1, 1) := by decide +kernel
theorem dX10_goOn_70 : decode cX10_goOn 70 = .ok (.iconst 1, 1) := by decide +kernel
theorem dX10_goOn_71 : decode cX10_goOn 71 = .ok (.iload_n 3, 1) := by decide +kernel
theorem dX10_goOn_72 : decode cX10_goOn 72 = .ok (.ishl, 1) := by decide +kernel
theorem dX10_goOn_73 : decode cX10_goOn 73 = .ok (.ior, 1) := by decide +kernel
theorem dX10_goOn_74 : decode cX10_goOn 74 = .ok (.imul, 1) := by decide +kernel
theorem dX10_goOn_75 : decode cX10_goOn 75 = .ok (.iload_n 3, 1) := by decide +kernel
theorem dX10_goOn_76 : decode cX10_goOn 76 = .ok (.iadd, 1) := by decide +kernel
theorem dX10_goOn_77 : decode cX10_goOn 77 = .ok (.istore 5, 2) := by decide +kernel
theorem dX10_goOn_79 : decode cX10_goOn 79 = .ok (.aload_n 0, 1) := by decide +kernel
theorem dX10_goOn_80 : decode cX10_goOn 80 = .ok (.getfield 25, 3) := by decide +kernel
theorem dX10_goOn_83 : decode cX10_goOn 83 = .ok (.iload 5, 2) := by decide +kernel
theorem dX10_goOn_85 : decode cX10_goOn 85 = .ok (.iaload, 1) := by decide +kernel
theorem dX10_goOn_86 : decode cX10_goOn 86 = .ok (.iconst (-1), 1) := by decide +kernel
theorem dX10_goOn_87 : decode cX10_goOn 87 = .ok (.if_icmp .eq 15, 3) := by decide +kernel
theorem dX10_goOn_90 : decode cX10_goOn 90 = .ok (.iload 4, 2) := by decide +kernel
theorem dX10_goOn_92 : decode cX10_goOn 92 = .ok (.aload_n 0, 1) := by decide +kernel
theorem dX10_goOn_93 : decode cX10_goOn 93 = .ok (.getfield 25, 3) := by decide +kernel
theorem dX10_goOn_96 : decode cX10_goOn 96 = .ok (.iload 5, 2) := by decide +kernel
theorem dX10_goOn_98 : decode cX10_goOn 98 = .ok (.iaload, 1) := by decide +kernel
theorem dX10_goOn_99 : decode cX10_goOn 99 = .ok (.if_icmp .ge 12, 3) := by decide +kernel
theorem dX10_goOn_102 : decode cX10_goOn 102 = .ok (.aload_n 0, 1) := by decide +kernel
theorem dX10_goOn_103 : decode cX10_goOn 103 = .ok (.getfield 25, 3) := by decide +kernel
theorem dX10_goOn_106 : decode cX10_goOn 106 = .ok (.iload 5, 2) := by decide +kernel
theorem dX10_goOn_108 : decode cX10_goOn 108 = .ok (.iload 4, 2) := by decide +kernel
theorem dX10_goOn_110 : decode cX10_goOn 110 = .ok (.iastore, 1) := by decide +kernel
theorem dX10_goOn_111 : decode cX10_goOn 111 = .ok (.iinc 3 1, 3) := by decide +kernel
theorem dX10_goOn_114 : decode cX10_goOn 114 = .ok (.goto (-112), 3) := by decide +kernel
theorem dX10_goOn_117 : decode cX10_goOn 117 = .ok (.return_, 1) := by decide +kernel
theorem dX10_tour_0 : decode cX10_tour 0 = .ok (.aload_n 0, 1) := by decide +kernel
theorem dX10_tour_1 : decode cX10_tour 1 = .ok (.getfield 9, 3) := by decide +kernel
theorem dX10_tour_4 : decode cX10_tour 4 = .ok (.getfield 40, 3) := by decide +kernel
theorem dX10_tour_7 : decode cX10_tour 7 = .ok (.getfield 49, 3) := by decide +kernel
theorem dX10_tour_10 : decode cX10_tour 10 = .ok (.istore_n 2, 1) := by decide +kernel
theorem dX10_tour_11 : decode cX10_tour 11 = .ok (.aload_n 0, 1) := by decide +kernel
theorem dX10_tour_12 : decode cX10_tour 12 = .ok (.getfield 25, 3) := by decide +kernel
theorem dX10_tour_15 : decode cX10_tour 15 = .ok (.iconst (-1), 1) := by decide +kernel
theorem dX10_tour_16 : decode cX10_tour 16 = .ok (.invokestatic 28, 3) := by decide +kernel
theorem dX10_tour_19 : decode cX10_tour 19 = .ok (.aload_n 0, 1) := by decide +kernel
theorem dX10_tour_20 : decode cX10_tour 20 = .ok (.iload_n 1, 1) := by decide +kernel
theorem dX10_tour_21 : decode cX10_tour 21 = .ok (.invokevirtual 53, 3) := by decide +kernel
theorem dX10_tour_24 : decode cX10_tour 24 = .ok (.iconst 0, 1) := by decide +kernel
theorem dX10_tour_25 : decode cX10_tour 25 = .ok (.istore_n 3, 1) := by decide +kernel
theorem dX10_tour_26 : decode cX10_tour 26 = .ok (.iload_n 3, 1) := by decide +kernel
theorem dX10_tour_27 : decode cX10_tour 27 = .ok (.iload_n 2, 1) := by decide +kernel
theorem dX10_tour_28 : decode cX10_tour 28 = .ok (.if_icmp .ge 39, 3) := by decide +kernel
theorem dX10_tour_31 : decode cX10_tour 31 = .ok (.aload_n 0, 1) := by decide +kernel
theorem dX10_tour_32 : decode cX10_tour 32 = .ok (.getfield 25, 3) := by decide +kernel
theorem dX10_tour_35 : decode cX10_tour 35 = .ok (.bipush 8, 2) := by decide +kernel
theorem dX10_tour_37 : decode cX10_tour 37 = .ok (.iconst 1, 1) := by decide +kernel
theorem dX10_tour_38 : decode cX10_tour 38 = .ok (.iload_n 3, 1) := by decide +kernel
theorem dX10_tour_39 : decode cX10_tour 39 = .ok (.ishl, 1) := by decide +kernel
theorem dX10_tour_40 : decode cX10_tour 40 = .ok (.imul, 1) := by decide +kernel
theorem dX10_tour_41 : decode cX10_tour 41 = .ok (.iload_n 3, 1) := by decide +kernel
theorem dX10_tour_42 : decode cX10_tour 42 = .ok (.iadd, 1) := by decide +kernel
theorem dX10_tour_43 : decode cX10_tour 43 = .ok (.aload_n 0, 1) := by decide +kernel
theorem dX10_tour_44 : decode cX10_tour 44 = .ok (.getfield 15, 3) := by decide +kernel
theorem dX10_tour_47 : decode cX10_tour 47 = .ok (.aload_n 0, 1) := by decide +kernel
theorem dX10_tour_48 : decode cX10_tour 48 = .ok (.getfield 9, 3) := by decide +kernel
theorem dX10_tour_51 : decode cX10_tour 51 = .ok (.getfield 40, 3) := by decide +kernel
theorem dX10_tour_54 : decode cX10_tour 54 = .ok (.getfield 57, 3) := by decide +kernel
theorem dX10_tour_57 : decode cX10_tour 57 = .ok (.iload_n 3, 1) := by decide +kernel
theorem dX10_tour_58 : decode cX10_tour 58 = .ok (.iaload, 1) := by decide +kernel
theorem dX10_tour_59 : decode cX10_tour 59 = .ok (.iaload, 1) := by decide +kernel
theorem dX10_tour_60 : decode cX10_tour 60 = .ok (.iastore, 1) := by decide +kernel
theorem dX10_tour_61 : decode cX10_tour 61 = .ok (.iinc 3 1, 3) := by decide +kernel
theorem dX10_tour_64 : decode cX10_tour 64 = .ok (.goto (-38), 3) := by decide +kernel
theorem dX10_tour_67 : decode cX10_tour 67 = .ok (.iconst 0, 1) := by decide +kernel
theorem dX10_tour_68 : decode cX10_tour 68 = .ok (.istore_n 3, 1) := by decide +kernel
theorem dX10_tour_69 : decode cX10_tour 69 = .ok (.iload_n 3, 1) := by decide +kernel
theorem dX10_tour_70 : decode cX10_tour 70 = .ok (.iload_n 2, 1) := by decide +kernel
theorem dX10_tour_71 : decode cX10_tour 71 = .ok (.if_icmp .ge 70, 3) := by decide +kernel
theorem dX10_tour_74 : decode cX10_tour 74 = .ok (.aload_n 0, 1) := by decide +kernel
theorem dX10_tour_75 : decode cX10_tour 75 = .ok (.aload_n 0, 1) := by decide +kernel
theorem dX10_tour_76 : decode cX10_tour 76 = .ok (.getfield 9, 3) := by decide +kernel
theorem dX10_tour_79 : decode cX10_tour 79 = .ok (.getfield 40, 3) := by decide +kernel
theorem dX10_tour_82 : decode cX10_tour 82 = .ok (.getfield 57, 3) := by decide +kernel
theorem dX10_tour_85 : decode cX10_tour 85 = .ok (.iload_n 3, 1) := by decide +kernel
theorem dX10_tour_86 : decode cX10_tour 86 = .ok (.iaload, 1) := by decide +kernel
theorem dX10_tour_87 : decode cX10_tour 87 = .ok (.invokevirtual 53, 3) := by decide +kernel
theorem dX10_tour_90 : decode cX10_tour 90 = .ok (.iconst 0, 1) := by decide +kernel
theorem dX10_tour_91 : decode cX10_tour 91 = .ok (.istore 4, 2) := by decide +kernel
theorem dX10_tour_93 : decode cX10_tour 93 = .ok (.iload 4, 2) := by decide +kernel
theorem dX10_tour_95 : decode cX10_tour 95 = .ok (.iload_n 2, 1) := by decide +kernel
theorem dX10_tour_96 : decode cX10_tour 96 = .ok (.if_icmp .ge 39, 3) := by decide +kernel
theorem dX10_tour_99 : decode cX10_tour 99 = .ok (.aload_n 0, 1) := by decide +kernel
theorem dX10_tour_100 : decode cX10_tour 100 = .ok (.getfield 22, 3) := by decide +kernel
theorem dX10_tour_103 : decode cX10_tour 103 = .ok (.bipush 8, 2) := by decide +kernel
theorem dX10_tour_105 : decode cX10_tour 105 = .ok (.iload_n 3, 1) := by decide +kernel
theorem dX10_tour_106 : decode cX10_tour 106 = .ok (.imul, 1) := by decide +kernel
theorem dX10_tour_107 : decode cX10_tour 107 = .ok (.iload 4, 2) := by decide +kernel
theorem dX10_tour_109 : decode cX10_tour 109 = .ok (.iadd, 1) := by decide +kernel
theorem dX10_tour_110 : decode cX10_tour 110 = .ok (.aload_n 0, 1) := by decide +kernel
theorem dX10_tour_111 : decode cX10_tour 111 = .ok (.getfield 15, 3) := by decide +kernel
theorem dX10_tour_114 : decode cX10_tour 114 = .ok (.aload_n 0, 1) := by decide +kernel
theorem dX10_tour_115 : decode cX10_tour 115 = .ok (.getfield 9, 3) := by decide +kernel
theorem dX10_tour_118 : decode cX10_tour 118 = .ok (.getfield 40, 3) := by decide +kernel
theorem dX10_tour_121 : decode cX10_tour 121 = .ok (.getfield 57, 3) := by decide +kernel
theorem dX10_tour_124 : decode cX10_tour 124 = .ok (.iload 4, 2) := by decide +kernel
theorem dX10_tour_126 : decode cX10_tour 126 = .ok (.iaload, 1) := by decide +kernel
theorem dX10_tour_127 : decode cX10_tour 127 = .ok (.iaload, 1) := by decide +kernel
theorem dX10_tour_128 : decode cX10_tour 128 = .ok (.iastore, 1) := by decide +kernel
theorem dX10_tour_129 : decode cX10_tour 129 = .ok (.iinc 4 1, 3) := by decide +kernel
theorem dX10_tour_132 : decode cX10_tour 132 = .ok (.goto (-39), 3) := by decide +kernel
theorem dX10_tour_135 : decode cX10_tour 135 = .ok (.iinc 3 1, 3) := by decide +kernel
theorem dX10_tour_138 : decode cX10_tour 138 = .ok (.goto (-69), 3) := by decide +kernel
theorem dX10_tour_141 : decode cX10_tour 141 = .ok (.iconst 1, 1) := by decide +kernel
theorem dX10_tour_142 : decode cX10_tour 142 = .ok (.istore_n 3, 1) := by decide +kernel
theorem dX10_tour_143 : decode cX10_tour 143 = .ok (.iload_n 3, 1) := by decide +kernel
theorem dX10_tour_144 : decode cX10_tour 144 = .ok (.iconst 1, 1) := by decide +kernel
theorem dX10_tour_145 : decode cX10_tour 145 = .ok (.iload_n 2, 1) := by decide +kernel
theorem dX10_tour_146 : decode cX10_tour 146 = .ok (.ishl, 1) := by decide +kernel
theorem dX10_tour_147 : decode cX10_tour 147 = .ok (.if_icmp .ge 47, 3) := by decide +kernel
theorem dX10_tour_150 : decode cX10_tour 150 = .ok (.iconst 0, 1) := by decide +kernel
theorem dX10_tour_151 : decode cX10_tour 151 = .ok (.istore 4, 2) := by decide +kernel
theorem dX10_tour_153 : decode cX10_tour 153 = .ok (.iload 4, 2) := by decide +kernel
theorem dX10_tour_155 : decode cX10_tour 155 = .ok (.iload_n 2, 1) := by decide +kernel
theorem dX10_tour_156 : decode cX10_tour 156 = .ok (.if_icmp .ge 32, 3) := by decide +kernel
theorem dX10_tour_159 : decode cX10_tour 159 = .ok (.aload_n 0, 1) := by decide +kernel
theorem dX10_tour_160 : decode cX10_tour 160 = .ok (.getfield 25, 3) := by decide +kernel
theorem dX10_tour_163 : decode cX10_tour 163 = .ok (.bipush 8, 2) := by decide +kernel
theorem dX10_tour_165 : decode cX10_tour 165 = .ok (.iload_n 3, 1) := by decide +kernel
theorem dX10_tour_166 : decode cX10_tour 166 = .ok (.imul, 1) := by decide +kernel
theorem dX10_tour_167 : decode cX10_tour 167 = .ok (.iload 4, 2) := by decide +kernel
theorem dX10_tour_169 : decode cX10_tour 169 = .ok (.iadd, 1) := by decide +kernel
theorem dX10_tour_170 : decode cX10_tour 170 = .ok (.iaload, 1) := by decide +kernel
theorem dX10_tour_171 : decode cX10_tour 171 = .ok (.iconst (-1), 1) := by decide +kernel
theorem dX10_tour_172 : decode cX10_tour 172 = .ok (.if_icmp .eq 10, 3) := by decide +kernel
theorem dX10_tour_175 : decode cX10_tour 175 = .ok (.aload_n 0, 1) := by decide +kernel
theorem dX10_tour_176 : decode cX10_tour 176 = .ok (.iload_n 3, 1) := by decide +kernel
theorem dX10_tour_177 : decode cX10_tour 177 = .ok (.iload 4, 2) := by decide +kernel
theorem dX10_tour_179 : decode cX10_tour 179 = .ok (.invokevirtual 60, 3) := by decide +kernel
theorem dX10_tour_182 : decode cX10_tour 182 = .ok (.iinc 4 1, 3) := by decide +kernel
theorem dX10_tour_185 : decode cX10_tour 185 = .ok (.goto (-32), 3) := by decide +kernel
theorem dX10_tour_188 : decode cX10_tour 188 = .ok (.iinc 3 1, 3) := by decide +kernel
theorem dX10_tour_191 : decode cX10_tour 191 = .ok (.goto (-48), 3) := by decide +kernel
theorem dX10_tour_194 : decode cX10_tour 194 = .ok (.return_, 1) := by decide +kernel
theorem dX10_fewestTo_0 : decode cX10_fewestTo 0 = .ok (.iload_n 1, 1) := by decide +kernel
theorem dX10_fewestTo_1 : decode cX10_fewestTo 1 = .ok (.ifCond .ne 5, 3) := by decide +kernel
theorem dX10_fewestTo_4 : decode cX10_fewestTo 4 = .ok (.iconst 0, 1) := by decide +kernel
theorem dX10_fewestTo_5 : decode cX10_fewestTo 5 = .ok (.ireturn, 1) := by decide +kernel
theorem dX10_fewestTo_6 : decode cX10_fewestTo 6 = .ok (.iconst (-1), 1) := by decide +kernel
theorem dX10_fewestTo_7 : decode cX10_fewestTo 7 = .ok (.istore_n 2, 1) := by decide +kernel
theorem dX10_fewestTo_8 : decode cX10_fewestTo 8 = .ok (.iconst 0, 1) := by decide +kernel
theorem dX10_fewestTo_9 : decode cX10_fewestTo 9 = .ok (.istore_n 3, 1) := by decide +kernel
theorem dX10_fewestTo_10 : decode cX10_fewestTo 10 = .ok (.iload_n 3, 1) := by decide +kernel
theorem dX10_fewestTo_11 : decode cX10_fewestTo 11 = .ok (.aload_n 0, 1) := by decide +kernel
theorem dX10_fewestTo_12 : decode cX10_fewestTo 12 = .ok (.getfield 9, 3) := by decide +kernel
theorem dX10_fewestTo_15 : decode cX10_fewestTo 15 = .ok (.getfield 40, 3) := by decide +kernel
theorem dX10_fewestTo_18 : decode cX10_fewestTo 18 = .ok (.getfield 49, 3) := by decide +kernel
theorem dX10_fewestTo_21 : decode cX10_fewestTo 21 = .ok (.if_icmp .ge 42, 3) := by decide +kernel
theorem dX10_fewestTo_24 : decode cX10_fewestTo 24 = .ok (.aload_n 0, 1) := by decide +kernel
theorem dX10_fewestTo_25 : decode cX10_fewestTo 25 = .ok (.getfield 25, 3) := by decide +kernel
theorem dX10_fewestTo_28 : decode cX10_fewestTo 28 = .ok (.bipush 8, 2) := by decide +kernel
theorem dX10_fewestTo_30 : decode cX10_fewestTo 30 = .ok (.iload_n 1, 1) := by decide +kernel
theorem dX10_fewestTo_31 : decode cX10_fewestTo 31 = .ok (.imul, 1) := by decide +kernel
theorem dX10_fewestTo_32 : decode cX10_fewestTo 32 = .ok (.iload_n 3, 1) := by decide +kernel
theorem dX10_fewestTo_33 : decode cX10_fewestTo 33 = .ok (.iadd, 1) := by decide +kernel
theorem dX10_fewestTo_34 : decode cX10_fewestTo 34 = .ok (.iaload, 1) := by decide +kernel
theorem dX10_fewestTo_35 : decode cX10_fewestTo 35 = .ok (.istore 4, 2) := by decide +kernel
theorem dX10_fewestTo_37 : decode cX10_fewestTo 37 = .ok (.iload 4, 2) := by decide +kernel
theorem dX10_fewestTo_39 : decode cX10_fewestTo 39 = .ok (.iconst (-1), 1) := by decide +kernel
theorem dX10_fewestTo_40 : decode cX10_fewestTo 40 = .ok (.if_icmp .eq 17, 3) := by decide +kernel
theorem dX10_fewestTo_43 : decode cX10_fewestTo 43 = .ok (.iload_n 2, 1) := by decide +kernel
theorem dX10_fewestTo_44 : decode cX10_fewestTo 44 = .ok (.iconst (-1), 1) := by decide +kernel
theorem dX10_fewestTo_45 : decode cX10_fewestTo 45 = .ok (.if_icmp .eq 9, 3) := by decide +kernel
theorem dX10_fewestTo_48 : decode cX10_fewestTo 48 = .ok (.iload 4, 2) := by decide +kernel
theorem dX10_fewestTo_50 : decode cX10_fewestTo 50 = .ok (.iload_n 2, 1) := by decide +kernel
theorem dX10_fewestTo_51 : decode cX10_fewestTo 51 = .ok (.if_icmp .ge 6, 3) := by decide +kernel
theorem dX10_fewestTo_54 : decode cX10_fewestTo 54 = .ok (.iload 4, 2) := by decide +kernel
theorem dX10_fewestTo_56 : decode cX10_fewestTo 56 = .ok (.istore_n 2, 1) := by decide +kernel
theorem dX10_fewestTo_57 : decode cX10_fewestTo 57 = .ok (.iinc 3 1, 3) := by decide +kernel
theorem dX10_fewestTo_60 : decode cX10_fewestTo 60 = .ok (.goto (-50), 3) := by decide +kernel
theorem dX10_fewestTo_63 : decode cX10_fewestTo 63 = .ok (.iload_n 2, 1) := by decide +kernel
theorem dX10_fewestTo_64 : decode cX10_fewestTo 64 = .ok (.ireturn, 1) := by decide +kernel
theorem dX10_fewestToAll_0 : decode cX10_fewestToAll 0 = .ok (.aload_n 0, 1) := by decide +kernel
theorem dX10_fewestToAll_1 : decode cX10_fewestToAll 1 = .ok (.iconst 1, 1) := by decide +kernel
theorem dX10_fewestToAll_2 : decode cX10_fewestToAll 2 = .ok (.aload_n 0, 1) := by decide +kernel
theorem dX10_fewestToAll_3 : decode cX10_fewestToAll 3 = .ok (.getfield 9, 3) := by decide +kernel
theorem dX10_fewestToAll_6 : decode cX10_fewestToAll 6 = .ok (.getfield 40, 3) := by decide +kernel
theorem dX10_fewestToAll_9 : decode cX10_fewestToAll 9 = .ok (.getfield 49, 3) := by decide +kernel
theorem dX10_fewestToAll_12 : decode cX10_fewestToAll 12 = .ok (.ishl, 1) := by decide +kernel
theorem dX10_fewestToAll_13 : decode cX10_fewestToAll 13 = .ok (.iconst 1, 1) := by decide +kernel
theorem dX10_fewestToAll_14 : decode cX10_fewestToAll 14 = .ok (.isub, 1) := by decide +kernel
theorem dX10_fewestToAll_15 : decode cX10_fewestToAll 15 = .ok (.invokevirtual 64, 3) := by decide +kernel
theorem dX10_fewestToAll_18 : decode cX10_fewestToAll 18 = .ok (.ireturn, 1) := by decide +kernel
theorem dX10_mostWithin_0 : decode cX10_mostWithin 0 = .ok (.iconst 0, 1) := by decide +kernel
theorem dX10_mostWithin_1 : decode cX10_mostWithin 1 = .ok (.istore_n 2, 1) := by decide +kernel
theorem dX10_mostWithin_2 : decode cX10_mostWithin 2 = .ok (.iconst 1, 1) := by decide +kernel
theorem dX10_mostWithin_3 : decode cX10_mostWithin 3 = .ok (.istore_n 3, 1) := by decide +kernel
theorem dX10_mostWithin_4 : decode cX10_mostWithin 4 = .ok (.iload_n 3, 1) := by decide +kernel
theorem dX10_mostWithin_5 : decode cX10_mostWithin 5 = .ok (.iconst 1, 1) := by decide +kernel
theorem dX10_mostWithin_6 : decode cX10_mostWithin 6 = .ok (.aload_n 0, 1) := by decide +kernel
theorem dX10_mostWithin_7 : decode cX10_mostWithin 7 = .ok (.getfield 9, 3) := by decide +kernel
theorem dX10_mostWithin_10 : decode cX10_mostWithin 10 = .ok (.getfield 40, 3) := by decide +kernel
theorem dX10_mostWithin_13 : decode cX10_mostWithin 13 = .ok (.getfield 49, 3) := by decide +kernel
theorem dX10_mostWithin_16 : decode cX10_mostWithin 16 = .ok (.ishl, 1) := by decide +kernel
theorem dX10_mostWithin_17 : decode cX10_mostWithin 17 = .ok (.if_icmp .ge 37, 3) := by decide +kernel
theorem dX10_mostWithin_20 : decode cX10_mostWithin 20 = .ok (.aload_n 0, 1) := by decide +kernel
theorem dX10_mostWithin_21 : decode cX10_mostWithin 21 = .ok (.iload_n 3, 1) := by decide +kernel
theorem dX10_mostWithin_22 : decode cX10_mostWithin 22 = .ok (.invokevirtual 64, 3) := by decide +kernel
theorem dX10_mostWithin_25 : decode cX10_mostWithin 25 = .ok (.istore 4, 2) := by decide +kernel
theorem dX10_mostWithin_27 : decode cX10_mostWithin 27 = .ok (.iload 4, 2) := by decide +kernel
theorem dX10_mostWithin_29 : decode cX10_mostWithin 29 = .ok (.iconst (-1), 1) := by decide +kernel
theorem dX10_mostWithin_30 : decode cX10_mostWithin 30 = .ok (.if_icmp .eq 18, 3) := by decide +kernel
theorem dX10_mostWithin_33 : decode cX10_mostWithin 33 = .ok (.iload 4, 2) := by decide +kernel
theorem dX10_mostWithin_35 : decode cX10_mostWithin 35 = .ok (.iload_n 1, 1) := by decide +kernel
theorem dX10_mostWithin_36 : decode cX10_mostWithin 36 = .ok (.if_icmp .gt 12, 3) := by decide +kernel
theorem dX10_mostWithin_39 : decode cX10_mostWithin 39 = .ok (.iload_n 2, 1) := by decide +kernel
theorem dX10_mostWithin_40 : decode cX10_mostWithin 40 = .ok (.iload_n 3, 1) := by decide +kernel
theorem dX10_mostWithin_41 : decode cX10_mostWithin 41 = .ok (.invokestatic 68, 3) := by decide +kernel
theorem dX10_mostWithin_44 : decode cX10_mostWithin 44 = .ok (.invokestatic 73, 3) := by decide +kernel
theorem dX10_mostWithin_47 : decode cX10_mostWithin 47 = .ok (.istore_n 2, 1) := by decide +kernel
theorem dX10_mostWithin_48 : decode cX10_mostWithin 48 = .ok (.iinc 3 1, 3) := by decide +kernel
theorem dX10_mostWithin_51 : decode cX10_mostWithin 51 = .ok (.goto (-47), 3) := by decide +kernel
theorem dX10_mostWithin_54 : decode cX10_mostWithin 54 = .ok (.iload_n 2, 1) := by decide +kernel
theorem dX10_mostWithin_55 : decode cX10_mostWithin 55 = .ok (.ireturn, 1) := by decide +kernel
section
variable {p : Program} {l : Launch} {e : Env} {s : State} {m : MethodId} {args : Array Value} {below : List Frame} {meth : Method} {c : Code} {G : GG} {K : SK}
set_option maxHeartbeats 4000000 in
set_option maxRecDepth 100000 in
theorem wX3_change_j53 (C : CX p s m args meth c cX3_change 5 none RX3 G) (hs0 : s.heap.size = G.1 + K.1) (hL : Lay K) (a1 : Nat) (h1 : Par K a1) (k3 : MM → Int32 → Int32 → Int32 → Option MM) (pp : MM) (hk3 : ∀ (M17 : MM) (y18 : Int32) (y19 : Int32) (y20 : Int32), k3 M17 y18 y19 y20 = some pp → Z p l e (rmo 4 0 0) s m args below meth c 5 G (MQ below (QC G none K pp) args s 0 0 (AG G)) K 0 0 M17 3 [(0, .ref (G.1 + 88)), (1, .ref (G.1 + a1)), (2, .int y18), (3, .int y19), (4, .int y20)] []) (M9 : MM) (y10 : Int32) (y11 : Int32) (y12 : Int32) (y13 : Int32) (y14 : Int32) (hf : fX3_change_j53 a1 k3 M9 y10 y11 y12 y13 y14 = some pp) : Z p l e (rmo 4 0 0) s m args below meth c 5 G (MQ below (QC G none K pp) args s 0 0 (AG G)) K 0 0 M9 53 [(0, .ref (G.1 + 88)), (1, .ref (G.1 + a1)), (2, .int y10), (3, .int y11), (4, .int y12)] [.int y14, .int y13, .ref (G.1 + 60)] := by
  unfold fX3_change_j53 at hf
  replace hf := bd_out hf
  obtain ⟨p15, e16, hf⟩ := hf
  refine z_cV0 C [] (tX0_lay l G hL M9 y13 y14 _ e16) lk_X0_lay ok_X0 (lay_c60 hL) q_ml_X3_81 rfl ⟨Nat.le_of_ble_eq_true rfl, Nat.le_of_ble_eq_true rfl⟩ rfl (Nat.le_of_ble_eq_true rfl) ⟨Nat.le_refl _, Nat.le_refl _⟩ dX3_change_53 ?_
  refine z_iinc C 4 (y12 + 1) [(4, .int (y12 + 1)), (0, .ref (G.1 + 88)), (1, .ref (G.1 + a1)), (2, .int y10), (3, .int y11)] dX3_change_56 rfl rfl (by decide) rfl rfl ?_
  refine z_goto C 3 dX3_change_59 (by decide) ?_
  refine z_lv (lv2 := [(0, .ref (G.1 + 88)), (1, .ref (G.1 + a1)), (2, .int y10), (3, .int y11), (4, .int (y12 + 1))]) [1, 2, 3, 4, 0] rfl ?_
  exact hk3 p15 y10 y11 (y12 + 1)  hf
set_option maxHeartbeats 4000000 in
set_option maxRecDepth 100000 in
theorem wX3_change_l3 (C : CX p s m args meth c cX3_change 5 none RX3 G) (hs0 : s.heap.size = G.1 + K.1) (hL : Lay K) (a1 : Nat) (h1 : Par K a1)  (pp : MM)  : ∀ (n : Nat) (M1 : MM) (y2 : Int32) (y3 : Int32) (y4 : Int32) (hf : fX3_change_l3 a1 n M1 y2 y3 y4 = some pp), Z p l e (rmo 4 0 0) s m args below meth c 5 G (MQ below (QC G none K pp) args s 0 0 (AG G)) K 0 0 M1 3 [(0, .ref (G.1 + 88)), (1, .ref (G.1 + a1)), (2, .int y2), (3, .int y3), (4, .int y4)] [] := by
  intro n
  induction n with
  | zero => intro M1 y2 y3 y4 hf; exact nomatch (show (none : Option MM) = some pp from hf)
  | succ n ih =>
    intro M1 y2 y3 y4 hf
    rw [fX3_change_l3.eq_2] at hf
    refine z_iload C 4 dX3_change_3 rfl ?_
    refine z_aload_n C 1 1 dX3_change_5 rfl rfl ?_
    refine z_getI C ok_X5 (Par_o h1) 2 (by decide) rfl q_fl_X3_19 dX3_change_6 ?_
    refine z_icmp_ge C 62 dX3_change_9 (by decide) (fun c5 => ?_) (fun c5 => ?_)
    · replace hf := ite_t c5 hf
      cases hf
      exact z_vret C rfl dX3_change_62
    · replace hf := ite_f c5 hf
      refine z_iload_n C 2 2 dX3_change_12 rfl rfl ?_
      refine z_iload C 4 dX3_change_13 rfl ?_
      refine z_iushr C dX3_change_15 ?_
      refine z_iconst C 1 dX3_change_16 (by decide) ?_
      refine z_iand C dX3_change_17 ?_
      refine z_if_ne C 24 dX3_change_18 (by decide) (fun c6 => ?_) (fun c6 => ?_)
      · replace hf := ite_f c6 hf
        refine z_aload_n C 0 0 dX3_change_24 rfl rfl ?_
        refine z_getR C ok_X3 (lay_c88 hL) 0 (60) (by decide) rfl (lay_r88_0 hL) q_fl_X3_9 dX3_change_25 ?_
        refine z_aload_n C 1 1 dX3_change_28 rfl rfl ?_
        refine z_getR C ok_X5 (Par_o h1) 4 (a1 + 1) (by decide) rfl (Par_r4 h1) q_fl_X3_78 dX3_change_29 ?_
        refine z_iload C 4 dX3_change_32 rfl ?_
        replace hf := gd_out hf
        obtain ⟨g7, hf⟩ := hf
        refine z_iald C (Par_c1 h1) (inb_in g7) dX3_change_34 ?_
        refine z_iload_n C 3 3 dX3_change_35 rfl rfl ?_
        refine z_iload C 4 dX3_change_36 rfl ?_
        refine z_iushr C dX3_change_38 ?_
        refine z_iconst C 1 dX3_change_39 (by decide) ?_
        refine z_iand C dX3_change_40 ?_
        refine z_if_eq C 52 dX3_change_41 (by decide) (fun c8 => ?_) (fun c8 => ?_)
        · replace hf := ite_t c8 hf
          refine z_iconst C 0 dX3_change_52 (by decide) ?_
          refine wX3_change_j53 C hs0 hL a1 h1 _ pp ?_ M1 y2 y3 y4 (gI M1 (a1 + 1) (ix y4)) 0 hf
          · intro M21 y22 y23 y24 hf
            exact ih M21 y22 y23 y24  hf
        · replace hf := ite_f c8 hf
          refine z_bipush C 10 dX3_change_44 (by decide) ?_
          refine z_iload C 4 dX3_change_46 rfl ?_
          refine z_iadd C dX3_change_48 ?_
          refine z_goto C 53 dX3_change_49 (by decide) ?_
          refine wX3_change_j53 C hs0 hL a1 h1 _ pp ?_ M1 y2 y3 y4 (gI M1 (a1 + 1) (ix y4)) (10 + y4) hf
          · intro M25 y26 y27 y28 hf
            exact ih M25 y26 y27 y28  hf
      · replace hf := ite_t c6 hf
        refine z_goto C 56 dX3_change_21 (by decide) ?_
        refine z_iinc C 4 (y4 + 1) [(4, .int (y4 + 1)), (0, .ref (G.1 + 88)), (1, .ref (G.1 + a1)), (2, .int y2), (3, .int y3)] dX3_change_56 rfl rfl (by decide) rfl rfl ?_
        refine z_goto C 3 dX3_change_59 (by decide) ?_
        refine z_lv (lv2 := [(0, .ref (G.1 + 88)), (1, .ref (G.1 + a1)), (2, .int y2), (3, .int y3), (4, .int (y4 + 1))]) [1, 2, 3, 4, 0] rfl ?_
        exact ih M1 y2 y3 (y4 + 1)  hf
set_option maxHeartbeats 4000000 in
set_option maxRecDepth 100000 in
theorem tX3_change (l : Launch) (G : GG) {K : SK} (hL : Lay K) (M : MM) (a1 : Nat) (h1 : Par K a1) (x2 : Int32) (x3 : Int32) (pp : MM) (hf : fX3_change M a1 x2 x3 = some pp) : Ct l yX3_change cX3_change 5 none 4 0 0 G K M [.ref (G.1 + 88), .ref (G.1 + a1), .int x2, .int x3] none K pp := by
  refine z_enter (lv := [(0, .ref (G.1 + 88)), (1, .ref (G.1 + a1)), (2, .int x2), (3, .int x3)]) (by decide +kernel) (Nat.le_of_ble_eq_true rfl) rfl ?_
  intro p e s m args below meth c C hnm hs0
  replace C : CX p s m args meth c cX3_change 5 none RX3 G := C
  unfold fX3_change at hf
  refine z_iconst C 0 dX3_change_0 (by decide) ?_
  refine z_istore C [(4, .int 0), (0, .ref (G.1 + 88)), (1, .ref (G.1 + a1)), (2, .int x2), (3, .int x3)] dX3_change_1 (by decide) rfl rfl ?_
  refine z_lv (lv2 := [(0, .ref (G.1 + 88)), (1, .ref (G.1 + a1)), (2, .int x2), (3, .int x3), (4, .int 0)]) [1, 2, 3, 4, 0] rfl ?_
  exact wX3_change_l3 C hs0 hL a1 h1 pp FU M x2 x3 0 hf
set_option maxHeartbeats 4000000 in
set_option maxRecDepth 100000 in
theorem wX3_differences_l5 (C : CX p s m args meth c cX3_differences 5 (some .int) RX3 G) (hs0 : s.heap.size = G.1 + K.1) (hL : Lay K) (M : MM) (a1 : Nat) (h1 : Lw K a1) (a2 : Nat) (h2 : Sg K a2)  (pp : Int32)  : ∀ (n : Nat) (y1 : Int32) (y2 : Int32) (hf : fX3_differences_l5 M a1 a2 n y1 y2 = some pp), Z p l e (rmo 3 0 0) s m args below meth c 5 G (MQ below (QC G (some (.int pp)) K M) args s 0 0 (AG G)) K 0 0 M 5 [(0, .ref (G.1 + 88)), (1, .ref (G.1 + a1)), (2, .ref (G.1 + a2)), (3, .int y1), (4, .int y2)] [] := by
  intro n
  induction n with
  | zero => intro y1 y2 hf; exact nomatch (show (none : Option Int32) = some pp from hf)
  | succ n ih =>
    intro y1 y2 hf
    rw [fX3_differences_l5.eq_2] at hf
    refine z_iload C 4 dX3_differences_5 rfl ?_
    refine z_aload_n C 0 0 dX3_differences_7 rfl rfl ?_
    refine z_getR C ok_X3 (lay_c88 hL) 0 (60) (by decide) rfl (lay_r88_0 hL) q_fl_X3_9 dX3_differences_8 ?_
    refine z_getR C ok_X0 (lay_c60 hL) 0 (61) (by decide) rfl (lay_r60_0 hL) q_fl_X3_85 dX3_differences_11 ?_
    refine z_getI C ok_X5 (lay_c61 hL) 3 (by decide) rfl q_fl_X3_89 dX3_differences_14 ?_
    refine z_icmp_ge C 64 dX3_differences_17 (by decide) (fun c3 => ?_) (fun c3 => ?_)
    · replace hf := ite_t c3 hf
      refine z_iload_n C 3 3 dX3_differences_64 rfl rfl ?_
      cases hf
      exact z_iret C rfl dX3_differences_65
    · replace hf := ite_f c3 hf
      refine z_aload_n C 2 2 dX3_differences_20 rfl rfl ?_
      refine z_getR C ok_X8 (Sg_o h2) 1 (a2 + 1) (by decide) rfl (Sg_r1 h2) q_fl_X3_92 dX3_differences_21 ?_
      refine z_iload C 4 dX3_differences_24 rfl ?_
      replace hf := gd_out hf
      obtain ⟨g4, hf⟩ := hf
      refine z_iald C (Sg_c1 h2) (inb_in g4) dX3_differences_26 ?_
      refine z_iconst C (-1) dX3_differences_27 (by decide) ?_
      refine z_icmp_ne C 34 dX3_differences_28 (by decide) (fun c5 => ?_) (fun c5 => ?_)
      · replace hf := ite_f c5 hf
        refine z_iload_n C 3 3 dX3_differences_34 rfl rfl ?_
        refine z_aload_n C 2 2 dX3_differences_35 rfl rfl ?_
        refine z_getR C ok_X8 (Sg_o h2) 1 (a2 + 1) (by decide) rfl (Sg_r1 h2) q_fl_X3_92 dX3_differences_36 ?_
        refine z_iload C 4 dX3_differences_39 rfl ?_
        replace hf := gd_out hf
        obtain ⟨g6, hf⟩ := hf
        refine z_iald C (Sg_c1 h2) (inb_in g6) dX3_differences_41 ?_
        refine z_aload_n C 0 0 dX3_differences_42 rfl rfl ?_
        refine z_getR C ok_X3 (lay_c88 hL) 0 (60) (by decide) rfl (lay_r88_0 hL) q_fl_X3_9 dX3_differences_43 ?_
        refine z_iload C 4 dX3_differences_46 rfl ?_
        refine z_aload_n C 1 1 dX3_differences_48 rfl rfl ?_
        replace hf := bd_out hf
        obtain ⟨p7, e8, hf⟩ := hf
        refine z_cV1 C [.int (gI M (a2 + 1) (ix y2)), .int y1] (tX0_countIn l G hL M y2 a1 h1 _ e8) lk_X0_countIn ok_X0 (lay_c60 hL) q_ml_X3_95 rfl ⟨Nat.le_of_ble_eq_true rfl, Nat.le_of_ble_eq_true rfl⟩ rfl (Nat.le_of_ble_eq_true rfl) ⟨Nat.le_refl _, Nat.le_refl _⟩ dX3_differences_49 ?_
        refine z_isub C dX3_differences_52 ?_
        refine z_mabs C lkm_abs q_ml_X3_99 (Nat.le_of_ble_eq_true rfl) (Nat.le_of_ble_eq_true rfl) ⟨Nat.le_refl _, Nat.le_refl _⟩ dX3_differences_53 ?_
        refine z_iadd C dX3_differences_56 ?_
        refine z_topi (fun v9 e10 => ?_)
        replace hf := bnd_out e10 hf
        refine z_istore_n C [(3, .int v9), (0, .ref (G.1 + 88)), (1, .ref (G.1 + a1)), (2, .ref (G.1 + a2)), (4, .int y2)] dX3_differences_57 rfl (by decide) rfl rfl ?_
        refine z_iinc C 4 (y2 + 1) [(4, .int (y2 + 1)), (3, .int v9), (0, .ref (G.1 + 88)), (1, .ref (G.1 + a1)), (2, .ref (G.1 + a2))] dX3_differences_58 rfl rfl (by decide) rfl rfl ?_
        refine z_goto C 5 dX3_differences_61 (by decide) ?_
        refine z_lv (lv2 := [(0, .ref (G.1 + 88)), (1, .ref (G.1 + a1)), (2, .ref (G.1 + a2)), (3, .int v9), (4, .int (y2 + 1))]) [2, 3, 4, 1, 0] rfl ?_
        exact ih v9 (y2 + 1)  hf
      · replace hf := ite_t c5 hf
        refine z_goto C 58 dX3_differences_31 (by decide) ?_
        refine z_iinc C 4 (y2 + 1) [(4, .int (y2 + 1)), (0, .ref (G.1 + 88)), (1, .ref (G.1 + a1)), (2, .ref (G.1 + a2)), (3, .int y1)] dX3_differences_58 rfl rfl (by decide) rfl rfl ?_
        refine z_goto C 5 dX3_differences_61 (by decide) ?_
        refine z_lv (lv2 := [(0, .ref (G.1 + 88)), (1, .ref (G.1 + a1)), (2, .ref (G.1 + a2)), (3, .int y1), (4, .int (y2 + 1))]) [1, 2, 3, 4, 0] rfl ?_
        exact ih y1 (y2 + 1)  hf
set_option maxHeartbeats 4000000 in
set_option maxRecDepth 100000 in
theorem tX3_differences (l : Launch) (G : GG) {K : SK} (hL : Lay K) (M : MM) (a1 : Nat) (h1 : Lw K a1) (a2 : Nat) (h2 : Sg K a2) (pp : Int32) (hf : fX3_differences M a1 a2 = some pp) : Ct l yX3_differences cX3_differences 5 (some .int) 3 0 0 G K M [.ref (G.1 + 88), .ref (G.1 + a1), .ref (G.1 + a2)] (some (.int pp)) K M := by
  refine z_enter (lv := [(0, .ref (G.1 + 88)), (1, .ref (G.1 + a1)), (2, .ref (G.1 + a2))]) (by decide +kernel) (Nat.le_of_ble_eq_true rfl) rfl ?_
  intro p e s m args below meth c C hnm hs0
  replace C : CX p s m args meth c cX3_differences 5 (some .int) RX3 G := C
  unfold fX3_differences at hf
  refine z_iconst C 0 dX3_differences_0 (by decide) ?_
  refine z_istore_n C [(3, .int 0), (0, .ref (G.1 + 88)), (1, .ref (G.1 + a1)), (2, .ref (G.1 + a2))] dX3_differences_1 rfl (by decide) rfl rfl ?_
  refine z_iconst C 0 dX3_differences_2 (by decide) ?_
  refine z_istore C [(4, .int 0), (3, .int 0), (0, .ref (G.1 + 88)), (1, .ref (G.1 + a1)), (2, .ref (G.1 + a2))] dX3_differences_3 (by decide) rfl rfl ?_
  refine z_lv (lv2 := [(0, .ref (G.1 + 88)), (1, .ref (G.1 + a1)), (2, .ref (G.1 + a2)), (3, .int 0), (4, .int 0)]) [2, 3, 4, 1, 0] rfl ?_
  exact wX3_differences_l5 C hs0 hL M a1 h1 a2 h2 pp FU 0 0 hf
set_option maxHeartbeats 4000000 in
set_option maxRecDepth 100000 in
theorem wX3_noteCounts_l2 (C : CX p s m args meth c cX3_noteCounts 4 none RX3 G) (hs0 : s.heap.size = G.1 + K.1) (hL : Lay K) (a1 : Nat) (h1 : Lw K a1)  (pp : MM)  : ∀ (n : Nat) (M1 : MM) (y2 : Int32) (hf : fX3_noteCounts_l2 a1 n M1 y2 = some pp), Z p l e (rmo 3 0 0) s m args below meth c 4 G (MQ below (QC G none K pp) args s 0 0 (AG G)) K 0 0 M1 2 [(0, .ref (G.1 + 88)), (1, .ref (G.1 + a1)), (2, .int y2)] [] := by
  intro n
  induction n with
  | zero => intro M1 y2 hf; exact nomatch (show (none : Option MM) = some pp from hf)
  | succ n ih =>
    intro M1 y2 hf
    rw [fX3_noteCounts_l2.eq_2] at hf
    refine z_iload_n C 2 2 dX3_noteCounts_2 rfl rfl ?_
    refine z_aload_n C 0 0 dX3_noteCounts_3 rfl rfl ?_
    refine z_getR C ok_X3 (lay_c88 hL) 0 (60) (by decide) rfl (lay_r88_0 hL) q_fl_X3_9 dX3_noteCounts_4 ?_
    refine z_getR C ok_X0 (lay_c60 hL) 0 (61) (by decide) rfl (lay_r60_0 hL) q_fl_X3_85 dX3_noteCounts_7 ?_
    refine z_getI C ok_X5 (lay_c61 hL) 3 (by decide) rfl q_fl_X3_89 dX3_noteCounts_10 ?_
    refine z_icmp_ge C 53 dX3_noteCounts_13 (by decide) (fun c3 => ?_) (fun c3 => ?_)
    · replace hf := ite_t c3 hf
      cases hf
      exact z_vret C rfl dX3_noteCounts_53
    · replace hf := ite_f c3 hf
      refine z_aload_n C 0 0 dX3_noteCounts_16 rfl rfl ?_
      refine z_getR C ok_X3 (lay_c88 hL) 0 (60) (by decide) rfl (lay_r88_0 hL) q_fl_X3_9 dX3_noteCounts_17 ?_
      refine z_iload_n C 2 2 dX3_noteCounts_20 rfl rfl ?_
      refine z_aload_n C 1 1 dX3_noteCounts_21 rfl rfl ?_
      replace hf := bd_out hf
      obtain ⟨p4, e5, hf⟩ := hf
      refine z_cV1 C [] (tX0_countIn l G hL M1 y2 a1 h1 _ e5) lk_X0_countIn ok_X0 (lay_c60 hL) q_ml_X3_95 rfl ⟨Nat.le_of_ble_eq_true rfl, Nat.le_of_ble_eq_true rfl⟩ rfl (Nat.le_of_ble_eq_true rfl) ⟨Nat.le_refl _, Nat.le_refl _⟩ dX3_noteCounts_22 ?_
      refine z_istore_n C [(3, .int p4), (0, .ref (G.1 + 88)), (1, .ref (G.1 + a1)), (2, .int y2)] dX3_noteCounts_25 rfl (by decide) rfl rfl ?_
      refine z_iload_n C 0 3 dX3_noteCounts_26 rfl rfl ?_
      refine z_bipush C 10 dX3_noteCounts_27 (by decide) ?_
      refine z_icmp_ge C 47 dX3_noteCounts_29 (by decide) (fun c6 => ?_) (fun c6 => ?_)
      · replace hf := ite_t c6 hf
        refine z_iinc C 3 (y2 + 1) [(2, .int (y2 + 1)), (3, .int p4), (0, .ref (G.1 + 88)), (1, .ref (G.1 + a1))] dX3_noteCounts_47 rfl rfl (by decide) rfl rfl ?_
        refine z_goto C 2 dX3_noteCounts_50 (by decide) ?_
        refine z_lv (lv2 := [(0, .ref (G.1 + 88)), (1, .ref (G.1 + a1)), (2, .int (y2 + 1))]) [2, 3, 0] rfl ?_
        exact ih M1 (y2 + 1)  hf
      · replace hf := ite_f c6 hf
        refine z_aload_n C 1 0 dX3_noteCounts_32 rfl rfl ?_
        refine z_getR C ok_X3 (lay_c88 hL) 6 (89) (by decide) rfl (lay_r88_6 hL) q_fl_X3_15 dX3_noteCounts_33 ?_
        refine z_bipush C 10 dX3_noteCounts_36 (by decide) ?_
        refine z_iload_n C 3 2 dX3_noteCounts_38 rfl rfl ?_
        refine z_imul C dX3_noteCounts_39 ?_
        refine z_iload_n C 0 3 dX3_noteCounts_40 rfl rfl ?_
        refine z_iadd C dX3_noteCounts_41 ?_
        refine z_dup2 C rfl rfl dX3_noteCounts_42 ?_
        replace hf := gd_out hf
        obtain ⟨g7, hf⟩ := hf
        refine z_iald C (lay_c89 hL) (inb_in g7) dX3_noteCounts_43 ?_
        refine z_iconst C 1 dX3_noteCounts_44 (by decide) ?_
        refine z_iadd C dX3_noteCounts_45 ?_
        replace hf := gd_out hf
        obtain ⟨g8, hf⟩ := hf
        refine z_iast C (lay_c89 hL) (inb_in g8) dX3_noteCounts_46 ?_
        refine z_M (fun M9 e10 => ?_)
        replace hf := bnd_out e10 hf
        refine z_iinc C 3 (y2 + 1) [(2, .int (y2 + 1)), (3, .int p4), (0, .ref (G.1 + 88)), (1, .ref (G.1 + a1))] dX3_noteCounts_47 rfl rfl (by decide) rfl rfl ?_
        refine z_goto C 2 dX3_noteCounts_50 (by decide) ?_
        refine z_lv (lv2 := [(0, .ref (G.1 + 88)), (1, .ref (G.1 + a1)), (2, .int (y2 + 1))]) [2, 3, 0] rfl ?_
        exact ih M9 (y2 + 1)  hf
set_option maxHeartbeats 4000000 in
set_option maxRecDepth 100000 in
theorem tX3_noteCounts (l : Launch) (G : GG) {K : SK} (hL : Lay K) (M : MM) (a1 : Nat) (h1 : Lw K a1) (pp : MM) (hf : fX3_noteCounts M a1 = some pp) : Ct l yX3_noteCounts cX3_noteCounts 4 none 3 0 0 G K M [.ref (G.1 + 88), .ref (G.1 + a1)] none K pp := by
  refine z_enter (lv := [(0, .ref (G.1 + 88)), (1, .ref (G.1 + a1))]) (by decide +kernel) (Nat.le_of_ble_eq_true rfl) rfl ?_
  intro p e s m args below meth c C hnm hs0
  replace C : CX p s m args meth c cX3_noteCounts 4 none RX3 G := C
  unfold fX3_noteCounts at hf
  refine z_iconst C 0 dX3_noteCounts_0 (by decide) ?_
  refine z_istore_n C [(2, .int 0), (0, .ref (G.1 + 88)), (1, .ref (G.1 + a1))] dX3_noteCounts_1 rfl (by decide) rfl rfl ?_
  refine z_lv (lv2 := [(0, .ref (G.1 + 88)), (1, .ref (G.1 + a1)), (2, .int 0)]) [1, 2, 0] rfl ?_
  exact wX3_noteCounts_l2 C hs0 hL a1 h1 pp FU M 0 hf
set_option maxHeartbeats 4000000 in
set_option maxRecDepth 100000 in
theorem wX3_measure_j154 (C : CX p s m args meth c cX3_measure 9 none RX3 G) (hs0 : s.heap.size = G.1 + K.1) (hL : Lay K) (a1 : Nat) (h1 : Par K a1) (a2 : Nat) (h2 : Lw K a2) (a3 : Nat) (h3 : Sg K a3) (k61 : MM → Int32 → Int32 → Int32 → Int32 → Option MM) (pp : MM) (hk61 : ∀ (M59 : MM) (y60 : Int32) (y61 : Int32) (y62 : Int32) (y63 : Int32), k61 M59 y60 y61 y62 y63 = some pp → Z p l e (rmo 5 0 0) s m args below meth c 9 G (MQ below (QC G none K pp) args s 0 0 (AG G)) K 0 0 M59 61 [(0, .ref (G.1 + 88)), (1, .ref (G.1 + a1)), (2, .ref (G.1 + a2)), (3, .ref (G.1 + a3)), (4, .int y60), (5, .int y61), (6, .int y62), (7, .int y63)] []) (M46 : MM) (y47 : Int32) (y48 : Int32) (y49 : Int32) (y50 : Int32) (hf : fX3_measure_j154 a1 a2 a3 k61 M46 y47 y48 y49 y50 = some pp) : Z p l e (rmo 5 0 0) s m args below meth c 9 G (MQ below (QC G none K pp) args s 0 0 (AG G)) K 0 0 M46 154 [(0, .ref (G.1 + 88)), (1, .ref (G.1 + a1)), (2, .ref (G.1 + a2)), (3, .ref (G.1 + a3)), (4, .int y47), (5, .int y48), (6, .int y49), (7, .int y50)] [] := by
  unfold fX3_measure_j154 at hf
  refine z_aload_n C 0 0 dX3_measure_154 rfl rfl ?_
  refine z_dup C rfl dX3_measure_155 ?_
  refine z_getI C ok_X3 (lay_c88 hL) 1 (by decide) rfl q_fl_X3_31 dX3_measure_156 ?_
  refine z_iconst C 1 dX3_measure_159 (by decide) ?_
  refine z_iadd C dX3_measure_160 ?_
  refine z_putI C ok_X3 (lay_c88 hL) 1 (by decide) rfl rfl rfl rfl q_fl_X3_31 dX3_measure_161 ?_
  refine z_M (fun M51 e52 => ?_)
  replace hf := bnd_out e52 hf
  refine z_aload_n C 0 0 dX3_measure_164 rfl rfl ?_
  refine z_dup C rfl dX3_measure_165 ?_
  refine z_getI C ok_X3 (lay_c88 hL) 2 (by decide) rfl q_fl_X3_34 dX3_measure_166 ?_
  refine z_iload C 7 dX3_measure_169 rfl ?_
  refine z_iand C dX3_measure_171 ?_
  refine z_putI C ok_X3 (lay_c88 hL) 2 (by decide) rfl rfl rfl rfl q_fl_X3_34 dX3_measure_172 ?_
  refine z_M (fun M53 e54 => ?_)
  replace hf := bnd_out e54 hf
  refine z_aload_n C 0 0 dX3_measure_175 rfl rfl ?_
  refine z_dup C rfl dX3_measure_176 ?_
  refine z_getI C ok_X3 (lay_c88 hL) 3 (by decide) rfl q_fl_X3_37 dX3_measure_177 ?_
  refine z_iload C 7 dX3_measure_180 rfl ?_
  refine z_iconst C (-1) dX3_measure_182 (by decide) ?_
  refine z_ixor C dX3_measure_183 ?_
  refine z_iand C dX3_measure_184 ?_
  refine z_putI C ok_X3 (lay_c88 hL) 3 (by decide) rfl rfl rfl rfl q_fl_X3_37 dX3_measure_185 ?_
  refine z_M (fun M55 e56 => ?_)
  replace hf := bnd_out e56 hf
  refine z_aload_n C 0 0 dX3_measure_188 rfl rfl ?_
  refine z_aload_n C 2 2 dX3_measure_189 rfl rfl ?_
  replace hf := bd_out hf
  obtain ⟨p57, e58, hf⟩ := hf
  refine z_cV0 C [] (tX3_noteCounts l G hL M55 a2 h2 _ e58) lk_X3_noteCounts ok_X3 (lay_c88 hL) q_ml_X3_74 rfl ⟨Nat.le_of_ble_eq_true rfl, Nat.le_of_ble_eq_true rfl⟩ rfl (Nat.le_of_ble_eq_true rfl) ⟨Nat.le_refl _, Nat.le_refl _⟩ dX3_measure_190 ?_
  refine z_iinc C 7 (y50 + 1) [(7, .int (y50 + 1)), (0, .ref (G.1 + 88)), (1, .ref (G.1 + a1)), (2, .ref (G.1 + a2)), (3, .ref (G.1 + a3)), (4, .int y47), (5, .int y48), (6, .int y49)] dX3_measure_193 rfl rfl (by decide) rfl rfl ?_
  refine z_goto C 61 dX3_measure_196 (by decide) ?_
  refine z_lv (lv2 := [(0, .ref (G.1 + 88)), (1, .ref (G.1 + a1)), (2, .ref (G.1 + a2)), (3, .ref (G.1 + a3)), (4, .int y47), (5, .int y48), (6, .int y49), (7, .int (y50 + 1))]) [1, 2, 3, 4, 5, 6, 7, 0] rfl ?_
  exact hk61 p57 y47 y48 y49 (y50 + 1)  hf
set_option maxHeartbeats 4000000 in
set_option maxRecDepth 100000 in
theorem wX3_measure_j127 (C : CX p s m args meth c cX3_measure 9 none RX3 G) (hs0 : s.heap.size = G.1 + K.1) (hL : Lay K) (a1 : Nat) (h1 : Par K a1) (a2 : Nat) (h2 : Lw K a2) (a3 : Nat) (h3 : Sg K a3) (k61 : MM → Int32 → Int32 → Int32 → Int32 → Option MM) (pp : MM) (hk61 : ∀ (M69 : MM) (y70 : Int32) (y71 : Int32) (y72 : Int32) (y73 : Int32), k61 M69 y70 y71 y72 y73 = some pp → Z p l e (rmo 5 0 0) s m args below meth c 9 G (MQ below (QC G none K pp) args s 0 0 (AG G)) K 0 0 M69 61 [(0, .ref (G.1 + 88)), (1, .ref (G.1 + a1)), (2, .ref (G.1 + a2)), (3, .ref (G.1 + a3)), (4, .int y70), (5, .int y71), (6, .int y72), (7, .int y73)] []) (M38 : MM) (y39 : Int32) (y40 : Int32) (y41 : Int32) (y42 : Int32) (y43 : Int32) (hf : fX3_measure_j127 a1 a2 a3 k61 M38 y39 y40 y41 y42 y43 = some pp) : Z p l e (rmo 5 0 0) s m args below meth c 9 G (MQ below (QC G none K pp) args s 0 0 (AG G)) K 0 0 M38 127 [(0, .ref (G.1 + 88)), (1, .ref (G.1 + a1)), (2, .ref (G.1 + a2)), (3, .ref (G.1 + a3)), (4, .int y39), (5, .int y40), (6, .int y41), (7, .int y42), (8, .int y43)] [] := by
  unfold fX3_measure_j127 at hf
  refine z_iload C 8 dX3_measure_127 rfl ?_
  refine z_aload_n C 3 3 dX3_measure_129 rfl rfl ?_
  refine z_getI C ok_X8 (Sg_o h3) 0 (by decide) rfl q_fl_X3_69 dX3_measure_130 ?_
  refine z_icmp_le C 139 dX3_measure_133 (by decide) (fun c44 => ?_) (fun c44 => ?_)
  · replace hf := ite_t c44 hf
    refine z_aload_n C 0 0 dX3_measure_139 rfl rfl ?_
    refine z_getI C ok_X3 (lay_c88 hL) 1 (by decide) rfl q_fl_X3_31 dX3_measure_140 ?_
    refine z_iload C 4 dX3_measure_143 rfl ?_
    refine z_icmp_ne C 154 dX3_measure_145 (by decide) (fun c45 => ?_) (fun c45 => ?_)
    · replace hf := ite_f c45 hf
      refine z_lv (lv2 := [(0, .ref (G.1 + 88)), (1, .ref (G.1 + a1)), (2, .ref (G.1 + a2)), (3, .ref (G.1 + a3)), (4, .int y39), (5, .int y40), (6, .int y41), (7, .int y42)]) [0, 1, 2, 3, 4, 5, 6, 7] rfl ?_
      refine wX3_measure_j154 C hs0 hL a1 h1 a2 h2 a3 h3 _ pp ?_ M38 y39 y40 y41 y42 hf
      · intro M64 y65 y66 y67 y68 hf
        exact hk61 M64 y65 y66 y67 y68  hf
    · replace hf := ite_t c45 hf
      refine z_aload_n C 0 0 dX3_measure_148 rfl rfl ?_
      refine z_iload C 7 dX3_measure_149 rfl ?_
      refine z_putI C ok_X3 (lay_c88 hL) 5 (by decide) rfl rfl rfl rfl q_fl_X3_43 dX3_measure_151 ?_
      refine z_M (fun M74 e75 => ?_)
      replace hf := bnd_out e75 hf
      refine z_lv (lv2 := [(0, .ref (G.1 + 88)), (1, .ref (G.1 + a1)), (2, .ref (G.1 + a2)), (3, .ref (G.1 + a3)), (4, .int y39), (5, .int y40), (6, .int y41), (7, .int y42)]) [0, 1, 2, 3, 4, 5, 6, 7] rfl ?_
      refine wX3_measure_j154 C hs0 hL a1 h1 a2 h2 a3 h3 _ pp ?_ M74 y39 y40 y41 y42 hf
      · intro M76 y77 y78 y79 y80 hf
        exact hk61 M76 y77 y78 y79 y80  hf
  · replace hf := ite_f c44 hf
    refine z_goto C 193 dX3_measure_136 (by decide) ?_
    refine z_iinc C 7 (y42 + 1) [(7, .int (y42 + 1)), (0, .ref (G.1 + 88)), (1, .ref (G.1 + a1)), (2, .ref (G.1 + a2)), (3, .ref (G.1 + a3)), (4, .int y39), (5, .int y40), (6, .int y41), (8, .int y43)] dX3_measure_193 rfl rfl (by decide) rfl rfl ?_
    refine z_goto C 61 dX3_measure_196 (by decide) ?_
    refine z_lv (lv2 := [(0, .ref (G.1 + 88)), (1, .ref (G.1 + a1)), (2, .ref (G.1 + a2)), (3, .ref (G.1 + a3)), (4, .int y39), (5, .int y40), (6, .int y41), (7, .int (y42 + 1))]) [1, 2, 3, 4, 5, 6, 7, 0] rfl ?_
    exact hk61 M38 y39 y40 y41 (y42 + 1)  hf
set_option maxHeartbeats 4000000 in
set_option maxRecDepth 100000 in
theorem wX3_measure_j121 (C : CX p s m args meth c cX3_measure 9 none RX3 G) (hs0 : s.heap.size = G.1 + K.1) (hL : Lay K) (a1 : Nat) (h1 : Par K a1) (a2 : Nat) (h2 : Lw K a2) (a3 : Nat) (h3 : Sg K a3) (k61 : MM → Int32 → Int32 → Int32 → Int32 → Option MM) (pp : MM) (hk61 : ∀ (M86 : MM) (y87 : Int32) (y88 : Int32) (y89 : Int32) (y90 : Int32), k61 M86 y87 y88 y89 y90 = some pp → Z p l e (rmo 5 0 0) s m args below meth c 9 G (MQ below (QC G none K pp) args s 0 0 (AG G)) K 0 0 M86 61 [(0, .ref (G.1 + 88)), (1, .ref (G.1 + a1)), (2, .ref (G.1 + a2)), (3, .ref (G.1 + a3)), (4, .int y87), (5, .int y88), (6, .int y89), (7, .int y90)] []) (M30 : MM) (y31 : Int32) (y32 : Int32) (y33 : Int32) (y34 : Int32) (y35 : Int32) (hf : fX3_measure_j121 a1 a2 a3 k61 M30 y31 y32 y33 y34 y35 = some pp) : Z p l e (rmo 5 0 0) s m args below meth c 9 G (MQ below (QC G none K pp) args s 0 0 (AG G)) K 0 0 M30 121 [(0, .ref (G.1 + 88)), (1, .ref (G.1 + a1)), (2, .ref (G.1 + a2)), (3, .ref (G.1 + a3)), (4, .int y31), (5, .int y32), (6, .int y33), (7, .int y34), (8, .int y35)] [] := by
  unfold fX3_measure_j121 at hf
  refine z_aload_n C 0 0 dX3_measure_121 rfl rfl ?_
  refine z_iload C 8 dX3_measure_122 rfl ?_
  refine z_putI C ok_X3 (lay_c88 hL) 4 (by decide) rfl rfl rfl rfl q_fl_X3_40 dX3_measure_124 ?_
  refine z_M (fun M36 e37 => ?_)
  replace hf := bnd_out e37 hf
  refine wX3_measure_j127 C hs0 hL a1 h1 a2 h2 a3 h3 _ pp ?_ M36 y31 y32 y33 y34 y35 hf
  · intro M81 y82 y83 y84 y85 hf
    exact hk61 M81 y82 y83 y84 y85  hf
set_option maxHeartbeats 4000000 in
set_option maxRecDepth 100000 in
theorem wX3_measure_l61 (C : CX p s m args meth c cX3_measure 9 none RX3 G) (hs0 : s.heap.size = G.1 + K.1) (hL : Lay K) (a1 : Nat) (h1 : Par K a1) (a2 : Nat) (h2 : Lw K a2) (a3 : Nat) (h3 : Sg K a3)  (pp : MM)  : ∀ (n : Nat) (M17 : MM) (y18 : Int32) (y19 : Int32) (y20 : Int32) (y21 : Int32) (hf : fX3_measure_l61 a1 a2 a3 n M17 y18 y19 y20 y21 = some pp), Z p l e (rmo 5 0 0) s m args below meth c 9 G (MQ below (QC G none K pp) args s 0 0 (AG G)) K 0 0 M17 61 [(0, .ref (G.1 + 88)), (1, .ref (G.1 + a1)), (2, .ref (G.1 + a2)), (3, .ref (G.1 + a3)), (4, .int y18), (5, .int y19), (6, .int y20), (7, .int y21)] [] := by
  intro n
  induction n with
  | zero => intro M17 y18 y19 y20 y21 hf; exact nomatch (show (none : Option MM) = some pp from hf)
  | succ n ih =>
    intro M17 y18 y19 y20 y21 hf
    rw [fX3_measure_l61.eq_2] at hf
    refine z_iload C 7 dX3_measure_61 rfl ?_
    refine z_iload C 5 dX3_measure_63 rfl ?_
    refine z_icmp_gt C 199 dX3_measure_65 (by decide) (fun c22 => ?_) (fun c22 => ?_)
    · replace hf := ite_t c22 hf
      cases hf
      exact z_vret C rfl dX3_measure_199
    · replace hf := ite_f c22 hf
      refine z_aload_n C 0 0 dX3_measure_68 rfl rfl ?_
      refine z_aload_n C 1 1 dX3_measure_69 rfl rfl ?_
      refine z_iload C 6 dX3_measure_70 rfl ?_
      refine z_iload C 7 dX3_measure_72 rfl ?_
      refine z_ixor C dX3_measure_74 ?_
      refine z_iload C 7 dX3_measure_75 rfl ?_
      replace hf := bd_out hf
      obtain ⟨p23, e24, hf⟩ := hf
      refine z_cV0 C [] (tX3_change l G hL M17 a1 h1 (y20 ^^^ y21) y21 _ e24) lk_X3_change ok_X3 (lay_c88 hL) q_ml_X3_52 rfl ⟨Nat.le_of_ble_eq_true rfl, Nat.le_of_ble_eq_true rfl⟩ rfl (Nat.le_of_ble_eq_true rfl) ⟨Nat.le_refl _, Nat.le_refl _⟩ dX3_measure_77 ?_
      refine z_iload C 7 dX3_measure_80 rfl ?_
      refine z_istore C [(6, .int y21), (0, .ref (G.1 + 88)), (1, .ref (G.1 + a1)), (2, .ref (G.1 + a2)), (3, .ref (G.1 + a3)), (4, .int y18), (5, .int y19), (7, .int y21)] dX3_measure_82 (by decide) rfl rfl ?_
      refine z_aload_n C 1 0 dX3_measure_84 rfl rfl ?_
      refine z_getR C ok_X3 (lay_c88 hL) 0 (60) (by decide) rfl (lay_r88_0 hL) q_fl_X3_9 dX3_measure_85 ?_
      refine z_aload_n C 3 2 dX3_measure_88 rfl rfl ?_
      refine z_getI C ok_X4 (Lw_o h2) 0 (by decide) rfl q_fl_X3_56 dX3_measure_89 ?_
      replace hf := bd_out hf
      obtain ⟨p25, e26, hf⟩ := hf
      refine z_cV1 C [] (tX0_spread l G hL p23 (gI p23 a2 0) _ e26) lk_X0_spread ok_X0 (lay_c60 hL) q_ml_X3_61 rfl ⟨Nat.le_of_ble_eq_true rfl, Nat.le_of_ble_eq_true rfl⟩ rfl (Nat.le_of_ble_eq_true rfl) ⟨Nat.le_refl _, Nat.le_refl _⟩ dX3_measure_92 ?_
      refine z_pop C rfl dX3_measure_95 ?_
      refine z_aload_n C 1 0 dX3_measure_96 rfl rfl ?_
      refine z_aload_n C 3 2 dX3_measure_97 rfl rfl ?_
      refine z_aload_n C 4 3 dX3_measure_98 rfl rfl ?_
      replace hf := bd_out hf
      obtain ⟨p27, e28, hf⟩ := hf
      refine z_cV1 C [] (tX3_differences l G hL p25.2 a2 h2 a3 h3 _ e28) lk_X3_differences ok_X3 (lay_c88 hL) q_ml_X3_65 rfl ⟨Nat.le_of_ble_eq_true rfl, Nat.le_of_ble_eq_true rfl⟩ rfl (Nat.le_of_ble_eq_true rfl) ⟨Nat.le_refl _, Nat.le_refl _⟩ dX3_measure_99 ?_
      refine z_istore C [(8, .int p27), (6, .int y21), (0, .ref (G.1 + 88)), (1, .ref (G.1 + a1)), (2, .ref (G.1 + a2)), (3, .ref (G.1 + a3)), (4, .int y18), (5, .int y19), (7, .int y21)] dX3_measure_102 (by decide) rfl rfl ?_
      refine z_aload_n C 2 0 dX3_measure_104 rfl rfl ?_
      refine z_getI C ok_X3 (lay_c88 hL) 4 (by decide) rfl q_fl_X3_40 dX3_measure_105 ?_
      refine z_iconst C (-1) dX3_measure_108 (by decide) ?_
      refine z_icmp_eq C 121 dX3_measure_109 (by decide) (fun c29 => ?_) (fun c29 => ?_)
      · replace hf := ite_t c29 hf
        refine z_lv (lv2 := [(0, .ref (G.1 + 88)), (1, .ref (G.1 + a1)), (2, .ref (G.1 + a2)), (3, .ref (G.1 + a3)), (4, .int y18), (5, .int y19), (6, .int y21), (7, .int y21), (8, .int p27)]) [2, 3, 4, 5, 6, 7, 1, 8, 0] rfl ?_
        refine wX3_measure_j121 C hs0 hL a1 h1 a2 h2 a3 h3 _ pp ?_ p25.2 y18 y19 y21 y21 p27 hf
        · intro M91 y92 y93 y94 y95 hf
          exact ih M91 y92 y93 y94 y95  hf
      · replace hf := ite_f c29 hf
        refine z_iload C 0 dX3_measure_112 rfl ?_
        refine z_aload_n C 2 0 dX3_measure_114 rfl rfl ?_
        refine z_getI C ok_X3 (lay_c88 hL) 4 (by decide) rfl q_fl_X3_40 dX3_measure_115 ?_
        refine z_icmp_ge C 127 dX3_measure_118 (by decide) (fun c96 => ?_) (fun c96 => ?_)
        · replace hf := ite_t c96 hf
          refine z_lv (lv2 := [(0, .ref (G.1 + 88)), (1, .ref (G.1 + a1)), (2, .ref (G.1 + a2)), (3, .ref (G.1 + a3)), (4, .int y18), (5, .int y19), (6, .int y21), (7, .int y21), (8, .int p27)]) [2, 3, 4, 5, 6, 7, 1, 8, 0] rfl ?_
          refine wX3_measure_j127 C hs0 hL a1 h1 a2 h2 a3 h3 _ pp ?_ p25.2 y18 y19 y21 y21 p27 hf
          · intro M97 y98 y99 y100 y101 hf
            exact ih M97 y98 y99 y100 y101  hf
        · replace hf := ite_f c96 hf
          refine z_lv (lv2 := [(0, .ref (G.1 + 88)), (1, .ref (G.1 + a1)), (2, .ref (G.1 + a2)), (3, .ref (G.1 + a3)), (4, .int y18), (5, .int y19), (6, .int y21), (7, .int y21), (8, .int p27)]) [2, 3, 4, 5, 6, 7, 1, 8, 0] rfl ?_
          refine wX3_measure_j121 C hs0 hL a1 h1 a2 h2 a3 h3 _ pp ?_ p25.2 y18 y19 y21 y21 p27 hf
          · intro M102 y103 y104 y105 y106 hf
            exact ih M102 y103 y104 y105 y106  hf
set_option maxHeartbeats 4000000 in
set_option maxRecDepth 100000 in
theorem tX3_measure (l : Launch) (G : GG) {K : SK} (hL : Lay K) (M : MM) (a1 : Nat) (h1 : Par K a1) (a2 : Nat) (h2 : Lw K a2) (a3 : Nat) (h3 : Sg K a3) (x4 : Int32) (pp : MM) (hf : fX3_measure M a1 a2 a3 x4 = some pp) : Ct l yX3_measure cX3_measure 9 none 5 0 0 G K M [.ref (G.1 + 88), .ref (G.1 + a1), .ref (G.1 + a2), .ref (G.1 + a3), .int x4] none K pp := by
  refine z_enter (lv := [(0, .ref (G.1 + 88)), (1, .ref (G.1 + a1)), (2, .ref (G.1 + a2)), (3, .ref (G.1 + a3)), (4, .int x4)]) (by decide +kernel) (Nat.le_of_ble_eq_true rfl) rfl ?_
  intro p e s m args below meth c C hnm hs0
  replace C : CX p s m args meth c cX3_measure 9 none RX3 G := C
  unfold fX3_measure at hf
  refine z_iconst C 1 dX3_measure_0 (by decide) ?_
  refine z_aload_n C 1 1 dX3_measure_1 rfl rfl ?_
  refine z_getI C ok_X5 (Par_o h1) 2 (by decide) rfl q_fl_X3_19 dX3_measure_2 ?_
  refine z_ishl C dX3_measure_5 ?_
  refine z_iconst C 1 dX3_measure_6 (by decide) ?_
  refine z_isub C dX3_measure_7 ?_
  refine z_topi (fun v1 e2 => ?_)
  replace hf := bnd_out e2 hf
  refine z_istore C [(5, .int v1), (0, .ref (G.1 + 88)), (1, .ref (G.1 + a1)), (2, .ref (G.1 + a2)), (3, .ref (G.1 + a3)), (4, .int x4)] dX3_measure_8 (by decide) rfl rfl ?_
  refine z_aload_n C 1 0 dX3_measure_10 rfl rfl ?_
  refine z_getR C ok_X3 (lay_c88 hL) 0 (60) (by decide) rfl (lay_r88_0 hL) q_fl_X3_9 dX3_measure_11 ?_
  refine z_aload_n C 2 1 dX3_measure_14 rfl rfl ?_
  replace hf := bd_out hf
  obtain ⟨p3, e4, hf⟩ := hf
  refine z_cV0 C [] (tX0_begin l G hL M a1 h1 _ e4) lk_X0_begin ok_X0 (lay_c60 hL) q_ml_X3_25 rfl ⟨Nat.le_of_ble_eq_true rfl, Nat.le_of_ble_eq_true rfl⟩ rfl (Nat.le_of_ble_eq_true rfl) ⟨Nat.le_refl _, Nat.le_refl _⟩ dX3_measure_15 ?_
  refine z_aload_n C 1 0 dX3_measure_18 rfl rfl ?_
  refine z_iconst C 0 dX3_measure_19 (by decide) ?_
  refine z_putI C ok_X3 (lay_c88 hL) 1 (by decide) rfl rfl rfl rfl q_fl_X3_31 dX3_measure_20 ?_
  refine z_M (fun M5 e6 => ?_)
  replace hf := bnd_out e6 hf
  refine z_aload_n C 1 0 dX3_measure_23 rfl rfl ?_
  refine z_iload C 0 dX3_measure_24 rfl ?_
  refine z_putI C ok_X3 (lay_c88 hL) 2 (by decide) rfl rfl rfl rfl q_fl_X3_34 dX3_measure_26 ?_
  refine z_M (fun M7 e8 => ?_)
  replace hf := bnd_out e8 hf
  refine z_aload_n C 1 0 dX3_measure_29 rfl rfl ?_
  refine z_iload C 0 dX3_measure_30 rfl ?_
  refine z_putI C ok_X3 (lay_c88 hL) 3 (by decide) rfl rfl rfl rfl q_fl_X3_37 dX3_measure_32 ?_
  refine z_M (fun M9 e10 => ?_)
  replace hf := bnd_out e10 hf
  refine z_aload_n C 1 0 dX3_measure_35 rfl rfl ?_
  refine z_iconst C (-1) dX3_measure_36 (by decide) ?_
  refine z_putI C ok_X3 (lay_c88 hL) 4 (by decide) rfl rfl rfl rfl q_fl_X3_40 dX3_measure_37 ?_
  refine z_M (fun M11 e12 => ?_)
  replace hf := bnd_out e12 hf
  refine z_aload_n C 1 0 dX3_measure_40 rfl rfl ?_
  refine z_bipush C (-2) dX3_measure_41 (by decide) ?_
  refine z_putI C ok_X3 (lay_c88 hL) 5 (by decide) rfl rfl rfl rfl q_fl_X3_43 dX3_measure_43 ?_
  refine z_M (fun M13 e14 => ?_)
  replace hf := bnd_out e14 hf
  refine z_aload_n C 1 0 dX3_measure_46 rfl rfl ?_
  refine z_getR C ok_X3 (lay_c88 hL) 6 (89) (by decide) rfl (lay_r88_6 hL) q_fl_X3_15 dX3_measure_47 ?_
  refine z_iconst C 0 dX3_measure_50 (by decide) ?_
  replace hf := bd_out hf
  obtain ⟨p15, e16, hf⟩ := hf
  refine z_cS0 C [] (tJ7_fill_53178 l G M13 89 80 (lay_c89 hL) 0 _ e16) lk_J7_fill_53178 q_ml_X3_46 rfl ⟨Nat.le_of_ble_eq_true rfl, Nat.le_of_ble_eq_true rfl⟩ rfl (Nat.le_of_ble_eq_true rfl) ⟨Nat.le_refl _, Nat.le_refl _⟩ dX3_measure_51 ?_
  refine z_iload C 0 dX3_measure_54 rfl ?_
  refine z_istore C [(6, .int v1), (5, .int v1), (0, .ref (G.1 + 88)), (1, .ref (G.1 + a1)), (2, .ref (G.1 + a2)), (3, .ref (G.1 + a3)), (4, .int x4)] dX3_measure_56 (by decide) rfl rfl ?_
  refine z_iconst C 0 dX3_measure_58 (by decide) ?_
  refine z_istore C [(7, .int 0), (6, .int v1), (5, .int v1), (0, .ref (G.1 + 88)), (1, .ref (G.1 + a1)), (2, .ref (G.1 + a2)), (3, .ref (G.1 + a3)), (4, .int x4)] dX3_measure_59 (by decide) rfl rfl ?_
  refine z_lv (lv2 := [(0, .ref (G.1 + 88)), (1, .ref (G.1 + a1)), (2, .ref (G.1 + a2)), (3, .ref (G.1 + a3)), (4, .int x4), (5, .int v1), (6, .int v1), (7, .int 0)]) [3, 4, 5, 6, 7, 2, 1, 0] rfl ?_
  exact wX3_measure_l61 C hs0 hL a1 h1 a2 h2 a3 h3 pp FU p15 x4 v1 v1 0 hf
set_option maxHeartbeats 4000000 in
set_option maxRecDepth 100000 in
theorem wX3_nextShine_l26 (C : CX p s m args meth c cX3_nextShine 6 (some .int) RX3 G) (hs0 : s.heap.size = G.1 + K.1) (hL : Lay K) (M : MM) (k58 : Int32 → Int32 → Int32 → Int32 → Option Int32) (pp : Int32) (hk58 : ∀ (y11 : Int32) (y12 : Int32) (y13 : Int32) (y14 : Int32), k58 y11 y12 y13 y14 = some pp → Z p l e (rmo 1 0 0) s m args below meth c 6 G (MQ below (QC G (some (.int pp)) K M) args s 0 0 (AG G)) K 0 0 M 58 [(0, .ref (G.1 + 88)), (1, .int y11), (2, .int y12), (3, .int y13), (4, .int y14)] []) : ∀ (n : Nat) (y5 : Int32) (y6 : Int32) (y7 : Int32) (y8 : Int32) (y9 : Int32) (hf : fX3_nextShine_l26 M k58 n y5 y6 y7 y8 y9 = some pp), Z p l e (rmo 1 0 0) s m args below meth c 6 G (MQ below (QC G (some (.int pp)) K M) args s 0 0 (AG G)) K 0 0 M 26 [(0, .ref (G.1 + 88)), (1, .int y5), (2, .int y6), (3, .int y7), (4, .int y8), (5, .int y9)] [] := by
  intro n
  induction n with
  | zero => intro y5 y6 y7 y8 y9 hf; exact nomatch (show (none : Option Int32) = some pp from hf)
  | succ n ih =>
    intro y5 y6 y7 y8 y9 hf
    rw [fX3_nextShine_l26.eq_2] at hf
    refine z_iload C 5 dX3_nextShine_26 rfl ?_
    refine z_bipush C 10 dX3_nextShine_28 (by decide) ?_
    refine z_icmp_ge C 58 dX3_nextShine_30 (by decide) (fun c10 => ?_) (fun c10 => ?_)
    · replace hf := ite_t c10 hf
      refine z_lv (lv2 := [(0, .ref (G.1 + 88)), (1, .int y5), (2, .int y6), (3, .int y7), (4, .int y8)]) [0, 1, 2, 3, 4] rfl ?_
      exact hk58 y5 y6 y7 y8  hf
    · replace hf := ite_f c10 hf
      refine z_iload C 4 dX3_nextShine_33 rfl ?_
      refine z_aload_n C 0 0 dX3_nextShine_35 rfl rfl ?_
      refine z_getR C ok_X3 (lay_c88 hL) 6 (89) (by decide) rfl (lay_r88_6 hL) q_fl_X3_15 dX3_nextShine_36 ?_
      refine z_bipush C 10 dX3_nextShine_39 (by decide) ?_
      refine z_iload_n C 3 3 dX3_nextShine_41 rfl rfl ?_
      refine z_imul C dX3_nextShine_42 ?_
      refine z_iload C 5 dX3_nextShine_43 rfl ?_
      refine z_iadd C dX3_nextShine_45 ?_
      replace hf := gd_out hf
      obtain ⟨g15, hf⟩ := hf
      refine z_iald C (lay_c89 hL) (inb_in g15) dX3_nextShine_46 ?_
      refine z_mmax C lkm_max q_ml_X3_104 (Nat.le_of_ble_eq_true rfl) (Nat.le_of_ble_eq_true rfl) ⟨Nat.le_refl _, Nat.le_refl _⟩ dX3_nextShine_47 ?_
      refine z_topi (fun v16 e17 => ?_)
      replace hf := bnd_out e17 hf
      refine z_istore C [(4, .int v16), (0, .ref (G.1 + 88)), (1, .int y5), (2, .int y6), (3, .int y7), (5, .int y9)] dX3_nextShine_50 (by decide) rfl rfl ?_
      refine z_iinc C 5 (y9 + 1) [(5, .int (y9 + 1)), (4, .int v16), (0, .ref (G.1 + 88)), (1, .int y5), (2, .int y6), (3, .int y7)] dX3_nextShine_52 rfl rfl (by decide) rfl rfl ?_
      refine z_goto C 26 dX3_nextShine_55 (by decide) ?_
      refine z_lv (lv2 := [(0, .ref (G.1 + 88)), (1, .int y5), (2, .int y6), (3, .int y7), (4, .int v16), (5, .int (y9 + 1))]) [2, 3, 4, 5, 1, 0] rfl ?_
      exact ih y5 y6 y7 v16 (y9 + 1)  hf
set_option maxHeartbeats 4000000 in
set_option maxRecDepth 100000 in
theorem wX3_nextShine_j72 (C : CX p s m args meth c cX3_nextShine 6 (some .int) RX3 G) (hs0 : s.heap.size = G.1 + K.1) (hL : Lay K) (M : MM) (k6 : Int32 → Int32 → Int32 → Option Int32) (pp : Int32) (hk6 : ∀ (y25 : Int32) (y26 : Int32) (y27 : Int32), k6 y25 y26 y27 = some pp → Z p l e (rmo 1 0 0) s m args below meth c 6 G (MQ below (QC G (some (.int pp)) K M) args s 0 0 (AG G)) K 0 0 M 6 [(0, .ref (G.1 + 88)), (1, .int y25), (2, .int y26), (3, .int y27)] []) (y23 : Int32) (y24 : Int32) (hf : fX3_nextShine_j72 M k6 y23 y24 = some pp) : Z p l e (rmo 1 0 0) s m args below meth c 6 G (MQ below (QC G (some (.int pp)) K M) args s 0 0 (AG G)) K 0 0 M 72 [(0, .ref (G.1 + 88)), (3, .int y23), (4, .int y24)] [] := by
  unfold fX3_nextShine_j72 at hf
  refine z_iload_n C 1 3 dX3_nextShine_72 rfl rfl ?_
  refine z_istore_n C [(1, .int y23), (0, .ref (G.1 + 88)), (3, .int y23), (4, .int y24)] dX3_nextShine_73 rfl (by decide) rfl rfl ?_
  refine z_iload C 3 dX3_nextShine_74 rfl ?_
  refine z_istore_n C [(2, .int y24), (1, .int y23), (0, .ref (G.1 + 88)), (3, .int y23), (4, .int y24)] dX3_nextShine_76 rfl (by decide) rfl rfl ?_
  refine z_iinc C 3 (y23 + 1) [(3, .int (y23 + 1)), (2, .int y24), (1, .int y23), (0, .ref (G.1 + 88)), (4, .int y24)] dX3_nextShine_77 rfl rfl (by decide) rfl rfl ?_
  refine z_goto C 6 dX3_nextShine_80 (by decide) ?_
  refine z_lv (lv2 := [(0, .ref (G.1 + 88)), (1, .int y23), (2, .int y24), (3, .int (y23 + 1))]) [3, 2, 1, 0] rfl ?_
  exact hk6 y23 y24 (y23 + 1)  hf
set_option maxHeartbeats 4000000 in
set_option maxRecDepth 100000 in
theorem wX3_nextShine_l6 (C : CX p s m args meth c cX3_nextShine 6 (some .int) RX3 G) (hs0 : s.heap.size = G.1 + K.1) (hL : Lay K) (M : MM)  (pp : Int32)  : ∀ (n : Nat) (y1 : Int32) (y2 : Int32) (y3 : Int32) (hf : fX3_nextShine_l6 M n y1 y2 y3 = some pp), Z p l e (rmo 1 0 0) s m args below meth c 6 G (MQ below (QC G (some (.int pp)) K M) args s 0 0 (AG G)) K 0 0 M 6 [(0, .ref (G.1 + 88)), (1, .int y1), (2, .int y2), (3, .int y3)] [] := by
  intro n
  induction n with
  | zero => intro y1 y2 y3 hf; exact nomatch (show (none : Option Int32) = some pp from hf)
  | succ n ih =>
    intro y1 y2 y3 hf
    rw [fX3_nextShine_l6.eq_2] at hf
    refine z_iload_n C 3 3 dX3_nextShine_6 rfl rfl ?_
    refine z_aload_n C 0 0 dX3_nextShine_7 rfl rfl ?_
    refine z_getR C ok_X3 (lay_c88 hL) 0 (60) (by decide) rfl (lay_r88_0 hL) q_fl_X3_9 dX3_nextShine_8 ?_
    refine z_getR C ok_X0 (lay_c60 hL) 0 (61) (by decide) rfl (lay_r60_0 hL) q_fl_X3_85 dX3_nextShine_11 ?_
    refine z_getI C ok_X5 (lay_c61 hL) 3 (by decide) rfl q_fl_X3_89 dX3_nextShine_14 ?_
    refine z_icmp_ge C 83 dX3_nextShine_17 (by decide) (fun c4 => ?_) (fun c4 => ?_)
    · replace hf := ite_t c4 hf
      refine z_iload_n C 1 1 dX3_nextShine_83 rfl rfl ?_
      cases hf
      exact z_iret C rfl dX3_nextShine_84
    · replace hf := ite_f c4 hf
      refine z_iconst C 0 dX3_nextShine_20 (by decide) ?_
      refine z_istore C [(4, .int 0), (0, .ref (G.1 + 88)), (1, .int y1), (2, .int y2), (3, .int y3)] dX3_nextShine_21 (by decide) rfl rfl ?_
      refine z_iconst C 0 dX3_nextShine_23 (by decide) ?_
      refine z_istore C [(5, .int 0), (4, .int 0), (0, .ref (G.1 + 88)), (1, .int y1), (2, .int y2), (3, .int y3)] dX3_nextShine_24 (by decide) rfl rfl ?_
      refine z_lv (lv2 := [(0, .ref (G.1 + 88)), (1, .int y1), (2, .int y2), (3, .int y3), (4, .int 0), (5, .int 0)]) [2, 3, 4, 5, 1, 0] rfl ?_
      refine wX3_nextShine_l26 C hs0 hL M _ pp ?_ FU y1 y2 y3 0 0 hf
      · intro y18 y19 y20 y21 hf
        refine z_iload_n C 1 1 dX3_nextShine_58 rfl rfl ?_
        refine z_iconst C (-1) dX3_nextShine_59 (by decide) ?_
        refine z_icmp_eq C 72 dX3_nextShine_60 (by decide) (fun c22 => ?_) (fun c22 => ?_)
        · replace hf := ite_t c22 hf
          refine z_lv (lv2 := [(0, .ref (G.1 + 88)), (3, .int y20), (4, .int y21)]) [0, 3, 4] rfl ?_
          refine wX3_nextShine_j72 C hs0 hL M _ pp ?_ y20 y21 hf
          · intro y28 y29 y30 hf
            exact ih y28 y29 y30  hf
        · replace hf := ite_f c22 hf
          refine z_iload C 4 dX3_nextShine_63 rfl ?_
          refine z_iload_n C 2 2 dX3_nextShine_65 rfl rfl ?_
          refine z_icmp_lt C 72 dX3_nextShine_66 (by decide) (fun c31 => ?_) (fun c31 => ?_)
          · replace hf := ite_t c31 hf
            refine z_lv (lv2 := [(0, .ref (G.1 + 88)), (3, .int y20), (4, .int y21)]) [0, 3, 4] rfl ?_
            refine wX3_nextShine_j72 C hs0 hL M _ pp ?_ y20 y21 hf
            · intro y32 y33 y34 hf
              exact ih y32 y33 y34  hf
          · replace hf := ite_f c31 hf
            refine z_goto C 77 dX3_nextShine_69 (by decide) ?_
            refine z_iinc C 3 (y20 + 1) [(3, .int (y20 + 1)), (0, .ref (G.1 + 88)), (1, .int y18), (2, .int y19), (4, .int y21)] dX3_nextShine_77 rfl rfl (by decide) rfl rfl ?_
            refine z_goto C 6 dX3_nextShine_80 (by decide) ?_
            refine z_lv (lv2 := [(0, .ref (G.1 + 88)), (1, .int y18), (2, .int y19), (3, .int (y20 + 1))]) [1, 2, 3, 0] rfl ?_
            exact ih y18 y19 (y20 + 1)  hf
set_option maxHeartbeats 4000000 in
set_option maxRecDepth 100000 in
theorem tX3_nextShine (l : Launch) (G : GG) {K : SK} (hL : Lay K) (M : MM)  (pp : Int32) (hf : fX3_nextShine M = some pp) : Ct l yX3_nextShine cX3_nextShine 6 (some .int) 1 0 0 G K M [.ref (G.1 + 88)] (some (.int pp)) K M := by
  refine z_enter (lv := [(0, .ref (G.1 + 88))]) (by decide +kernel) (Nat.le_of_ble_eq_true rfl) rfl ?_
  intro p e s m args below meth c C hnm hs0
  replace C : CX p s m args meth c cX3_nextShine 6 (some .int) RX3 G := C
  unfold fX3_nextShine at hf
  refine z_iconst C (-1) dX3_nextShine_0 (by decide) ?_
  refine z_istore_n C [(1, .int (-1)), (0, .ref (G.1 + 88))] dX3_nextShine_1 rfl (by decide) rfl rfl ?_
  refine z_iconst C 0 dX3_nextShine_2 (by decide) ?_
  refine z_istore_n C [(2, .int 0), (1, .int (-1)), (0, .ref (G.1 + 88))] dX3_nextShine_3 rfl (by decide) rfl rfl ?_
  refine z_iconst C 0 dX3_nextShine_4 (by decide) ?_
  refine z_istore_n C [(3, .int 0), (2, .int 0), (1, .int (-1)), (0, .ref (G.1 + 88))] dX3_nextShine_5 rfl (by decide) rfl rfl ?_
  refine z_lv (lv2 := [(0, .ref (G.1 + 88)), (1, .int (-1)), (2, .int 0), (3, .int 0)]) [3, 2, 1, 0] rfl ?_
  exact wX3_nextShine_l6 C hs0 hL M pp FU (-1) 0 0 hf
set_option maxHeartbeats 4000000 in
set_option maxRecDepth 100000 in
theorem tX3_tell (l : Launch) (G : GG) {K : SK} (hL : Lay K) (M : MM) (x1 : Int32) (pp : Int32) (hf : fX3_tell M x1 = some pp) : Ct l yX3_tell cX3_tell 2 (some .int) 2 0 0 G K M [.ref (G.1 + 88), .int x1] (some (.int pp)) K M := by
  refine z_enter (lv := [(0, .ref (G.1 + 88)), (1, .int x1)]) (by decide +kernel) (Nat.le_of_ble_eq_true rfl) rfl ?_
  intro p e s m args below meth c C hnm hs0
  replace C : CX p s m args meth c cX3_tell 2 (some .int) RX3 G := C
  unfold fX3_tell at hf
  refine z_iload_n C 1 1 dX3_tell_0 rfl rfl ?_
  refine z_if_ne C 9 dX3_tell_1 (by decide) (fun c1 => ?_) (fun c1 => ?_)
  · replace hf := ite_f c1 hf
    refine z_iload_n C 1 1 dX3_tell_9 rfl rfl ?_
    refine z_iconst C 3 dX3_tell_10 (by decide) ?_
    refine z_icmp_ne C 19 dX3_tell_11 (by decide) (fun c2 => ?_) (fun c2 => ?_)
    · replace hf := ite_f c2 hf
      refine z_iload_n C 1 1 dX3_tell_19 rfl rfl ?_
      refine z_bipush C 10 dX3_tell_20 (by decide) ?_
      refine z_icmp_lt C 30 dX3_tell_22 (by decide) (fun c3 => ?_) (fun c3 => ?_)
      · replace hf := ite_t c3 hf
        refine z_aload_n C 0 0 dX3_tell_30 rfl rfl ?_
        refine z_getI C ok_X3 (lay_c88 hL) 1 (by decide) rfl q_fl_X3_31 dX3_tell_31 ?_
        refine z_if_ne C 39 dX3_tell_34 (by decide) (fun c4 => ?_) (fun c4 => ?_)
        · replace hf := ite_f c4 hf
          refine z_iload_n C 1 1 dX3_tell_39 rfl rfl ?_
          refine z_iconst C 1 dX3_tell_40 (by decide) ?_
          refine z_icmp_ne C 49 dX3_tell_41 (by decide) (fun c5 => ?_) (fun c5 => ?_)
          · replace hf := ite_f c5 hf
            refine z_iload_n C 1 1 dX3_tell_49 rfl rfl ?_
            refine z_iconst C 2 dX3_tell_50 (by decide) ?_
            refine z_icmp_ne C 59 dX3_tell_51 (by decide) (fun c6 => ?_) (fun c6 => ?_)
            · replace hf := ite_f c6 hf
              refine z_iload_n C 1 1 dX3_tell_59 rfl rfl ?_
              refine z_iconst C 4 dX3_tell_60 (by decide) ?_
              refine z_icmp_ne C 71 dX3_tell_61 (by decide) (fun c7 => ?_) (fun c7 => ?_)
              · replace hf := ite_f c7 hf
                refine z_bipush C (-2) dX3_tell_71 (by decide) ?_
                cases hf
                exact z_iret C rfl dX3_tell_73
              · replace hf := ite_t c7 hf
                refine z_aload_n C 0 0 dX3_tell_64 rfl rfl ?_
                replace hf := bd_out hf
                obtain ⟨p8, e9, hf⟩ := hf
                refine z_cV1 C [] (tX3_nextShine l G hL M  _ e9) lk_X3_nextShine ok_X3 (lay_c88 hL) q_ml_X3_108 rfl ⟨Nat.le_of_ble_eq_true rfl, Nat.le_of_ble_eq_true rfl⟩ rfl (Nat.le_of_ble_eq_true rfl) ⟨Nat.le_refl _, Nat.le_refl _⟩ dX3_tell_65 ?_
                refine z_goto C 73 dX3_tell_68 (by decide) ?_
                cases hf
                exact z_iret C rfl dX3_tell_73
            · replace hf := ite_t c6 hf
              refine z_aload_n C 0 0 dX3_tell_54 rfl rfl ?_
              refine z_getI C ok_X3 (lay_c88 hL) 3 (by decide) rfl q_fl_X3_37 dX3_tell_55 ?_
              cases hf
              exact z_iret C rfl dX3_tell_58
          · replace hf := ite_t c5 hf
            refine z_aload_n C 0 0 dX3_tell_44 rfl rfl ?_
            refine z_getI C ok_X3 (lay_c88 hL) 2 (by decide) rfl q_fl_X3_34 dX3_tell_45 ?_
            cases hf
            exact z_iret C rfl dX3_tell_48
        · replace hf := ite_t c4 hf
          refine z_iconst C (-1) dX3_tell_37 (by decide) ?_
          cases hf
          exact z_iret C rfl dX3_tell_38
      · replace hf := ite_f c3 hf
        refine z_aload_n C 0 0 dX3_tell_25 rfl rfl ?_
        refine z_getI C ok_X3 (lay_c88 hL) 5 (by decide) rfl q_fl_X3_43 dX3_tell_26 ?_
        cases hf
        exact z_iret C rfl dX3_tell_29
    · replace hf := ite_t c2 hf
      refine z_aload_n C 0 0 dX3_tell_14 rfl rfl ?_
      refine z_getI C ok_X3 (lay_c88 hL) 4 (by decide) rfl q_fl_X3_40 dX3_tell_15 ?_
      cases hf
      exact z_iret C rfl dX3_tell_18
  · replace hf := ite_t c1 hf
    refine z_aload_n C 0 0 dX3_tell_4 rfl rfl ?_
    refine z_getI C ok_X3 (lay_c88 hL) 1 (by decide) rfl q_fl_X3_31 dX3_tell_5 ?_
    cases hf
    exact z_iret C rfl dX3_tell_8
set_option maxHeartbeats 4000000 in
set_option maxRecDepth 100000 in
theorem wX10_flood_l48 (C : CX p s m args meth c cX10_flood 7 none RX10 G) (hs0 : s.heap.size = G.1 + K.1) (hL : Lay K)  (k147 : MM → Int32 → Int32 → Option MM) (pp : MM) (hk147 : ∀ (M22 : MM) (y23 : Int32) (y24 : Int32), k147 M22 y23 y24 = some pp → Z p l e (rmo 1 0 0) s m args below meth c 7 G (MQ below (QC G none K pp) args s 0 0 (AG G)) K 0 0 M22 147 [(0, .ref (G.1 + 83)), (2, .int y23), (3, .int y24)] []) : ∀ (n : Nat) (M16 : MM) (y17 : Int32) (y18 : Int32) (y19 : Int32) (y20 : Int32) (hf : fX10_flood_l48 k147 n M16 y17 y18 y19 y20 = some pp), Z p l e (rmo 1 0 0) s m args below meth c 7 G (MQ below (QC G none K pp) args s 0 0 (AG G)) K 0 0 M16 48 [(0, .ref (G.1 + 83)), (2, .int y17), (3, .int y18), (4, .int y19), (5, .int y20)] [] := by
  intro n
  induction n with
  | zero => intro M16 y17 y18 y19 y20 hf; exact nomatch (show (none : Option MM) = some pp from hf)
  | succ n ih =>
    intro M16 y17 y18 y19 y20 hf
    rw [fX10_flood_l48.eq_2] at hf
    refine z_iload C 4 dX10_flood_48 rfl ?_
    refine z_bipush C 8 dX10_flood_50 (by decide) ?_
    refine z_icmp_ge C 147 dX10_flood_52 (by decide) (fun c21 => ?_) (fun c21 => ?_)
    · replace hf := ite_t c21 hf
      refine z_lv (lv2 := [(0, .ref (G.1 + 83)), (2, .int y17), (3, .int y18)]) [0, 1, 2] rfl ?_
      exact hk147 M16 y17 y18  hf
    · replace hf := ite_f c21 hf
      refine z_aload_n C 0 0 dX10_flood_55 rfl rfl ?_
      refine z_getR C ok_X10 (lay_c83 hL) 1 (60) (by decide) rfl (lay_r83_1 hL) q_fl_X10_9 dX10_flood_56 ?_
      refine z_iload C 3 dX10_flood_59 rfl ?_
      refine z_iload C 4 dX10_flood_61 rfl ?_
      replace hf := bd_out hf
      obtain ⟨p25, e26, hf⟩ := hf
      refine z_cV1 C [] (tX0_stepFrom l G hL M16 y19 y20 _ e26) lk_X0_stepFrom ok_X0 (lay_c60 hL) q_ml_X10_34 rfl ⟨Nat.le_of_ble_eq_true rfl, Nat.le_of_ble_eq_true rfl⟩ rfl (Nat.le_of_ble_eq_true rfl) ⟨Nat.le_refl _, Nat.le_refl _⟩ dX10_flood_63 ?_
      refine z_istore C [(6, .int p25), (0, .ref (G.1 + 83)), (2, .int y17), (3, .int y18), (4, .int y19), (5, .int y20)] dX10_flood_66 (by decide) rfl rfl ?_
      refine z_iload C 0 dX10_flood_68 rfl ?_
      refine z_iconst C (-1) dX10_flood_70 (by decide) ?_
      refine z_icmp_eq C 141 dX10_flood_71 (by decide) (fun c27 => ?_) (fun c27 => ?_)
      · replace hf := ite_t c27 hf
        refine z_iinc C 5 (y20 + 2) [(5, .int (y20 + 2)), (6, .int p25), (0, .ref (G.1 + 83)), (2, .int y17), (3, .int y18), (4, .int y19)] dX10_flood_141 rfl rfl (by decide) rfl rfl ?_
        refine z_goto C 48 dX10_flood_144 (by decide) ?_
        refine z_lv (lv2 := [(0, .ref (G.1 + 83)), (2, .int y17), (3, .int y18), (4, .int y19), (5, .int (y20 + 2))]) [2, 3, 4, 5, 0] rfl ?_
        exact ih M16 y17 y18 y19 (y20 + 2)  hf
      · replace hf := ite_f c27 hf
        refine z_aload_n C 1 0 dX10_flood_74 rfl rfl ?_
        refine z_getR C ok_X10 (lay_c83 hL) 0 (84) (by decide) rfl (lay_r83_0 hL) q_fl_X10_15 dX10_flood_75 ?_
        refine z_iload C 0 dX10_flood_78 rfl ?_
        replace hf := gd_out hf
        obtain ⟨g28, hf⟩ := hf
        refine z_iald C (lay_c84 hL) (inb_in g28) dX10_flood_80 ?_
        refine z_iconst C (-1) dX10_flood_81 (by decide) ?_
        refine z_icmp_ne C 141 dX10_flood_82 (by decide) (fun c29 => ?_) (fun c29 => ?_)
        · replace hf := ite_f c29 hf
          refine z_iinc C 5 (y20 + 2) [(5, .int (y20 + 2)), (6, .int p25), (0, .ref (G.1 + 83)), (2, .int y17), (3, .int y18), (4, .int y19)] dX10_flood_141 rfl rfl (by decide) rfl rfl ?_
          refine z_goto C 48 dX10_flood_144 (by decide) ?_
          refine z_lv (lv2 := [(0, .ref (G.1 + 83)), (2, .int y17), (3, .int y18), (4, .int y19), (5, .int (y20 + 2))]) [2, 3, 4, 5, 0] rfl ?_
          exact ih M16 y17 y18 y19 (y20 + 2)  hf
        · replace hf := ite_t c29 hf
          refine z_aload_n C 1 0 dX10_flood_85 rfl rfl ?_
          refine z_getR C ok_X10 (lay_c83 hL) 1 (60) (by decide) rfl (lay_r83_1 hL) q_fl_X10_9 dX10_flood_86 ?_
          refine z_getR C ok_X0 (lay_c60 hL) 0 (61) (by decide) rfl (lay_r60_0 hL) q_fl_X10_40 dX10_flood_89 ?_
          refine z_getR C ok_X5 (lay_c61 hL) 11 (69) (by decide) rfl (lay_r61_11 hL) q_fl_X10_44 dX10_flood_92 ?_
          refine z_iload C 0 dX10_flood_95 rfl ?_
          replace hf := gd_out hf
          obtain ⟨g30, hf⟩ := hf
          refine z_iald C (lay_c69 hL) (inb_in g30) dX10_flood_97 ?_
          refine z_iconst C 1 dX10_flood_98 (by decide) ?_
          refine z_icmp_ne C 105 dX10_flood_99 (by decide) (fun c31 => ?_) (fun c31 => ?_)
          · replace hf := ite_f c31 hf
            refine z_iload_n C 2 2 dX10_flood_105 rfl rfl ?_
            refine z_bipush C 64 dX10_flood_106 (by decide) ?_
            refine z_icmp_lt C 114 dX10_flood_108 (by decide) (fun c32 => ?_) (fun c32 => ?_)
            · replace hf := ite_t c32 hf
              refine z_aload_n C 1 0 dX10_flood_114 rfl rfl ?_
              refine z_getR C ok_X10 (lay_c83 hL) 0 (84) (by decide) rfl (lay_r83_0 hL) q_fl_X10_15 dX10_flood_115 ?_
              refine z_iload C 0 dX10_flood_118 rfl ?_
              refine z_aload_n C 1 0 dX10_flood_120 rfl rfl ?_
              refine z_getR C ok_X10 (lay_c83 hL) 0 (84) (by decide) rfl (lay_r83_0 hL) q_fl_X10_15 dX10_flood_121 ?_
              refine z_iload C 4 dX10_flood_124 rfl ?_
              replace hf := gd_out hf
              obtain ⟨g33, hf⟩ := hf
              refine z_iald C (lay_c84 hL) (inb_in g33) dX10_flood_126 ?_
              refine z_iconst C 1 dX10_flood_127 (by decide) ?_
              refine z_iadd C dX10_flood_128 ?_
              replace hf := gd_out hf
              obtain ⟨g34, hf⟩ := hf
              refine z_iast C (lay_c84 hL) (inb_in g34) dX10_flood_129 ?_
              refine z_M (fun M35 e36 => ?_)
              replace hf := bnd_out e36 hf
              refine z_aload_n C 1 0 dX10_flood_130 rfl rfl ?_
              refine z_getR C ok_X10 (lay_c83 hL) 2 (85) (by decide) rfl (lay_r83_2 hL) q_fl_X10_19 dX10_flood_131 ?_
              refine z_iload_n C 2 2 dX10_flood_134 rfl rfl ?_
              refine z_iload C 0 dX10_flood_135 rfl ?_
              replace hf := gd_out hf
              obtain ⟨g37, hf⟩ := hf
              refine z_iast C (lay_c85 hL) (inb_in g37) dX10_flood_137 ?_
              refine z_M (fun M38 e39 => ?_)
              replace hf := bnd_out e39 hf
              refine z_iinc C 2 (y17 + 1) [(2, .int (y17 + 1)), (6, .int p25), (0, .ref (G.1 + 83)), (3, .int y18), (4, .int y19), (5, .int y20)] dX10_flood_138 rfl rfl (by decide) rfl rfl ?_
              refine z_iinc C 5 (y20 + 2) [(5, .int (y20 + 2)), (2, .int (y17 + 1)), (6, .int p25), (0, .ref (G.1 + 83)), (3, .int y18), (4, .int y19)] dX10_flood_141 rfl rfl (by decide) rfl rfl ?_
              refine z_goto C 48 dX10_flood_144 (by decide) ?_
              refine z_lv (lv2 := [(0, .ref (G.1 + 83)), (2, .int (y17 + 1)), (3, .int y18), (4, .int y19), (5, .int (y20 + 2))]) [3, 1, 4, 5, 0] rfl ?_
              exact ih M38 (y17 + 1) y18 y19 (y20 + 2)  hf
            · replace hf := ite_f c32 hf
              refine z_goto C 141 dX10_flood_111 (by decide) ?_
              refine z_iinc C 5 (y20 + 2) [(5, .int (y20 + 2)), (6, .int p25), (0, .ref (G.1 + 83)), (2, .int y17), (3, .int y18), (4, .int y19)] dX10_flood_141 rfl rfl (by decide) rfl rfl ?_
              refine z_goto C 48 dX10_flood_144 (by decide) ?_
              refine z_lv (lv2 := [(0, .ref (G.1 + 83)), (2, .int y17), (3, .int y18), (4, .int y19), (5, .int (y20 + 2))]) [2, 3, 4, 5, 0] rfl ?_
              exact ih M16 y17 y18 y19 (y20 + 2)  hf
          · replace hf := ite_t c31 hf
            refine z_goto C 141 dX10_flood_102 (by decide) ?_
            refine z_iinc C 5 (y20 + 2) [(5, .int (y20 + 2)), (6, .int p25), (0, .ref (G.1 + 83)), (2, .int y17), (3, .int y18), (4, .int y19)] dX10_flood_141 rfl rfl (by decide) rfl rfl ?_
            refine z_goto C 48 dX10_flood_144 (by decide) ?_
            refine z_lv (lv2 := [(0, .ref (G.1 + 83)), (2, .int y17), (3, .int y18), (4, .int y19), (5, .int (y20 + 2))]) [2, 3, 4, 5, 0] rfl ?_
            exact ih M16 y17 y18 y19 (y20 + 2)  hf
set_option maxHeartbeats 4000000 in
set_option maxRecDepth 100000 in
theorem wX10_flood_l26 (C : CX p s m args meth c cX10_flood 7 none RX10 G) (hs0 : s.heap.size = G.1 + K.1) (hL : Lay K)   (pp : MM)  : ∀ (n : Nat) (M8 : MM) (y9 : Int32) (y10 : Int32) (hf : fX10_flood_l26 n M8 y9 y10 = some pp), Z p l e (rmo 1 0 0) s m args below meth c 7 G (MQ below (QC G none K pp) args s 0 0 (AG G)) K 0 0 M8 26 [(0, .ref (G.1 + 83)), (2, .int y9), (3, .int y10)] [] := by
  intro n
  induction n with
  | zero => intro M8 y9 y10 hf; exact nomatch (show (none : Option MM) = some pp from hf)
  | succ n ih =>
    intro M8 y9 y10 hf
    rw [fX10_flood_l26.eq_2] at hf
    refine z_iload_n C 2 3 dX10_flood_26 rfl rfl ?_
    refine z_iload_n C 1 2 dX10_flood_27 rfl rfl ?_
    refine z_icmp_ge C 153 dX10_flood_28 (by decide) (fun c11 => ?_) (fun c11 => ?_)
    · replace hf := ite_t c11 hf
      cases hf
      exact z_vret C rfl dX10_flood_153
    · replace hf := ite_f c11 hf
      refine z_iload_n C 2 3 dX10_flood_31 rfl rfl ?_
      refine z_bipush C 64 dX10_flood_32 (by decide) ?_
      refine z_icmp_ge C 153 dX10_flood_34 (by decide) (fun c12 => ?_) (fun c12 => ?_)
      · replace hf := ite_t c12 hf
        cases hf
        exact z_vret C rfl dX10_flood_153
      · replace hf := ite_f c12 hf
        refine z_aload_n C 0 0 dX10_flood_37 rfl rfl ?_
        refine z_getR C ok_X10 (lay_c83 hL) 2 (85) (by decide) rfl (lay_r83_2 hL) q_fl_X10_19 dX10_flood_38 ?_
        refine z_iload_n C 2 3 dX10_flood_41 rfl rfl ?_
        replace hf := gd_out hf
        obtain ⟨g13, hf⟩ := hf
        refine z_iald C (lay_c85 hL) (inb_in g13) dX10_flood_42 ?_
        refine z_topi (fun v14 e15 => ?_)
        replace hf := bnd_out e15 hf
        refine z_istore C [(4, .int v14), (0, .ref (G.1 + 83)), (2, .int y9), (3, .int y10)] dX10_flood_43 (by decide) rfl rfl ?_
        refine z_iconst C 0 dX10_flood_45 (by decide) ?_
        refine z_istore C [(5, .int 0), (4, .int v14), (0, .ref (G.1 + 83)), (2, .int y9), (3, .int y10)] dX10_flood_46 (by decide) rfl rfl ?_
        refine z_lv (lv2 := [(0, .ref (G.1 + 83)), (2, .int y9), (3, .int y10), (4, .int v14), (5, .int 0)]) [2, 3, 4, 1, 0] rfl ?_
        refine wX10_flood_l48 C hs0 hL _ pp ?_ FU M8 y9 y10 v14 0 hf
        · intro M40 y41 y42 hf
          refine z_iinc C 2 (y42 + 1) [(3, .int (y42 + 1)), (0, .ref (G.1 + 83)), (2, .int y41)] dX10_flood_147 rfl rfl (by decide) rfl rfl ?_
          refine z_goto C 26 dX10_flood_150 (by decide) ?_
          refine z_lv (lv2 := [(0, .ref (G.1 + 83)), (2, .int y41), (3, .int (y42 + 1))]) [1, 2, 0] rfl ?_
          exact ih M40 y41 (y42 + 1)  hf
set_option maxHeartbeats 4000000 in
set_option maxRecDepth 100000 in
theorem tX10_flood (l : Launch) (G : GG) {K : SK} (hL : Lay K) (M : MM) (x1 : Int32) (pp : MM) (hf : fX10_flood M x1 = some pp) : Ct l yX10_flood cX10_flood 7 none 1 0 0 G K M [.ref (G.1 + 83), .int x1] none K pp := by
  refine z_enter (lv := [(0, .ref (G.1 + 83)), (1, .int x1)]) (by decide +kernel) (Nat.le_of_ble_eq_true rfl) rfl ?_
  intro p e s m args below meth c C hnm hs0
  replace C : CX p s m args meth c cX10_flood 7 none RX10 G := C
  unfold fX10_flood at hf
  refine z_aload_n C 0 0 dX10_flood_0 rfl rfl ?_
  refine z_getR C ok_X10 (lay_c83 hL) 0 (84) (by decide) rfl (lay_r83_0 hL) q_fl_X10_15 dX10_flood_1 ?_
  refine z_iconst C (-1) dX10_flood_4 (by decide) ?_
  replace hf := bd_out hf
  obtain ⟨p1, e2, hf⟩ := hf
  refine z_cS0 C [] (tJ7_fill_53178 l G M 84 64 (lay_c84 hL) (-1) _ e2) lk_J7_fill_53178 q_ml_X10_28 rfl ⟨Nat.le_of_ble_eq_true rfl, Nat.le_of_ble_eq_true rfl⟩ rfl (Nat.le_of_ble_eq_true rfl) ⟨Nat.le_refl _, Nat.le_refl _⟩ dX10_flood_5 ?_
  refine z_aload_n C 0 0 dX10_flood_8 rfl rfl ?_
  refine z_getR C ok_X10 (lay_c83 hL) 0 (84) (by decide) rfl (lay_r83_0 hL) q_fl_X10_15 dX10_flood_9 ?_
  refine z_iload_n C 1 1 dX10_flood_12 rfl rfl ?_
  refine z_iconst C 0 dX10_flood_13 (by decide) ?_
  replace hf := gd_out hf
  obtain ⟨g3, hf⟩ := hf
  refine z_iast C (lay_c84 hL) (inb_in g3) dX10_flood_14 ?_
  refine z_M (fun M4 e5 => ?_)
  replace hf := bnd_out e5 hf
  refine z_aload_n C 0 0 dX10_flood_15 rfl rfl ?_
  refine z_getR C ok_X10 (lay_c83 hL) 2 (85) (by decide) rfl (lay_r83_2 hL) q_fl_X10_19 dX10_flood_16 ?_
  refine z_iconst C 0 dX10_flood_19 (by decide) ?_
  refine z_iload_n C 1 1 dX10_flood_20 rfl rfl ?_
  refine z_iast C (lay_c85 hL) (inb_in (by decide)) dX10_flood_21 ?_
  refine z_M (fun M6 e7 => ?_)
  replace hf := bnd_out e7 hf
  refine z_iconst C 1 dX10_flood_22 (by decide) ?_
  refine z_istore_n C [(2, .int 1), (0, .ref (G.1 + 83)), (1, .int x1)] dX10_flood_23 rfl (by decide) rfl rfl ?_
  refine z_iconst C 0 dX10_flood_24 (by decide) ?_
  refine z_istore_n C [(3, .int 0), (2, .int 1), (0, .ref (G.1 + 83)), (1, .int x1)] dX10_flood_25 rfl (by decide) rfl rfl ?_
  refine z_lv (lv2 := [(0, .ref (G.1 + 83)), (2, .int 1), (3, .int 0)]) [2, 1, 0] rfl ?_
  exact wX10_flood_l26 C hs0 hL pp FU M6 1 0 hf
set_option maxHeartbeats 4000000 in
set_option maxRecDepth 100000 in
theorem wX10_goOn_j102 (C : CX p s m args meth c cX10_goOn 6 none RX10 G) (hs0 : s.heap.size = G.1 + K.1) (hL : Lay K)  (k2 : MM → Int32 → Int32 → Int32 → Option MM) (pp : MM) (hk2 : ∀ (M26 : MM) (y27 : Int32) (y28 : Int32) (y29 : Int32), k2 M26 y27 y28 y29 = some pp → Z p l e (rmo 0 0 0) s m args below meth c 6 G (MQ below (QC G none K pp) args s 0 0 (AG G)) K 0 0 M26 2 [(0, .ref (G.1 + 83)), (1, .int y27), (2, .int y28), (3, .int y29)] []) (M17 : MM) (y18 : Int32) (y19 : Int32) (y20 : Int32) (y21 : Int32) (y22 : Int32) (hf : fX10_goOn_j102 k2 M17 y18 y19 y20 y21 y22 = some pp) : Z p l e (rmo 0 0 0) s m args below meth c 6 G (MQ below (QC G none K pp) args s 0 0 (AG G)) K 0 0 M17 102 [(0, .ref (G.1 + 83)), (1, .int y18), (2, .int y19), (3, .int y20), (4, .int y21), (5, .int y22)] [] := by
  unfold fX10_goOn_j102 at hf
  refine z_aload_n C 0 0 dX10_goOn_102 rfl rfl ?_
  refine z_getR C ok_X10 (lay_c83 hL) 4 (87) (by decide) rfl (lay_r83_4 hL) q_fl_X10_25 dX10_goOn_103 ?_
  refine z_iload C 5 dX10_goOn_106 rfl ?_
  refine z_iload C 4 dX10_goOn_108 rfl ?_
  replace hf := gd_out hf
  obtain ⟨g23, hf⟩ := hf
  refine z_iast C (lay_c87 hL) (inb_in g23) dX10_goOn_110 ?_
  refine z_M (fun M24 e25 => ?_)
  replace hf := bnd_out e25 hf
  refine z_iinc C 3 (y20 + 1) [(3, .int (y20 + 1)), (0, .ref (G.1 + 83)), (1, .int y18), (2, .int y19), (4, .int y21), (5, .int y22)] dX10_goOn_111 rfl rfl (by decide) rfl rfl ?_
  refine z_goto C 2 dX10_goOn_114 (by decide) ?_
  refine z_lv (lv2 := [(0, .ref (G.1 + 83)), (1, .int y18), (2, .int y19), (3, .int (y20 + 1))]) [1, 2, 3, 0] rfl ?_
  exact hk2 M24 y18 y19 (y20 + 1)  hf
set_option maxHeartbeats 4000000 in
set_option maxRecDepth 100000 in
theorem wX10_goOn_l2 (C : CX p s m args meth c cX10_goOn 6 none RX10 G) (hs0 : s.heap.size = G.1 + K.1) (hL : Lay K)   (pp : MM)  : ∀ (n : Nat) (M1 : MM) (y2 : Int32) (y3 : Int32) (y4 : Int32) (hf : fX10_goOn_l2 n M1 y2 y3 y4 = some pp), Z p l e (rmo 0 0 0) s m args below meth c 6 G (MQ below (QC G none K pp) args s 0 0 (AG G)) K 0 0 M1 2 [(0, .ref (G.1 + 83)), (1, .int y2), (2, .int y3), (3, .int y4)] [] := by
  intro n
  induction n with
  | zero => intro M1 y2 y3 y4 hf; exact nomatch (show (none : Option MM) = some pp from hf)
  | succ n ih =>
    intro M1 y2 y3 y4 hf
    rw [fX10_goOn_l2.eq_2] at hf
    refine z_iload_n C 3 3 dX10_goOn_2 rfl rfl ?_
    refine z_aload_n C 0 0 dX10_goOn_3 rfl rfl ?_
    refine z_getR C ok_X10 (lay_c83 hL) 1 (60) (by decide) rfl (lay_r83_1 hL) q_fl_X10_9 dX10_goOn_4 ?_
    refine z_getR C ok_X0 (lay_c60 hL) 0 (61) (by decide) rfl (lay_r60_0 hL) q_fl_X10_40 dX10_goOn_7 ?_
    refine z_getI C ok_X5 (lay_c61 hL) 3 (by decide) rfl q_fl_X10_49 dX10_goOn_10 ?_
    refine z_icmp_ge C 117 dX10_goOn_13 (by decide) (fun c5 => ?_) (fun c5 => ?_)
    · replace hf := ite_t c5 hf
      cases hf
      exact z_vret C rfl dX10_goOn_117
    · replace hf := ite_f c5 hf
      refine z_iload_n C 1 1 dX10_goOn_16 rfl rfl ?_
      refine z_iload_n C 3 3 dX10_goOn_17 rfl rfl ?_
      refine z_iushr C dX10_goOn_18 ?_
      refine z_iconst C 1 dX10_goOn_19 (by decide) ?_
      refine z_iand C dX10_goOn_20 ?_
      refine z_if_ne C 111 dX10_goOn_21 (by decide) (fun c6 => ?_) (fun c6 => ?_)
      · replace hf := ite_f c6 hf
        refine z_iinc C 3 (y4 + 1) [(3, .int (y4 + 1)), (0, .ref (G.1 + 83)), (1, .int y2), (2, .int y3)] dX10_goOn_111 rfl rfl (by decide) rfl rfl ?_
        refine z_goto C 2 dX10_goOn_114 (by decide) ?_
        refine z_lv (lv2 := [(0, .ref (G.1 + 83)), (1, .int y2), (2, .int y3), (3, .int (y4 + 1))]) [1, 2, 3, 0] rfl ?_
        exact ih M1 y2 y3 (y4 + 1)  hf
      · replace hf := ite_t c6 hf
        refine z_aload_n C 0 0 dX10_goOn_24 rfl rfl ?_
        refine z_getR C ok_X10 (lay_c83 hL) 3 (86) (by decide) rfl (lay_r83_3 hL) q_fl_X10_22 dX10_goOn_25 ?_
        refine z_bipush C 8 dX10_goOn_28 (by decide) ?_
        refine z_iload_n C 2 2 dX10_goOn_30 rfl rfl ?_
        refine z_imul C dX10_goOn_31 ?_
        refine z_iload_n C 3 3 dX10_goOn_32 rfl rfl ?_
        refine z_iadd C dX10_goOn_33 ?_
        replace hf := gd_out hf
        obtain ⟨g7, hf⟩ := hf
        refine z_iald C (lay_c86 hL) (inb_in g7) dX10_goOn_34 ?_
        refine z_iconst C (-1) dX10_goOn_35 (by decide) ?_
        refine z_icmp_ne C 42 dX10_goOn_36 (by decide) (fun c8 => ?_) (fun c8 => ?_)
        · replace hf := ite_f c8 hf
          refine z_aload_n C 0 0 dX10_goOn_42 rfl rfl ?_
          refine z_getR C ok_X10 (lay_c83 hL) 4 (87) (by decide) rfl (lay_r83_4 hL) q_fl_X10_25 dX10_goOn_43 ?_
          refine z_bipush C 8 dX10_goOn_46 (by decide) ?_
          refine z_iload_n C 1 1 dX10_goOn_48 rfl rfl ?_
          refine z_imul C dX10_goOn_49 ?_
          refine z_iload_n C 2 2 dX10_goOn_50 rfl rfl ?_
          refine z_iadd C dX10_goOn_51 ?_
          replace hf := gd_out hf
          obtain ⟨g9, hf⟩ := hf
          refine z_iald C (lay_c87 hL) (inb_in g9) dX10_goOn_52 ?_
          refine z_aload_n C 0 0 dX10_goOn_53 rfl rfl ?_
          refine z_getR C ok_X10 (lay_c83 hL) 3 (86) (by decide) rfl (lay_r83_3 hL) q_fl_X10_22 dX10_goOn_54 ?_
          refine z_bipush C 8 dX10_goOn_57 (by decide) ?_
          refine z_iload_n C 2 2 dX10_goOn_59 rfl rfl ?_
          refine z_imul C dX10_goOn_60 ?_
          refine z_iload_n C 3 3 dX10_goOn_61 rfl rfl ?_
          refine z_iadd C dX10_goOn_62 ?_
          replace hf := gd_out hf
          obtain ⟨g10, hf⟩ := hf
          refine z_iald C (lay_c86 hL) (inb_in g10) dX10_goOn_63 ?_
          refine z_iadd C dX10_goOn_64 ?_
          refine z_topi (fun v11 e12 => ?_)
          replace hf := bnd_out e12 hf
          refine z_istore C [(4, .int v11), (0, .ref (G.1 + 83)), (1, .int y2), (2, .int y3), (3, .int y4)] dX10_goOn_65 (by decide) rfl rfl ?_
          refine z_bipush C 8 dX10_goOn_67 (by decide) ?_
          refine z_iload_n C 2 1 dX10_goOn_69 rfl rfl ?_
          refine z_iconst C 1 dX10_goOn_70 (by decide) ?_
          refine z_iload_n C 4 3 dX10_goOn_71 rfl rfl ?_
          refine z_ishl C dX10_goOn_72 ?_
          refine z_ior C dX10_goOn_73 ?_
          refine z_imul C dX10_goOn_74 ?_
          refine z_iload_n C 4 3 dX10_goOn_75 rfl rfl ?_
          refine z_iadd C dX10_goOn_76 ?_
          refine z_topi (fun v13 e14 => ?_)
          replace hf := bnd_out e14 hf
          refine z_istore C [(5, .int v13), (4, .int v11), (0, .ref (G.1 + 83)), (1, .int y2), (2, .int y3), (3, .int y4)] dX10_goOn_77 (by decide) rfl rfl ?_
          refine z_aload_n C 2 0 dX10_goOn_79 rfl rfl ?_
          refine z_getR C ok_X10 (lay_c83 hL) 4 (87) (by decide) rfl (lay_r83_4 hL) q_fl_X10_25 dX10_goOn_80 ?_
          refine z_iload C 0 dX10_goOn_83 rfl ?_
          replace hf := gd_out hf
          obtain ⟨g15, hf⟩ := hf
          refine z_iald C (lay_c87 hL) (inb_in g15) dX10_goOn_85 ?_
          refine z_iconst C (-1) dX10_goOn_86 (by decide) ?_
          refine z_icmp_eq C 102 dX10_goOn_87 (by decide) (fun c16 => ?_) (fun c16 => ?_)
          · replace hf := ite_t c16 hf
            refine z_lv (lv2 := [(0, .ref (G.1 + 83)), (1, .int y2), (2, .int y3), (3, .int y4), (4, .int v11), (5, .int v13)]) [2, 3, 4, 5, 1, 0] rfl ?_
            refine wX10_goOn_j102 C hs0 hL _ pp ?_ M1 y2 y3 y4 v11 v13 hf
            · intro M30 y31 y32 y33 hf
              exact ih M30 y31 y32 y33  hf
          · replace hf := ite_f c16 hf
            refine z_iload C 1 dX10_goOn_90 rfl ?_
            refine z_aload_n C 2 0 dX10_goOn_92 rfl rfl ?_
            refine z_getR C ok_X10 (lay_c83 hL) 4 (87) (by decide) rfl (lay_r83_4 hL) q_fl_X10_25 dX10_goOn_93 ?_
            refine z_iload C 0 dX10_goOn_96 rfl ?_
            replace hf := gd_out hf
            obtain ⟨g34, hf⟩ := hf
            refine z_iald C (lay_c87 hL) (inb_in g34) dX10_goOn_98 ?_
            refine z_icmp_ge C 111 dX10_goOn_99 (by decide) (fun c35 => ?_) (fun c35 => ?_)
            · replace hf := ite_t c35 hf
              refine z_iinc C 5 (y4 + 1) [(3, .int (y4 + 1)), (5, .int v13), (4, .int v11), (0, .ref (G.1 + 83)), (1, .int y2), (2, .int y3)] dX10_goOn_111 rfl rfl (by decide) rfl rfl ?_
              refine z_goto C 2 dX10_goOn_114 (by decide) ?_
              refine z_lv (lv2 := [(0, .ref (G.1 + 83)), (1, .int y2), (2, .int y3), (3, .int (y4 + 1))]) [3, 4, 5, 0] rfl ?_
              exact ih M1 y2 y3 (y4 + 1)  hf
            · replace hf := ite_f c35 hf
              refine z_lv (lv2 := [(0, .ref (G.1 + 83)), (1, .int y2), (2, .int y3), (3, .int y4), (4, .int v11), (5, .int v13)]) [2, 3, 4, 5, 1, 0] rfl ?_
              refine wX10_goOn_j102 C hs0 hL _ pp ?_ M1 y2 y3 y4 v11 v13 hf
              · intro M36 y37 y38 y39 hf
                exact ih M36 y37 y38 y39  hf
        · replace hf := ite_t c8 hf
          refine z_goto C 111 dX10_goOn_39 (by decide) ?_
          refine z_iinc C 3 (y4 + 1) [(3, .int (y4 + 1)), (0, .ref (G.1 + 83)), (1, .int y2), (2, .int y3)] dX10_goOn_111 rfl rfl (by decide) rfl rfl ?_
          refine z_goto C 2 dX10_goOn_114 (by decide) ?_
          refine z_lv (lv2 := [(0, .ref (G.1 + 83)), (1, .int y2), (2, .int y3), (3, .int (y4 + 1))]) [1, 2, 3, 0] rfl ?_
          exact ih M1 y2 y3 (y4 + 1)  hf
set_option maxHeartbeats 4000000 in
set_option maxRecDepth 100000 in
theorem tX10_goOn (l : Launch) (G : GG) {K : SK} (hL : Lay K) (M : MM) (x1 : Int32) (x2 : Int32) (pp : MM) (hf : fX10_goOn M x1 x2 = some pp) : Ct l yX10_goOn cX10_goOn 6 none 0 0 0 G K M [.ref (G.1 + 83), .int x1, .int x2] none K pp := by
  refine z_enter (lv := [(0, .ref (G.1 + 83)), (1, .int x1), (2, .int x2)]) (by decide +kernel) (Nat.le_of_ble_eq_true rfl) rfl ?_
  intro p e s m args below meth c C hnm hs0
  replace C : CX p s m args meth c cX10_goOn 6 none RX10 G := C
  unfold fX10_goOn at hf
  refine z_iconst C 0 dX10_goOn_0 (by decide) ?_
  refine z_istore_n C [(3, .int 0), (0, .ref (G.1 + 83)), (1, .int x1), (2, .int x2)] dX10_goOn_1 rfl (by decide) rfl rfl ?_
  refine z_lv (lv2 := [(0, .ref (G.1 + 83)), (1, .int x1), (2, .int x2), (3, .int 0)]) [1, 2, 3, 0] rfl ?_
  exact wX10_goOn_l2 C hs0 hL pp FU M x1 x2 0 hf
set_option maxHeartbeats 4000000 in
set_option maxRecDepth 100000 in
theorem wX10_tour_l26 (C : CX p s m args meth c cX10_tour 5 none RX10 G) (hs0 : s.heap.size = G.1 + K.1) (hL : Lay K)  (k67 : MM → Int32 → Option MM) (pp : MM) (hk67 : ∀ (M11 : MM) (y12 : Int32), k67 M11 y12 = some pp → Z p l e (rmo 2 0 0) s m args below meth c 5 G (MQ below (QC G none K pp) args s 0 0 (AG G)) K 0 0 M11 67 [(0, .ref (G.1 + 83)), (2, .int y12)] []) : ∀ (n : Nat) (M7 : MM) (y8 : Int32) (y9 : Int32) (hf : fX10_tour_l26 k67 n M7 y8 y9 = some pp), Z p l e (rmo 2 0 0) s m args below meth c 5 G (MQ below (QC G none K pp) args s 0 0 (AG G)) K 0 0 M7 26 [(0, .ref (G.1 + 83)), (2, .int y8), (3, .int y9)] [] := by
  intro n
  induction n with
  | zero => intro M7 y8 y9 hf; exact nomatch (show (none : Option MM) = some pp from hf)
  | succ n ih =>
    intro M7 y8 y9 hf
    rw [fX10_tour_l26.eq_2] at hf
    refine z_iload_n C 2 3 dX10_tour_26 rfl rfl ?_
    refine z_iload_n C 1 2 dX10_tour_27 rfl rfl ?_
    refine z_icmp_ge C 67 dX10_tour_28 (by decide) (fun c10 => ?_) (fun c10 => ?_)
    · replace hf := ite_t c10 hf
      refine z_lv (lv2 := [(0, .ref (G.1 + 83)), (2, .int y8)]) [0, 1] rfl ?_
      exact hk67 M7 y8  hf
    · replace hf := ite_f c10 hf
      refine z_aload_n C 0 0 dX10_tour_31 rfl rfl ?_
      refine z_getR C ok_X10 (lay_c83 hL) 4 (87) (by decide) rfl (lay_r83_4 hL) q_fl_X10_25 dX10_tour_32 ?_
      refine z_bipush C 8 dX10_tour_35 (by decide) ?_
      refine z_iconst C 1 dX10_tour_37 (by decide) ?_
      refine z_iload_n C 2 3 dX10_tour_38 rfl rfl ?_
      refine z_ishl C dX10_tour_39 ?_
      refine z_imul C dX10_tour_40 ?_
      refine z_iload_n C 2 3 dX10_tour_41 rfl rfl ?_
      refine z_iadd C dX10_tour_42 ?_
      refine z_aload_n C 0 0 dX10_tour_43 rfl rfl ?_
      refine z_getR C ok_X10 (lay_c83 hL) 0 (84) (by decide) rfl (lay_r83_0 hL) q_fl_X10_15 dX10_tour_44 ?_
      refine z_aload_n C 0 0 dX10_tour_47 rfl rfl ?_
      refine z_getR C ok_X10 (lay_c83 hL) 1 (60) (by decide) rfl (lay_r83_1 hL) q_fl_X10_9 dX10_tour_48 ?_
      refine z_getR C ok_X0 (lay_c60 hL) 0 (61) (by decide) rfl (lay_r60_0 hL) q_fl_X10_40 dX10_tour_51 ?_
      refine z_getR C ok_X5 (lay_c61 hL) 7 (65) (by decide) rfl (lay_r61_7 hL) q_fl_X10_57 dX10_tour_54 ?_
      refine z_iload_n C 2 3 dX10_tour_57 rfl rfl ?_
      replace hf := gd_out hf
      obtain ⟨g13, hf⟩ := hf
      refine z_iald C (lay_c65 hL) (inb_in g13) dX10_tour_58 ?_
      replace hf := gd_out hf
      obtain ⟨g14, hf⟩ := hf
      refine z_iald C (lay_c84 hL) (inb_in g14) dX10_tour_59 ?_
      replace hf := gd_out hf
      obtain ⟨g15, hf⟩ := hf
      refine z_iast C (lay_c87 hL) (inb_in g15) dX10_tour_60 ?_
      refine z_M (fun M16 e17 => ?_)
      replace hf := bnd_out e17 hf
      refine z_iinc C 2 (y9 + 1) [(3, .int (y9 + 1)), (0, .ref (G.1 + 83)), (2, .int y8)] dX10_tour_61 rfl rfl (by decide) rfl rfl ?_
      refine z_goto C 26 dX10_tour_64 (by decide) ?_
      refine z_lv (lv2 := [(0, .ref (G.1 + 83)), (2, .int y8), (3, .int (y9 + 1))]) [1, 2, 0] rfl ?_
      exact ih M16 y8 (y9 + 1)  hf
set_option maxHeartbeats 4000000 in
set_option maxRecDepth 100000 in
theorem wX10_tour_l93 (C : CX p s m args meth c cX10_tour 5 none RX10 G) (hs0 : s.heap.size = G.1 + K.1) (hL : Lay K)  (k135 : MM → Int32 → Int32 → Option MM) (pp : MM) (hk135 : ∀ (M34 : MM) (y35 : Int32) (y36 : Int32), k135 M34 y35 y36 = some pp → Z p l e (rmo 2 0 0) s m args below meth c 5 G (MQ below (QC G none K pp) args s 0 0 (AG G)) K 0 0 M34 135 [(0, .ref (G.1 + 83)), (2, .int y35), (3, .int y36)] []) : ∀ (n : Nat) (M29 : MM) (y30 : Int32) (y31 : Int32) (y32 : Int32) (hf : fX10_tour_l93 k135 n M29 y30 y31 y32 = some pp), Z p l e (rmo 2 0 0) s m args below meth c 5 G (MQ below (QC G none K pp) args s 0 0 (AG G)) K 0 0 M29 93 [(0, .ref (G.1 + 83)), (2, .int y30), (3, .int y31), (4, .int y32)] [] := by
  intro n
  induction n with
  | zero => intro M29 y30 y31 y32 hf; exact nomatch (show (none : Option MM) = some pp from hf)
  | succ n ih =>
    intro M29 y30 y31 y32 hf
    rw [fX10_tour_l93.eq_2] at hf
    refine z_iload C 3 dX10_tour_93 rfl ?_
    refine z_iload_n C 1 2 dX10_tour_95 rfl rfl ?_
    refine z_icmp_ge C 135 dX10_tour_96 (by decide) (fun c33 => ?_) (fun c33 => ?_)
    · replace hf := ite_t c33 hf
      refine z_lv (lv2 := [(0, .ref (G.1 + 83)), (2, .int y30), (3, .int y31)]) [0, 1, 2] rfl ?_
      exact hk135 M29 y30 y31  hf
    · replace hf := ite_f c33 hf
      refine z_aload_n C 0 0 dX10_tour_99 rfl rfl ?_
      refine z_getR C ok_X10 (lay_c83 hL) 3 (86) (by decide) rfl (lay_r83_3 hL) q_fl_X10_22 dX10_tour_100 ?_
      refine z_bipush C 8 dX10_tour_103 (by decide) ?_
      refine z_iload_n C 2 3 dX10_tour_105 rfl rfl ?_
      refine z_imul C dX10_tour_106 ?_
      refine z_iload C 3 dX10_tour_107 rfl ?_
      refine z_iadd C dX10_tour_109 ?_
      refine z_aload_n C 0 0 dX10_tour_110 rfl rfl ?_
      refine z_getR C ok_X10 (lay_c83 hL) 0 (84) (by decide) rfl (lay_r83_0 hL) q_fl_X10_15 dX10_tour_111 ?_
      refine z_aload_n C 0 0 dX10_tour_114 rfl rfl ?_
      refine z_getR C ok_X10 (lay_c83 hL) 1 (60) (by decide) rfl (lay_r83_1 hL) q_fl_X10_9 dX10_tour_115 ?_
      refine z_getR C ok_X0 (lay_c60 hL) 0 (61) (by decide) rfl (lay_r60_0 hL) q_fl_X10_40 dX10_tour_118 ?_
      refine z_getR C ok_X5 (lay_c61 hL) 7 (65) (by decide) rfl (lay_r61_7 hL) q_fl_X10_57 dX10_tour_121 ?_
      refine z_iload C 3 dX10_tour_124 rfl ?_
      replace hf := gd_out hf
      obtain ⟨g37, hf⟩ := hf
      refine z_iald C (lay_c65 hL) (inb_in g37) dX10_tour_126 ?_
      replace hf := gd_out hf
      obtain ⟨g38, hf⟩ := hf
      refine z_iald C (lay_c84 hL) (inb_in g38) dX10_tour_127 ?_
      replace hf := gd_out hf
      obtain ⟨g39, hf⟩ := hf
      refine z_iast C (lay_c86 hL) (inb_in g39) dX10_tour_128 ?_
      refine z_M (fun M40 e41 => ?_)
      replace hf := bnd_out e41 hf
      refine z_iinc C 3 (y32 + 1) [(4, .int (y32 + 1)), (0, .ref (G.1 + 83)), (2, .int y30), (3, .int y31)] dX10_tour_129 rfl rfl (by decide) rfl rfl ?_
      refine z_goto C 93 dX10_tour_132 (by decide) ?_
      refine z_lv (lv2 := [(0, .ref (G.1 + 83)), (2, .int y30), (3, .int y31), (4, .int (y32 + 1))]) [1, 2, 3, 0] rfl ?_
      exact ih M40 y30 y31 (y32 + 1)  hf
set_option maxHeartbeats 4000000 in
set_option maxRecDepth 100000 in
theorem wX10_tour_l69 (C : CX p s m args meth c cX10_tour 5 none RX10 G) (hs0 : s.heap.size = G.1 + K.1) (hL : Lay K)  (k141 : MM → Int32 → Option MM) (pp : MM) (hk141 : ∀ (M24 : MM) (y25 : Int32), k141 M24 y25 = some pp → Z p l e (rmo 2 0 0) s m args below meth c 5 G (MQ below (QC G none K pp) args s 0 0 (AG G)) K 0 0 M24 141 [(0, .ref (G.1 + 83)), (2, .int y25)] []) : ∀ (n : Nat) (M20 : MM) (y21 : Int32) (y22 : Int32) (hf : fX10_tour_l69 k141 n M20 y21 y22 = some pp), Z p l e (rmo 2 0 0) s m args below meth c 5 G (MQ below (QC G none K pp) args s 0 0 (AG G)) K 0 0 M20 69 [(0, .ref (G.1 + 83)), (2, .int y21), (3, .int y22)] [] := by
  intro n
  induction n with
  | zero => intro M20 y21 y22 hf; exact nomatch (show (none : Option MM) = some pp from hf)
  | succ n ih =>
    intro M20 y21 y22 hf
    rw [fX10_tour_l69.eq_2] at hf
    refine z_iload_n C 2 3 dX10_tour_69 rfl rfl ?_
    refine z_iload_n C 1 2 dX10_tour_70 rfl rfl ?_
    refine z_icmp_ge C 141 dX10_tour_71 (by decide) (fun c23 => ?_) (fun c23 => ?_)
    · replace hf := ite_t c23 hf
      refine z_lv (lv2 := [(0, .ref (G.1 + 83)), (2, .int y21)]) [0, 1] rfl ?_
      exact hk141 M20 y21  hf
    · replace hf := ite_f c23 hf
      refine z_aload_n C 0 0 dX10_tour_74 rfl rfl ?_
      refine z_aload_n C 0 0 dX10_tour_75 rfl rfl ?_
      refine z_getR C ok_X10 (lay_c83 hL) 1 (60) (by decide) rfl (lay_r83_1 hL) q_fl_X10_9 dX10_tour_76 ?_
      refine z_getR C ok_X0 (lay_c60 hL) 0 (61) (by decide) rfl (lay_r60_0 hL) q_fl_X10_40 dX10_tour_79 ?_
      refine z_getR C ok_X5 (lay_c61 hL) 7 (65) (by decide) rfl (lay_r61_7 hL) q_fl_X10_57 dX10_tour_82 ?_
      refine z_iload_n C 2 3 dX10_tour_85 rfl rfl ?_
      replace hf := gd_out hf
      obtain ⟨g26, hf⟩ := hf
      refine z_iald C (lay_c65 hL) (inb_in g26) dX10_tour_86 ?_
      replace hf := bd_out hf
      obtain ⟨p27, e28, hf⟩ := hf
      refine z_cV0 C [] (tX10_flood l G hL M20 (gI M20 65 (ix y22)) _ e28) lk_X10_flood ok_X10 (lay_c83 hL) q_ml_X10_53 rfl ⟨Nat.le_of_ble_eq_true rfl, Nat.le_of_ble_eq_true rfl⟩ rfl (Nat.le_of_ble_eq_true rfl) ⟨Nat.le_refl _, Nat.le_refl _⟩ dX10_tour_87 ?_
      refine z_iconst C 0 dX10_tour_90 (by decide) ?_
      refine z_istore C [(4, .int 0), (0, .ref (G.1 + 83)), (2, .int y21), (3, .int y22)] dX10_tour_91 (by decide) rfl rfl ?_
      refine z_lv (lv2 := [(0, .ref (G.1 + 83)), (2, .int y21), (3, .int y22), (4, .int 0)]) [1, 2, 3, 0] rfl ?_
      refine wX10_tour_l93 C hs0 hL _ pp ?_ FU p27 y21 y22 0 hf
      · intro M42 y43 y44 hf
        refine z_iinc C 2 (y44 + 1) [(3, .int (y44 + 1)), (0, .ref (G.1 + 83)), (2, .int y43)] dX10_tour_135 rfl rfl (by decide) rfl rfl ?_
        refine z_goto C 69 dX10_tour_138 (by decide) ?_
        refine z_lv (lv2 := [(0, .ref (G.1 + 83)), (2, .int y43), (3, .int (y44 + 1))]) [1, 2, 0] rfl ?_
        exact ih M42 y43 (y44 + 1)  hf
set_option maxHeartbeats 4000000 in
set_option maxRecDepth 100000 in
theorem wX10_tour_l153 (C : CX p s m args meth c cX10_tour 5 none RX10 G) (hs0 : s.heap.size = G.1 + K.1) (hL : Lay K)  (k188 : MM → Int32 → Int32 → Option MM) (pp : MM) (hk188 : ∀ (M56 : MM) (y57 : Int32) (y58 : Int32), k188 M56 y57 y58 = some pp → Z p l e (rmo 2 0 0) s m args below meth c 5 G (MQ below (QC G none K pp) args s 0 0 (AG G)) K 0 0 M56 188 [(0, .ref (G.1 + 83)), (2, .int y57), (3, .int y58)] []) : ∀ (n : Nat) (M51 : MM) (y52 : Int32) (y53 : Int32) (y54 : Int32) (hf : fX10_tour_l153 k188 n M51 y52 y53 y54 = some pp), Z p l e (rmo 2 0 0) s m args below meth c 5 G (MQ below (QC G none K pp) args s 0 0 (AG G)) K 0 0 M51 153 [(0, .ref (G.1 + 83)), (2, .int y52), (3, .int y53), (4, .int y54)] [] := by
  intro n
  induction n with
  | zero => intro M51 y52 y53 y54 hf; exact nomatch (show (none : Option MM) = some pp from hf)
  | succ n ih =>
    intro M51 y52 y53 y54 hf
    rw [fX10_tour_l153.eq_2] at hf
    refine z_iload C 3 dX10_tour_153 rfl ?_
    refine z_iload_n C 1 2 dX10_tour_155 rfl rfl ?_
    refine z_icmp_ge C 188 dX10_tour_156 (by decide) (fun c55 => ?_) (fun c55 => ?_)
    · replace hf := ite_t c55 hf
      refine z_lv (lv2 := [(0, .ref (G.1 + 83)), (2, .int y52), (3, .int y53)]) [0, 1, 2] rfl ?_
      exact hk188 M51 y52 y53  hf
    · replace hf := ite_f c55 hf
      refine z_aload_n C 0 0 dX10_tour_159 rfl rfl ?_
      refine z_getR C ok_X10 (lay_c83 hL) 4 (87) (by decide) rfl (lay_r83_4 hL) q_fl_X10_25 dX10_tour_160 ?_
      refine z_bipush C 8 dX10_tour_163 (by decide) ?_
      refine z_iload_n C 2 3 dX10_tour_165 rfl rfl ?_
      refine z_imul C dX10_tour_166 ?_
      refine z_iload C 3 dX10_tour_167 rfl ?_
      refine z_iadd C dX10_tour_169 ?_
      replace hf := gd_out hf
      obtain ⟨g59, hf⟩ := hf
      refine z_iald C (lay_c87 hL) (inb_in g59) dX10_tour_170 ?_
      refine z_iconst C (-1) dX10_tour_171 (by decide) ?_
      refine z_icmp_eq C 182 dX10_tour_172 (by decide) (fun c60 => ?_) (fun c60 => ?_)
      · replace hf := ite_t c60 hf
        refine z_iinc C 3 (y54 + 1) [(4, .int (y54 + 1)), (0, .ref (G.1 + 83)), (2, .int y52), (3, .int y53)] dX10_tour_182 rfl rfl (by decide) rfl rfl ?_
        refine z_goto C 153 dX10_tour_185 (by decide) ?_
        refine z_lv (lv2 := [(0, .ref (G.1 + 83)), (2, .int y52), (3, .int y53), (4, .int (y54 + 1))]) [1, 2, 3, 0] rfl ?_
        exact ih M51 y52 y53 (y54 + 1)  hf
      · replace hf := ite_f c60 hf
        refine z_aload_n C 0 0 dX10_tour_175 rfl rfl ?_
        refine z_iload_n C 2 3 dX10_tour_176 rfl rfl ?_
        refine z_iload C 3 dX10_tour_177 rfl ?_
        replace hf := bd_out hf
        obtain ⟨p61, e62, hf⟩ := hf
        refine z_cV0 C [] (tX10_goOn l G hL M51 y53 y54 _ e62) lk_X10_goOn ok_X10 (lay_c83 hL) q_ml_X10_60 rfl ⟨Nat.le_of_ble_eq_true rfl, Nat.le_of_ble_eq_true rfl⟩ rfl (Nat.le_of_ble_eq_true rfl) ⟨Nat.le_refl _, Nat.le_refl _⟩ dX10_tour_179 ?_
        refine z_iinc C 3 (y54 + 1) [(4, .int (y54 + 1)), (0, .ref (G.1 + 83)), (2, .int y52), (3, .int y53)] dX10_tour_182 rfl rfl (by decide) rfl rfl ?_
        refine z_goto C 153 dX10_tour_185 (by decide) ?_
        refine z_lv (lv2 := [(0, .ref (G.1 + 83)), (2, .int y52), (3, .int y53), (4, .int (y54 + 1))]) [1, 2, 3, 0] rfl ?_
        exact ih p61 y52 y53 (y54 + 1)  hf
set_option maxHeartbeats 4000000 in
set_option maxRecDepth 100000 in
theorem wX10_tour_l143 (C : CX p s m args meth c cX10_tour 5 none RX10 G) (hs0 : s.heap.size = G.1 + K.1) (hL : Lay K)   (pp : MM)  : ∀ (n : Nat) (M47 : MM) (y48 : Int32) (y49 : Int32) (hf : fX10_tour_l143 n M47 y48 y49 = some pp), Z p l e (rmo 2 0 0) s m args below meth c 5 G (MQ below (QC G none K pp) args s 0 0 (AG G)) K 0 0 M47 143 [(0, .ref (G.1 + 83)), (2, .int y48), (3, .int y49)] [] := by
  intro n
  induction n with
  | zero => intro M47 y48 y49 hf; exact nomatch (show (none : Option MM) = some pp from hf)
  | succ n ih =>
    intro M47 y48 y49 hf
    rw [fX10_tour_l143.eq_2] at hf
    refine z_iload_n C 2 3 dX10_tour_143 rfl rfl ?_
    refine z_iconst C 1 dX10_tour_144 (by decide) ?_
    refine z_iload_n C 1 2 dX10_tour_145 rfl rfl ?_
    refine z_ishl C dX10_tour_146 ?_
    refine z_icmp_ge C 194 dX10_tour_147 (by decide) (fun c50 => ?_) (fun c50 => ?_)
    · replace hf := ite_t c50 hf
      cases hf
      exact z_vret C rfl dX10_tour_194
    · replace hf := ite_f c50 hf
      refine z_iconst C 0 dX10_tour_150 (by decide) ?_
      refine z_istore C [(4, .int 0), (0, .ref (G.1 + 83)), (2, .int y48), (3, .int y49)] dX10_tour_151 (by decide) rfl rfl ?_
      refine z_lv (lv2 := [(0, .ref (G.1 + 83)), (2, .int y48), (3, .int y49), (4, .int 0)]) [1, 2, 3, 0] rfl ?_
      refine wX10_tour_l153 C hs0 hL _ pp ?_ FU M47 y48 y49 0 hf
      · intro M63 y64 y65 hf
        refine z_iinc C 2 (y65 + 1) [(3, .int (y65 + 1)), (0, .ref (G.1 + 83)), (2, .int y64)] dX10_tour_188 rfl rfl (by decide) rfl rfl ?_
        refine z_goto C 143 dX10_tour_191 (by decide) ?_
        refine z_lv (lv2 := [(0, .ref (G.1 + 83)), (2, .int y64), (3, .int (y65 + 1))]) [1, 2, 0] rfl ?_
        exact ih M63 y64 (y65 + 1)  hf
set_option maxHeartbeats 4000000 in
set_option maxRecDepth 100000 in
theorem tX10_tour (l : Launch) (G : GG) {K : SK} (hL : Lay K) (M : MM) (x1 : Int32) (pp : MM) (hf : fX10_tour M x1 = some pp) : Ct l yX10_tour cX10_tour 5 none 2 0 0 G K M [.ref (G.1 + 83), .int x1] none K pp := by
  refine z_enter (lv := [(0, .ref (G.1 + 83)), (1, .int x1)]) (by decide +kernel) (Nat.le_of_ble_eq_true rfl) rfl ?_
  intro p e s m args below meth c C hnm hs0
  replace C : CX p s m args meth c cX10_tour 5 none RX10 G := C
  unfold fX10_tour at hf
  refine z_aload_n C 0 0 dX10_tour_0 rfl rfl ?_
  refine z_getR C ok_X10 (lay_c83 hL) 1 (60) (by decide) rfl (lay_r83_1 hL) q_fl_X10_9 dX10_tour_1 ?_
  refine z_getR C ok_X0 (lay_c60 hL) 0 (61) (by decide) rfl (lay_r60_0 hL) q_fl_X10_40 dX10_tour_4 ?_
  refine z_getI C ok_X5 (lay_c61 hL) 3 (by decide) rfl q_fl_X10_49 dX10_tour_7 ?_
  refine z_topi (fun v1 e2 => ?_)
  replace hf := bnd_out e2 hf
  refine z_istore_n C [(2, .int v1), (0, .ref (G.1 + 83)), (1, .int x1)] dX10_tour_10 rfl (by decide) rfl rfl ?_
  refine z_aload_n C 1 0 dX10_tour_11 rfl rfl ?_
  refine z_getR C ok_X10 (lay_c83 hL) 4 (87) (by decide) rfl (lay_r83_4 hL) q_fl_X10_25 dX10_tour_12 ?_
  refine z_iconst C (-1) dX10_tour_15 (by decide) ?_
  replace hf := bd_out hf
  obtain ⟨p3, e4, hf⟩ := hf
  refine z_cS0 C [] (tJ7_fill_53178 l G M 87 2048 (lay_c87 hL) (-1) _ e4) lk_J7_fill_53178 q_ml_X10_28 rfl ⟨Nat.le_of_ble_eq_true rfl, Nat.le_of_ble_eq_true rfl⟩ rfl (Nat.le_of_ble_eq_true rfl) ⟨Nat.le_refl _, Nat.le_refl _⟩ dX10_tour_16 ?_
  refine z_aload_n C 1 0 dX10_tour_19 rfl rfl ?_
  refine z_iload_n C 2 1 dX10_tour_20 rfl rfl ?_
  replace hf := bd_out hf
  obtain ⟨p5, e6, hf⟩ := hf
  refine z_cV0 C [] (tX10_flood l G hL p3 x1 _ e6) lk_X10_flood ok_X10 (lay_c83 hL) q_ml_X10_53 rfl ⟨Nat.le_of_ble_eq_true rfl, Nat.le_of_ble_eq_true rfl⟩ rfl (Nat.le_of_ble_eq_true rfl) ⟨Nat.le_refl _, Nat.le_refl _⟩ dX10_tour_21 ?_
  refine z_iconst C 0 dX10_tour_24 (by decide) ?_
  refine z_istore_n C [(3, .int 0), (2, .int v1), (0, .ref (G.1 + 83)), (1, .int x1)] dX10_tour_25 rfl (by decide) rfl rfl ?_
  refine z_lv (lv2 := [(0, .ref (G.1 + 83)), (2, .int v1), (3, .int 0)]) [2, 1, 0] rfl ?_
  refine wX10_tour_l26 C hs0 hL _ pp ?_ FU p5 v1 0 hf
  · intro M18 y19 hf
    refine z_iconst C 0 dX10_tour_67 (by decide) ?_
    refine z_istore_n C [(3, .int 0), (0, .ref (G.1 + 83)), (2, .int y19)] dX10_tour_68 rfl (by decide) rfl rfl ?_
    refine z_lv (lv2 := [(0, .ref (G.1 + 83)), (2, .int y19), (3, .int 0)]) [1, 2, 0] rfl ?_
    refine wX10_tour_l69 C hs0 hL _ pp ?_ FU M18 y19 0 hf
    · intro M45 y46 hf
      refine z_iconst C 1 dX10_tour_141 (by decide) ?_
      refine z_istore_n C [(3, .int 1), (0, .ref (G.1 + 83)), (2, .int y46)] dX10_tour_142 rfl (by decide) rfl rfl ?_
      refine z_lv (lv2 := [(0, .ref (G.1 + 83)), (2, .int y46), (3, .int 1)]) [1, 2, 0] rfl ?_
      exact wX10_tour_l143 C hs0 hL pp FU M45 y46 1 hf
set_option maxHeartbeats 4000000 in
set_option maxRecDepth 100000 in
theorem wX10_fewestTo_j54 (C : CX p s m args meth c cX10_fewestTo 5 (some .int) RX10 G) (hs0 : s.heap.size = G.1 + K.1) (hL : Lay K) (M : MM) (k10 : Int32 → Int32 → Int32 → Option Int32) (pp : Int32) (hk10 : ∀ (y14 : Int32) (y15 : Int32) (y16 : Int32), k10 y14 y15 y16 = some pp → Z p l e (rmo 0 0 0) s m args below meth c 5 G (MQ below (QC G (some (.int pp)) K M) args s 0 0 (AG G)) K 0 0 M 10 [(0, .ref (G.1 + 83)), (1, .int y14), (2, .int y15), (3, .int y16)] []) (y11 : Int32) (y12 : Int32) (y13 : Int32) (hf : fX10_fewestTo_j54 M k10 y11 y12 y13 = some pp) : Z p l e (rmo 0 0 0) s m args below meth c 5 G (MQ below (QC G (some (.int pp)) K M) args s 0 0 (AG G)) K 0 0 M 54 [(0, .ref (G.1 + 83)), (1, .int y11), (3, .int y12), (4, .int y13)] [] := by
  unfold fX10_fewestTo_j54 at hf
  refine z_iload C 3 dX10_fewestTo_54 rfl ?_
  refine z_istore_n C [(2, .int y13), (0, .ref (G.1 + 83)), (1, .int y11), (3, .int y12), (4, .int y13)] dX10_fewestTo_56 rfl (by decide) rfl rfl ?_
  refine z_iinc C 3 (y12 + 1) [(3, .int (y12 + 1)), (2, .int y13), (0, .ref (G.1 + 83)), (1, .int y11), (4, .int y13)] dX10_fewestTo_57 rfl rfl (by decide) rfl rfl ?_
  refine z_goto C 10 dX10_fewestTo_60 (by decide) ?_
  refine z_lv (lv2 := [(0, .ref (G.1 + 83)), (1, .int y11), (2, .int y13), (3, .int (y12 + 1))]) [2, 3, 1, 0] rfl ?_
  exact hk10 y11 y13 (y12 + 1)  hf
set_option maxHeartbeats 4000000 in
set_option maxRecDepth 100000 in
theorem wX10_fewestTo_l10 (C : CX p s m args meth c cX10_fewestTo 5 (some .int) RX10 G) (hs0 : s.heap.size = G.1 + K.1) (hL : Lay K) (M : MM)  (pp : Int32)  : ∀ (n : Nat) (y2 : Int32) (y3 : Int32) (y4 : Int32) (hf : fX10_fewestTo_l10 M n y2 y3 y4 = some pp), Z p l e (rmo 0 0 0) s m args below meth c 5 G (MQ below (QC G (some (.int pp)) K M) args s 0 0 (AG G)) K 0 0 M 10 [(0, .ref (G.1 + 83)), (1, .int y2), (2, .int y3), (3, .int y4)] [] := by
  intro n
  induction n with
  | zero => intro y2 y3 y4 hf; exact nomatch (show (none : Option Int32) = some pp from hf)
  | succ n ih =>
    intro y2 y3 y4 hf
    rw [fX10_fewestTo_l10.eq_2] at hf
    refine z_iload_n C 3 3 dX10_fewestTo_10 rfl rfl ?_
    refine z_aload_n C 0 0 dX10_fewestTo_11 rfl rfl ?_
    refine z_getR C ok_X10 (lay_c83 hL) 1 (60) (by decide) rfl (lay_r83_1 hL) q_fl_X10_9 dX10_fewestTo_12 ?_
    refine z_getR C ok_X0 (lay_c60 hL) 0 (61) (by decide) rfl (lay_r60_0 hL) q_fl_X10_40 dX10_fewestTo_15 ?_
    refine z_getI C ok_X5 (lay_c61 hL) 3 (by decide) rfl q_fl_X10_49 dX10_fewestTo_18 ?_
    refine z_icmp_ge C 63 dX10_fewestTo_21 (by decide) (fun c5 => ?_) (fun c5 => ?_)
    · replace hf := ite_t c5 hf
      refine z_iload_n C 2 2 dX10_fewestTo_63 rfl rfl ?_
      cases hf
      exact z_iret C rfl dX10_fewestTo_64
    · replace hf := ite_f c5 hf
      refine z_aload_n C 0 0 dX10_fewestTo_24 rfl rfl ?_
      refine z_getR C ok_X10 (lay_c83 hL) 4 (87) (by decide) rfl (lay_r83_4 hL) q_fl_X10_25 dX10_fewestTo_25 ?_
      refine z_bipush C 8 dX10_fewestTo_28 (by decide) ?_
      refine z_iload_n C 1 1 dX10_fewestTo_30 rfl rfl ?_
      refine z_imul C dX10_fewestTo_31 ?_
      refine z_iload_n C 3 3 dX10_fewestTo_32 rfl rfl ?_
      refine z_iadd C dX10_fewestTo_33 ?_
      replace hf := gd_out hf
      obtain ⟨g6, hf⟩ := hf
      refine z_iald C (lay_c87 hL) (inb_in g6) dX10_fewestTo_34 ?_
      refine z_topi (fun v7 e8 => ?_)
      replace hf := bnd_out e8 hf
      refine z_istore C [(4, .int v7), (0, .ref (G.1 + 83)), (1, .int y2), (2, .int y3), (3, .int y4)] dX10_fewestTo_35 (by decide) rfl rfl ?_
      refine z_iload C 0 dX10_fewestTo_37 rfl ?_
      refine z_iconst C (-1) dX10_fewestTo_39 (by decide) ?_
      refine z_icmp_eq C 57 dX10_fewestTo_40 (by decide) (fun c9 => ?_) (fun c9 => ?_)
      · replace hf := ite_t c9 hf
        refine z_iinc C 4 (y4 + 1) [(3, .int (y4 + 1)), (4, .int v7), (0, .ref (G.1 + 83)), (1, .int y2), (2, .int y3)] dX10_fewestTo_57 rfl rfl (by decide) rfl rfl ?_
        refine z_goto C 10 dX10_fewestTo_60 (by decide) ?_
        refine z_lv (lv2 := [(0, .ref (G.1 + 83)), (1, .int y2), (2, .int y3), (3, .int (y4 + 1))]) [2, 3, 4, 0] rfl ?_
        exact ih y2 y3 (y4 + 1)  hf
      · replace hf := ite_f c9 hf
        refine z_iload_n C 3 2 dX10_fewestTo_43 rfl rfl ?_
        refine z_iconst C (-1) dX10_fewestTo_44 (by decide) ?_
        refine z_icmp_eq C 54 dX10_fewestTo_45 (by decide) (fun c10 => ?_) (fun c10 => ?_)
        · replace hf := ite_t c10 hf
          refine z_lv (lv2 := [(0, .ref (G.1 + 83)), (1, .int y2), (3, .int y4), (4, .int v7)]) [1, 2, 4, 0] rfl ?_
          refine wX10_fewestTo_j54 C hs0 hL M _ pp ?_ y2 y4 v7 hf
          · intro y17 y18 y19 hf
            exact ih y17 y18 y19  hf
        · replace hf := ite_f c10 hf
          refine z_iload C 0 dX10_fewestTo_48 rfl ?_
          refine z_iload_n C 3 2 dX10_fewestTo_50 rfl rfl ?_
          refine z_icmp_ge C 57 dX10_fewestTo_51 (by decide) (fun c20 => ?_) (fun c20 => ?_)
          · replace hf := ite_t c20 hf
            refine z_iinc C 4 (y4 + 1) [(3, .int (y4 + 1)), (4, .int v7), (0, .ref (G.1 + 83)), (1, .int y2), (2, .int y3)] dX10_fewestTo_57 rfl rfl (by decide) rfl rfl ?_
            refine z_goto C 10 dX10_fewestTo_60 (by decide) ?_
            refine z_lv (lv2 := [(0, .ref (G.1 + 83)), (1, .int y2), (2, .int y3), (3, .int (y4 + 1))]) [2, 3, 4, 0] rfl ?_
            exact ih y2 y3 (y4 + 1)  hf
          · replace hf := ite_f c20 hf
            refine z_lv (lv2 := [(0, .ref (G.1 + 83)), (1, .int y2), (3, .int y4), (4, .int v7)]) [1, 2, 4, 0] rfl ?_
            refine wX10_fewestTo_j54 C hs0 hL M _ pp ?_ y2 y4 v7 hf
            · intro y21 y22 y23 hf
              exact ih y21 y22 y23  hf
set_option maxHeartbeats 4000000 in
set_option maxRecDepth 100000 in
theorem tX10_fewestTo (l : Launch) (G : GG) {K : SK} (hL : Lay K) (M : MM) (x1 : Int32) (pp : Int32) (hf : fX10_fewestTo M x1 = some pp) : Ct l yX10_fewestTo cX10_fewestTo 5 (some .int) 0 0 0 G K M [.ref (G.1 + 83), .int x1] (some (.int pp)) K M := by
  refine z_enter (lv := [(0, .ref (G.1 + 83)), (1, .int x1)]) (by decide +kernel) (Nat.le_of_ble_eq_true rfl) rfl ?_
  intro p e s m args below meth c C hnm hs0
  replace C : CX p s m args meth c cX10_fewestTo 5 (some .int) RX10 G := C
  unfold fX10_fewestTo at hf
  refine z_iload_n C 1 1 dX10_fewestTo_0 rfl rfl ?_
  refine z_if_ne C 6 dX10_fewestTo_1 (by decide) (fun c1 => ?_) (fun c1 => ?_)
  · replace hf := ite_f c1 hf
    refine z_iconst C (-1) dX10_fewestTo_6 (by decide) ?_
    refine z_istore_n C [(2, .int (-1)), (0, .ref (G.1 + 83)), (1, .int x1)] dX10_fewestTo_7 rfl (by decide) rfl rfl ?_
    refine z_iconst C 0 dX10_fewestTo_8 (by decide) ?_
    refine z_istore_n C [(3, .int 0), (2, .int (-1)), (0, .ref (G.1 + 83)), (1, .int x1)] dX10_fewestTo_9 rfl (by decide) rfl rfl ?_
    refine z_lv (lv2 := [(0, .ref (G.1 + 83)), (1, .int x1), (2, .int (-1)), (3, .int 0)]) [2, 3, 1, 0] rfl ?_
    exact wX10_fewestTo_l10 C hs0 hL M pp FU x1 (-1) 0 hf
  · replace hf := ite_t c1 hf
    refine z_iconst C 0 dX10_fewestTo_4 (by decide) ?_
    cases hf
    exact z_iret C rfl dX10_fewestTo_5
set_option maxHeartbeats 4000000 in
set_option maxRecDepth 100000 in
theorem tX10_fewestToAll (l : Launch) (G : GG) {K : SK} (hL : Lay K) (M : MM)  (pp : Int32) (hf : fX10_fewestToAll M = some pp) : Ct l yX10_fewestToAll cX10_fewestToAll 1 (some .int) 1 0 0 G K M [.ref (G.1 + 83)] (some (.int pp)) K M := by
  refine z_enter (lv := [(0, .ref (G.1 + 83))]) (by decide +kernel) (Nat.le_of_ble_eq_true rfl) rfl ?_
  intro p e s m args below meth c C hnm hs0
  replace C : CX p s m args meth c cX10_fewestToAll 1 (some .int) RX10 G := C
  unfold fX10_fewestToAll at hf
  refine z_aload_n C 0 0 dX10_fewestToAll_0 rfl rfl ?_
  refine z_iconst C 1 dX10_fewestToAll_1 (by decide) ?_
  refine z_aload_n C 0 0 dX10_fewestToAll_2 rfl rfl ?_
  refine z_getR C ok_X10 (lay_c83 hL) 1 (60) (by decide) rfl (lay_r83_1 hL) q_fl_X10_9 dX10_fewestToAll_3 ?_
  refine z_getR C ok_X0 (lay_c60 hL) 0 (61) (by decide) rfl (lay_r60_0 hL) q_fl_X10_40 dX10_fewestToAll_6 ?_
  refine z_getI C ok_X5 (lay_c61 hL) 3 (by decide) rfl q_fl_X10_49 dX10_fewestToAll_9 ?_
  refine z_ishl C dX10_fewestToAll_12 ?_
  refine z_iconst C 1 dX10_fewestToAll_13 (by decide) ?_
  refine z_isub C dX10_fewestToAll_14 ?_
  replace hf := bd_out hf
  obtain ⟨p1, e2, hf⟩ := hf
  refine z_cV1 C [] (tX10_fewestTo l G hL M ((jshl 1 (gI M 61 3)) - 1) _ e2) lk_X10_fewestTo ok_X10 (lay_c83 hL) q_ml_X10_64 rfl ⟨Nat.le_of_ble_eq_true rfl, Nat.le_of_ble_eq_true rfl⟩ rfl (Nat.le_of_ble_eq_true rfl) ⟨Nat.le_refl _, Nat.le_refl _⟩ dX10_fewestToAll_15 ?_
  cases hf
  exact z_iret C rfl dX10_fewestToAll_18
set_option maxHeartbeats 4000000 in
set_option maxRecDepth 100000 in
theorem wX10_mostWithin_l4 (C : CX p s m args meth c cX10_mostWithin 5 (some .int) RX10 G) (hs0 : s.heap.size = G.1 + K.1) (hL : Lay K) (M : MM)  (pp : Int32)  : ∀ (n : Nat) (y1 : Int32) (y2 : Int32) (y3 : Int32) (hf : fX10_mostWithin_l4 M n y1 y2 y3 = some pp), Z p l e (rmo 1 0 0) s m args below meth c 5 G (MQ below (QC G (some (.int pp)) K M) args s 0 0 (AG G)) K 0 0 M 4 [(0, .ref (G.1 + 83)), (1, .int y1), (2, .int y2), (3, .int y3)] [] := by
  intro n
  induction n with
  | zero => intro y1 y2 y3 hf; exact nomatch (show (none : Option Int32) = some pp from hf)
  | succ n ih =>
    intro y1 y2 y3 hf
    rw [fX10_mostWithin_l4.eq_2] at hf
    refine z_iload_n C 3 3 dX10_mostWithin_4 rfl rfl ?_
    refine z_iconst C 1 dX10_mostWithin_5 (by decide) ?_
    refine z_aload_n C 0 0 dX10_mostWithin_6 rfl rfl ?_
    refine z_getR C ok_X10 (lay_c83 hL) 1 (60) (by decide) rfl (lay_r83_1 hL) q_fl_X10_9 dX10_mostWithin_7 ?_
    refine z_getR C ok_X0 (lay_c60 hL) 0 (61) (by decide) rfl (lay_r60_0 hL) q_fl_X10_40 dX10_mostWithin_10 ?_
    refine z_getI C ok_X5 (lay_c61 hL) 3 (by decide) rfl q_fl_X10_49 dX10_mostWithin_13 ?_
    refine z_ishl C dX10_mostWithin_16 ?_
    refine z_icmp_ge C 54 dX10_mostWithin_17 (by decide) (fun c4 => ?_) (fun c4 => ?_)
    · replace hf := ite_t c4 hf
      refine z_iload_n C 2 2 dX10_mostWithin_54 rfl rfl ?_
      cases hf
      exact z_iret C rfl dX10_mostWithin_55
    · replace hf := ite_f c4 hf
      refine z_aload_n C 0 0 dX10_mostWithin_20 rfl rfl ?_
      refine z_iload_n C 3 3 dX10_mostWithin_21 rfl rfl ?_
      replace hf := bd_out hf
      obtain ⟨p5, e6, hf⟩ := hf
      refine z_cV1 C [] (tX10_fewestTo l G hL M y3 _ e6) lk_X10_fewestTo ok_X10 (lay_c83 hL) q_ml_X10_64 rfl ⟨Nat.le_of_ble_eq_true rfl, Nat.le_of_ble_eq_true rfl⟩ rfl (Nat.le_of_ble_eq_true rfl) ⟨Nat.le_refl _, Nat.le_refl _⟩ dX10_mostWithin_22 ?_
      refine z_istore C [(4, .int p5), (0, .ref (G.1 + 83)), (1, .int y1), (2, .int y2), (3, .int y3)] dX10_mostWithin_25 (by decide) rfl rfl ?_
      refine z_iload C 0 dX10_mostWithin_27 rfl ?_
      refine z_iconst C (-1) dX10_mostWithin_29 (by decide) ?_
      refine z_icmp_eq C 48 dX10_mostWithin_30 (by decide) (fun c7 => ?_) (fun c7 => ?_)
      · replace hf := ite_t c7 hf
        refine z_iinc C 4 (y3 + 1) [(3, .int (y3 + 1)), (4, .int p5), (0, .ref (G.1 + 83)), (1, .int y1), (2, .int y2)] dX10_mostWithin_48 rfl rfl (by decide) rfl rfl ?_
        refine z_goto C 4 dX10_mostWithin_51 (by decide) ?_
        refine z_lv (lv2 := [(0, .ref (G.1 + 83)), (1, .int y1), (2, .int y2), (3, .int (y3 + 1))]) [2, 3, 4, 0] rfl ?_
        exact ih y1 y2 (y3 + 1)  hf
      · replace hf := ite_f c7 hf
        refine z_iload C 0 dX10_mostWithin_33 rfl ?_
        refine z_iload_n C 2 1 dX10_mostWithin_35 rfl rfl ?_
        refine z_icmp_gt C 48 dX10_mostWithin_36 (by decide) (fun c8 => ?_) (fun c8 => ?_)
        · replace hf := ite_t c8 hf
          refine z_iinc C 4 (y3 + 1) [(3, .int (y3 + 1)), (4, .int p5), (0, .ref (G.1 + 83)), (1, .int y1), (2, .int y2)] dX10_mostWithin_48 rfl rfl (by decide) rfl rfl ?_
          refine z_goto C 4 dX10_mostWithin_51 (by decide) ?_
          refine z_lv (lv2 := [(0, .ref (G.1 + 83)), (1, .int y1), (2, .int y2), (3, .int (y3 + 1))]) [2, 3, 4, 0] rfl ?_
          exact ih y1 y2 (y3 + 1)  hf
        · replace hf := ite_f c8 hf
          refine z_iload_n C 3 2 dX10_mostWithin_39 rfl rfl ?_
          refine z_iload_n C 4 3 dX10_mostWithin_40 rfl rfl ?_
          refine z_cS1 C [.int y2] (tJ6_bitCount_0f7a4 l G M y3) lk_J6_bitCount_0f7a4 q_ml_X10_68 rfl ⟨Nat.le_of_ble_eq_true rfl, Nat.le_of_ble_eq_true rfl⟩ rfl (Nat.le_of_ble_eq_true rfl) ⟨Nat.le_refl _, Nat.le_refl _⟩ dX10_mostWithin_41 ?_
          refine z_mmax C lkm_max q_ml_X10_73 (Nat.le_of_ble_eq_true rfl) (Nat.le_of_ble_eq_true rfl) ⟨Nat.le_refl _, Nat.le_refl _⟩ dX10_mostWithin_44 ?_
          refine z_topi (fun v9 e10 => ?_)
          replace hf := bnd_out e10 hf
          refine z_istore_n C [(2, .int v9), (4, .int p5), (0, .ref (G.1 + 83)), (1, .int y1), (3, .int y3)] dX10_mostWithin_47 rfl (by decide) rfl rfl ?_
          refine z_iinc C 4 (y3 + 1) [(3, .int (y3 + 1)), (2, .int v9), (4, .int p5), (0, .ref (G.1 + 83)), (1, .int y1)] dX10_mostWithin_48 rfl rfl (by decide) rfl rfl ?_
          refine z_goto C 4 dX10_mostWithin_51 (by decide) ?_
          refine z_lv (lv2 := [(0, .ref (G.1 + 83)), (1, .int y1), (2, .int v9), (3, .int (y3 + 1))]) [3, 4, 1, 0] rfl ?_
          exact ih y1 v9 (y3 + 1)  hf
set_option maxHeartbeats 4000000 in
set_option maxRecDepth 100000 in
theorem tX10_mostWithin (l : Launch) (G : GG) {K : SK} (hL : Lay K) (M : MM) (x1 : Int32) (pp : Int32) (hf : fX10_mostWithin M x1 = some pp) : Ct l yX10_mostWithin cX10_mostWithin 5 (some .int) 1 0 0 G K M [.ref (G.1 + 83), .int x1] (some (.int pp)) K M := by
  refine z_enter (lv := [(0, .ref (G.1 + 83)), (1, .int x1)]) (by decide +kernel) (Nat.le_of_ble_eq_true rfl) rfl ?_
  intro p e s m args below meth c C hnm hs0
  replace C : CX p s m args meth c cX10_mostWithin 5 (some .int) RX10 G := C
  unfold fX10_mostWithin at hf
  refine z_iconst C 0 dX10_mostWithin_0 (by decide) ?_
  refine z_istore_n C [(2, .int 0), (0, .ref (G.1 + 83)), (1, .int x1)] dX10_mostWithin_1 rfl (by decide) rfl rfl ?_
  refine z_iconst C 1 dX10_mostWithin_2 (by decide) ?_
  refine z_istore_n C [(3, .int 1), (2, .int 0), (0, .ref (G.1 + 83)), (1, .int x1)] dX10_mostWithin_3 rfl (by decide) rfl rfl ?_
  refine z_lv (lv2 := [(0, .ref (G.1 + 83)), (1, .int x1), (2, .int 0), (3, .int 1)]) [2, 3, 1, 0] rfl ?_
  exact wX10_mostWithin_l4 C hs0 hL M pp FU x1 0 1 hf
end
