theorem dX12_round_0 : decode cX12_round 0 = .ok (.aload_n 0, 1) := by decide +kernel
theorem dX12_round_1 : decode cX12_round 1 = .ok (.iload_n 1, 1) := by decide +kernel
theorem dX12_round_2 : decode cX12_round 2 = .ok (.invokevirtual 225, 3) := by decide +kernel
theorem dX12_round_5 : decode cX12_round 5 = .ok (.ifCond .eq 33, 3) := by decide +kernel
theorem dX12_round_8 : decode cX12_round 8 = .ok (.aload_n 0, 1) := by decide +kernel
theorem dX12_round_9 : decode cX12_round 9 = .ok (.iload_n 2, 1) := by decide +kernel
theorem dX12_round_10 : decode cX12_round 10 = .ok (.invokevirtual 237, 3) := by decide +kernel
theorem dX12_round_13 : decode cX12_round 13 = .ok (.ifCond .eq 25, 3) := by decide +kernel
theorem dX12_round_16 : decode cX12_round 16 = .ok (.aload_n 0, 1) := by decide +kernel
theorem dX12_round_17 : decode cX12_round 17 = .ok (.aload_n 0, 1) := by decide +kernel
theorem dX12_round_18 : decode cX12_round 18 = .ok (.iload_n 2, 1) := by decide +kernel
theorem dX12_round_19 : decode cX12_round 19 = .ok (.invokevirtual 240, 3) := by decide +kernel
theorem dX12_round_22 : decode cX12_round 22 = .ok (.invokevirtual 343, 3) := by decide +kernel
theorem dX12_round_25 : decode cX12_round 25 = .ok (.ifCond .ne 13, 3) := by decide +kernel
theorem dX12_round_28 : decode cX12_round 28 = .ok (.iload_n 3, 1) := by decide +kernel
theorem dX12_round_29 : decode cX12_round 29 = .ok (.iconst (-1), 1) := by decide +kernel
theorem dX12_round_30 : decode cX12_round 30 = .ok (.bipush 99, 2) := by decide +kernel
theorem dX12_round_32 : decode cX12_round 32 = .ok (.invokestatic 141, 3) := by decide +kernel
theorem dX12_round_35 : decode cX12_round 35 = .ok (.ifCond .ne 6, 3) := by decide +kernel
theorem dX12_round_38 : decode cX12_round 38 = .ok (.bipush (-2), 2) := by decide +kernel
theorem dX12_round_40 : decode cX12_round 40 = .ok (.ireturn, 1) := by decide +kernel
theorem dX12_round_41 : decode cX12_round 41 = .ok (.aload_n 0, 1) := by decide +kernel
theorem dX12_round_42 : decode cX12_round 42 = .ok (.aload_n 0, 1) := by decide +kernel
theorem dX12_round_43 : decode cX12_round 43 = .ok (.iload_n 2, 1) := by decide +kernel
theorem dX12_round_44 : decode cX12_round 44 = .ok (.invokevirtual 240, 3) := by decide +kernel
theorem dX12_round_47 : decode cX12_round 47 = .ok (.invokevirtual 349, 3) := by decide +kernel
theorem dX12_round_50 : decode cX12_round 50 = .ok (.iconst 1, 1) := by decide +kernel
theorem dX12_round_51 : decode cX12_round 51 = .ok (.aload_n 0, 1) := by decide +kernel
theorem dX12_round_52 : decode cX12_round 52 = .ok (.getfield 216, 3) := by decide +kernel
theorem dX12_round_55 : decode cX12_round 55 = .ok (.ishl, 1) := by decide +kernel
theorem dX12_round_56 : decode cX12_round 56 = .ok (.iconst 1, 1) := by decide +kernel
theorem dX12_round_57 : decode cX12_round 57 = .ok (.isub, 1) := by decide +kernel
theorem dX12_round_58 : decode cX12_round 58 = .ok (.istore 4, 2) := by decide +kernel
theorem dX12_round_60 : decode cX12_round 60 = .ok (.aload_n 0, 1) := by decide +kernel
theorem dX12_round_61 : decode cX12_round 61 = .ok (.getfield 216, 3) := by decide +kernel
theorem dX12_round_64 : decode cX12_round 64 = .ok (.ifCond .ne 7, 3) := by decide +kernel
theorem dX12_round_67 : decode cX12_round 67 = .ok (.iconst 0, 1) := by decide +kernel
theorem dX12_round_68 : decode cX12_round 68 = .ok (.goto 6, 3) := by decide +kernel
theorem dX12_round_71 : decode cX12_round 71 = .ok (.sipush 9999, 3) := by decide +kernel
theorem dX12_round_74 : decode cX12_round 74 = .ok (.istore 5, 2) := by decide +kernel
theorem dX12_round_76 : decode cX12_round 76 = .ok (.iconst 0, 1) := by decide +kernel
theorem dX12_round_77 : decode cX12_round 77 = .ok (.istore 6, 2) := by decide +kernel
theorem dX12_round_79 : decode cX12_round 79 = .ok (.bipush 8, 2) := by decide +kernel
theorem dX12_round_81 : decode cX12_round 81 = .ok (.istore 7, 2) := by decide +kernel
theorem dX12_round_83 : decode cX12_round 83 = .ok (.iload 7, 2) := by decide +kernel
theorem dX12_round_85 : decode cX12_round 85 = .ok (.bipush 8, 2) := by decide +kernel
theorem dX12_round_87 : decode cX12_round 87 = .ok (.aload_n 0, 1) := by decide +kernel
theorem dX12_round_88 : decode cX12_round 88 = .ok (.getfield 216, 3) := by decide +kernel
theorem dX12_round_91 : decode cX12_round 91 = .ok (.ishl, 1) := by decide +kernel
theorem dX12_round_92 : decode cX12_round 92 = .ok (.if_icmp .ge 74, 3) := by decide +kernel
theorem dX12_round_95 : decode cX12_round 95 = .ok (.iload 7, 2) := by decide +kernel
theorem dX12_round_97 : decode cX12_round 97 = .ok (.bipush 8, 2) := by decide +kernel
theorem dX12_round_99 : decode cX12_round 99 = .ok (.idiv, 1) := by decide +kernel
theorem dX12_round_100 : decode cX12_round 100 = .ok (.iload 4, 2) := by decide +kernel
theorem dX12_round_102 : decode cX12_round 102 = .ok (.if_icmp .ne 24, 3) := by decide +kernel
theorem dX12_round_105 : decode cX12_round 105 = .ok (.aload_n 0, 1) := by decide +kernel
theorem dX12_round_106 : decode cX12_round 106 = .ok (.getfield 77, 3) := by decide +kernel
theorem dX12_round_109 : decode cX12_round 109 = .ok (.iload 7, 2) := by decide +kernel
theorem dX12_round_111 : decode cX12_round 111 = .ok (.iaload, 1) := by decide +kernel
theorem dX12_round_112 : decode cX12_round 112 = .ok (.iload 5, 2) := by decide +kernel
theorem dX12_round_114 : decode cX12_round 114 = .ok (.if_icmp .ge 12, 3) := by decide +kernel
theorem dX12_round_117 : decode cX12_round 117 = .ok (.aload_n 0, 1) := by decide +kernel
theorem dX12_round_118 : decode cX12_round 118 = .ok (.getfield 77, 3) := by decide +kernel
theorem dX12_round_121 : decode cX12_round 121 = .ok (.iload 7, 2) := by decide +kernel
theorem dX12_round_123 : decode cX12_round 123 = .ok (.iaload, 1) := by decide +kernel
theorem dX12_round_124 : decode cX12_round 124 = .ok (.istore 5, 2) := by decide +kernel
theorem dX12_round_126 : decode cX12_round 126 = .ok (.aload_n 0, 1) := by decide +kernel
theorem dX12_round_127 : decode cX12_round 127 = .ok (.getfield 77, 3) := by decide +kernel
theorem dX12_round_130 : decode cX12_round 130 = .ok (.iload 7, 2) := by decide +kernel
theorem dX12_round_132 : decode cX12_round 132 = .ok (.iaload, 1) := by decide +kernel
theorem dX12_round_133 : decode cX12_round 133 = .ok (.iload_n 3, 1) := by decide +kernel
theorem dX12_round_134 : decode cX12_round 134 = .ok (.if_icmp .gt 26, 3) := by decide +kernel
theorem dX12_round_137 : decode cX12_round 137 = .ok (.iload 7, 2) := by decide +kernel
theorem dX12_round_139 : decode cX12_round 139 = .ok (.bipush 8, 2) := by decide +kernel
theorem dX12_round_141 : decode cX12_round 141 = .ok (.idiv, 1) := by decide +kernel
theorem dX12_round_142 : decode cX12_round 142 = .ok (.invokestatic 352, 3) := by decide +kernel
theorem dX12_round_145 : decode cX12_round 145 = .ok (.iload 6, 2) := by decide +kernel
theorem dX12_round_147 : decode cX12_round 147 = .ok (.if_icmp .le 13, 3) := by decide +kernel
theorem dX12_round_150 : decode cX12_round 150 = .ok (.iload 7, 2) := by decide +kernel
theorem dX12_round_152 : decode cX12_round 152 = .ok (.bipush 8, 2) := by decide +kernel
theorem dX12_round_154 : decode cX12_round 154 = .ok (.idiv, 1) := by decide +kernel
theorem dX12_round_155 : decode cX12_round 155 = .ok (.invokestatic 352, 3) := by decide +kernel
theorem dX12_round_158 : decode cX12_round 158 = .ok (.istore 6, 2) := by decide +kernel
theorem dX12_round_160 : decode cX12_round 160 = .ok (.iinc 7 1, 3) := by decide +kernel
theorem dX12_round_163 : decode cX12_round 163 = .ok (.goto (-80), 3) := by decide +kernel
theorem dX12_round_166 : decode cX12_round 166 = .ok (.iload_n 3, 1) := by decide +kernel
theorem dX12_round_167 : decode cX12_round 167 = .ok (.iconst (-1), 1) := by decide +kernel
theorem dX12_round_168 : decode cX12_round 168 = .ok (.if_icmp .eq 8, 3) := by decide +kernel
theorem dX12_round_171 : decode cX12_round 171 = .ok (.iload 6, 2) := by decide +kernel
theorem dX12_round_173 : decode cX12_round 173 = .ok (.goto 17, 3) := by decide +kernel
theorem dX12_round_176 : decode cX12_round 176 = .ok (.iload 5, 2) := by decide +kernel
theorem dX12_round_178 : decode cX12_round 178 = .ok (.sipush 9999, 3) := by decide +kernel
theorem dX12_round_181 : decode cX12_round 181 = .ok (.if_icmp .ne 7, 3) := by decide +kernel
theorem dX12_round_184 : decode cX12_round 184 = .ok (.iconst (-1), 1) := by decide +kernel
theorem dX12_round_185 : decode cX12_round 185 = .ok (.goto 5, 3) := by decide +kernel
theorem dX12_round_188 : decode cX12_round 188 = .ok (.iload 5, 2) := by decide +kernel
theorem dX12_round_190 : decode cX12_round 190 = .ok (.ireturn, 1) := by decide +kernel
theorem dX12_sight_0 : decode cX12_sight 0 = .ok (.aload_n 0, 1) := by decide +kernel
theorem dX12_sight_1 : decode cX12_sight 1 = .ok (.iconst 3, 1) := by decide +kernel
theorem dX12_sight_2 : decode cX12_sight 2 = .ok (.iload_n 1, 1) := by decide +kernel
theorem dX12_sight_3 : decode cX12_sight 3 = .ok (.invokevirtual 179, 3) := by decide +kernel
theorem dX12_sight_6 : decode cX12_sight 6 = .ok (.ifCond .ne 6, 3) := by decide +kernel
theorem dX12_sight_9 : decode cX12_sight 9 = .ok (.bipush (-2), 2) := by decide +kernel
theorem dX12_sight_11 : decode cX12_sight 11 = .ok (.ireturn, 1) := by decide +kernel
theorem dX12_sight_12 : decode cX12_sight 12 = .ok (.aload_n 0, 1) := by decide +kernel
theorem dX12_sight_13 : decode cX12_sight 13 = .ok (.iconst 3, 1) := by decide +kernel
theorem dX12_sight_14 : decode cX12_sight 14 = .ok (.iload_n 1, 1) := by decide +kernel
theorem dX12_sight_15 : decode cX12_sight 15 = .ok (.invokestatic 204, 3) := by decide +kernel
theorem dX12_sight_18 : decode cX12_sight 18 = .ok (.putfield 355, 3) := by decide +kernel
theorem dX12_sight_21 : decode cX12_sight 21 = .ok (.iload_n 2, 1) := by decide +kernel
theorem dX12_sight_22 : decode cX12_sight 22 = .ok (.ifCond .ne 15, 3) := by decide +kernel
theorem dX12_sight_25 : decode cX12_sight 25 = .ok (.aload_n 0, 1) := by decide +kernel
theorem dX12_sight_26 : decode cX12_sight 26 = .ok (.getfield 7, 3) := by decide +kernel
theorem dX12_sight_29 : decode cX12_sight 29 = .ok (.aload_n 0, 1) := by decide +kernel
theorem dX12_sight_30 : decode cX12_sight 30 = .ok (.getfield 355, 3) := by decide +kernel
theorem dX12_sight_33 : decode cX12_sight 33 = .ok (.iaload, 1) := by decide +kernel
theorem dX12_sight_34 : decode cX12_sight 34 = .ok (.goto 37, 3) := by decide +kernel
theorem dX12_sight_37 : decode cX12_sight 37 = .ok (.iload_n 2, 1) := by decide +kernel
theorem dX12_sight_38 : decode cX12_sight 38 = .ok (.bipush 10, 2) := by decide +kernel
theorem dX12_sight_40 : decode cX12_sight 40 = .ok (.bipush 17, 2) := by decide +kernel
theorem dX12_sight_42 : decode cX12_sight 42 = .ok (.invokestatic 141, 3) := by decide +kernel
theorem dX12_sight_45 : decode cX12_sight 45 = .ok (.ifCond .eq 24, 3) := by decide +kernel
theorem dX12_sight_48 : decode cX12_sight 48 = .ok (.aload_n 0, 1) := by decide +kernel
theorem dX12_sight_49 : decode cX12_sight 49 = .ok (.getfield 7, 3) := by decide +kernel
theorem dX12_sight_52 : decode cX12_sight 52 = .ok (.aload_n 0, 1) := by decide +kernel
theorem dX12_sight_53 : decode cX12_sight 53 = .ok (.getfield 355, 3) := by decide +kernel
theorem dX12_sight_56 : decode cX12_sight 56 = .ok (.iconst 1, 1) := by decide +kernel
theorem dX12_sight_57 : decode cX12_sight 57 = .ok (.iadd, 1) := by decide +kernel
theorem dX12_sight_58 : decode cX12_sight 58 = .ok (.iload_n 2, 1) := by decide +kernel
theorem dX12_sight_59 : decode cX12_sight 59 = .ok (.iadd, 1) := by decide +kernel
theorem dX12_sight_60 : decode cX12_sight 60 = .ok (.bipush 10, 2) := by decide +kernel
theorem dX12_sight_62 : decode cX12_sight 62 = .ok (.isub, 1) := by decide +kernel
theorem dX12_sight_63 : decode cX12_sight 63 = .ok (.iaload, 1) := by decide +kernel
theorem dX12_sight_64 : decode cX12_sight 64 = .ok (.iconst 1, 1) := by decide +kernel
theorem dX12_sight_65 : decode cX12_sight 65 = .ok (.isub, 1) := by decide +kernel
theorem dX12_sight_66 : decode cX12_sight 66 = .ok (.goto 5, 3) := by decide +kernel
theorem dX12_sight_69 : decode cX12_sight 69 = .ok (.bipush (-2), 2) := by decide +kernel
theorem dX12_sight_71 : decode cX12_sight 71 = .ok (.ireturn, 1) := by decide +kernel
theorem dX12_unlike_0 : decode cX12_unlike 0 = .ok (.iconst 0, 1) := by decide +kernel
theorem dX12_unlike_1 : decode cX12_unlike 1 = .ok (.istore_n 2, 1) := by decide +kernel
theorem dX12_unlike_2 : decode cX12_unlike 2 = .ok (.iload_n 2, 1) := by decide +kernel
theorem dX12_unlike_3 : decode cX12_unlike 3 = .ok (.aload_n 0, 1) := by decide +kernel
theorem dX12_unlike_4 : decode cX12_unlike 4 = .ok (.getfield 213, 3) := by decide +kernel
theorem dX12_unlike_7 : decode cX12_unlike 7 = .ok (.if_icmp .ge 44, 3) := by decide +kernel
theorem dX12_unlike_10 : decode cX12_unlike 10 = .ok (.aload_n 0, 1) := by decide +kernel
theorem dX12_unlike_11 : decode cX12_unlike 11 = .ok (.getfield 20, 3) := by decide +kernel
theorem dX12_unlike_14 : decode cX12_unlike 14 = .ok (.iload_n 2, 1) := by decide +kernel
theorem dX12_unlike_15 : decode cX12_unlike 15 = .ok (.iload_n 1, 1) := by decide +kernel
theorem dX12_unlike_16 : decode cX12_unlike 16 = .ok (.iload_n 2, 1) := by decide +kernel
theorem dX12_unlike_17 : decode cX12_unlike 17 = .ok (.ishr, 1) := by decide +kernel
theorem dX12_unlike_18 : decode cX12_unlike 18 = .ok (.iconst 1, 1) := by decide +kernel
theorem dX12_unlike_19 : decode cX12_unlike 19 = .ok (.iand, 1) := by decide +kernel
theorem dX12_unlike_20 : decode cX12_unlike 20 = .ok (.iconst 1, 1) := by decide +kernel
theorem dX12_unlike_21 : decode cX12_unlike 21 = .ok (.if_icmp .ne 22, 3) := by decide +kernel
theorem dX12_unlike_24 : decode cX12_unlike 24 = .ok (.aload_n 0, 1) := by decide +kernel
theorem dX12_unlike_25 : decode cX12_unlike 25 = .ok (.getfield 7, 3) := by decide +kernel
theorem dX12_unlike_28 : decode cX12_unlike 28 = .ok (.aload_n 0, 1) := by decide +kernel
theorem dX12_unlike_29 : decode cX12_unlike 29 = .ok (.getfield 207, 3) := by decide +kernel
theorem dX12_unlike_32 : decode cX12_unlike 32 = .ok (.bipush 68, 2) := by decide +kernel
theorem dX12_unlike_34 : decode cX12_unlike 34 = .ok (.iadd, 1) := by decide +kernel
theorem dX12_unlike_35 : decode cX12_unlike 35 = .ok (.iconst 2, 1) := by decide +kernel
theorem dX12_unlike_36 : decode cX12_unlike 36 = .ok (.iload_n 2, 1) := by decide +kernel
theorem dX12_unlike_37 : decode cX12_unlike 37 = .ok (.imul, 1) := by decide +kernel
theorem dX12_unlike_38 : decode cX12_unlike 38 = .ok (.iadd, 1) := by decide +kernel
theorem dX12_unlike_39 : decode cX12_unlike 39 = .ok (.iaload, 1) := by decide +kernel
theorem dX12_unlike_40 : decode cX12_unlike 40 = .ok (.goto 4, 3) := by decide +kernel
theorem dX12_unlike_43 : decode cX12_unlike 43 = .ok (.iconst (-1), 1) := by decide +kernel
theorem dX12_unlike_44 : decode cX12_unlike 44 = .ok (.iastore, 1) := by decide +kernel
theorem dX12_unlike_45 : decode cX12_unlike 45 = .ok (.iinc 2 1, 3) := by decide +kernel
theorem dX12_unlike_48 : decode cX12_unlike 48 = .ok (.goto (-46), 3) := by decide +kernel
theorem dX12_unlike_51 : decode cX12_unlike 51 = .ok (.aload_n 0, 1) := by decide +kernel
theorem dX12_unlike_52 : decode cX12_unlike 52 = .ok (.invokevirtual 258, 3) := by decide +kernel
theorem dX12_unlike_55 : decode cX12_unlike 55 = .ok (.iconst 0, 1) := by decide +kernel
theorem dX12_unlike_56 : decode cX12_unlike 56 = .ok (.istore_n 2, 1) := by decide +kernel
theorem dX12_unlike_57 : decode cX12_unlike 57 = .ok (.iconst 0, 1) := by decide +kernel
theorem dX12_unlike_58 : decode cX12_unlike 58 = .ok (.istore_n 3, 1) := by decide +kernel
theorem dX12_unlike_59 : decode cX12_unlike 59 = .ok (.iload_n 3, 1) := by decide +kernel
theorem dX12_unlike_60 : decode cX12_unlike 60 = .ok (.aload_n 0, 1) := by decide +kernel
theorem dX12_unlike_61 : decode cX12_unlike 61 = .ok (.getfield 216, 3) := by decide +kernel
theorem dX12_unlike_64 : decode cX12_unlike 64 = .ok (.if_icmp .ge 62, 3) := by decide +kernel
theorem dX12_unlike_67 : decode cX12_unlike 67 = .ok (.aload_n 0, 1) := by decide +kernel
theorem dX12_unlike_68 : decode cX12_unlike 68 = .ok (.getfield 7, 3) := by decide +kernel
theorem dX12_unlike_71 : decode cX12_unlike 71 = .ok (.aload_n 0, 1) := by decide +kernel
theorem dX12_unlike_72 : decode cX12_unlike 72 = .ok (.getfield 355, 3) := by decide +kernel
theorem dX12_unlike_75 : decode cX12_unlike 75 = .ok (.iconst 1, 1) := by decide +kernel
theorem dX12_unlike_76 : decode cX12_unlike 76 = .ok (.iadd, 1) := by decide +kernel
theorem dX12_unlike_77 : decode cX12_unlike 77 = .ok (.iload_n 3, 1) := by decide +kernel
theorem dX12_unlike_78 : decode cX12_unlike 78 = .ok (.iadd, 1) := by decide +kernel
theorem dX12_unlike_79 : decode cX12_unlike 79 = .ok (.iaload, 1) := by decide +kernel
theorem dX12_unlike_80 : decode cX12_unlike 80 = .ok (.iconst 1, 1) := by decide +kernel
theorem dX12_unlike_81 : decode cX12_unlike 81 = .ok (.isub, 1) := by decide +kernel
theorem dX12_unlike_82 : decode cX12_unlike 82 = .ok (.istore 4, 2) := by decide +kernel
theorem dX12_unlike_84 : decode cX12_unlike 84 = .ok (.aload_n 0, 1) := by decide +kernel
theorem dX12_unlike_85 : decode cX12_unlike 85 = .ok (.iload_n 3, 1) := by decide +kernel
theorem dX12_unlike_86 : decode cX12_unlike 86 = .ok (.invokevirtual 276, 3) := by decide +kernel
theorem dX12_unlike_89 : decode cX12_unlike 89 = .ok (.iload 4, 2) := by decide +kernel
theorem dX12_unlike_91 : decode cX12_unlike 91 = .ok (.isub, 1) := by decide +kernel
theorem dX12_unlike_92 : decode cX12_unlike 92 = .ok (.istore 5, 2) := by decide +kernel
theorem dX12_unlike_94 : decode cX12_unlike 94 = .ok (.iload_n 2, 1) := by decide +kernel
theorem dX12_unlike_95 : decode cX12_unlike 95 = .ok (.iload 4, 2) := by decide +kernel
theorem dX12_unlike_97 : decode cX12_unlike 97 = .ok (.iconst (-1), 1) := by decide +kernel
theorem dX12_unlike_98 : decode cX12_unlike 98 = .ok (.if_icmp .ne 7, 3) := by decide +kernel
theorem dX12_unlike_101 : decode cX12_unlike 101 = .ok (.iconst 0, 1) := by decide +kernel
theorem dX12_unlike_102 : decode cX12_unlike 102 = .ok (.goto 16, 3) := by decide +kernel
theorem dX12_unlike_105 : decode cX12_unlike 105 = .ok (.iload 5, 2) := by decide +kernel
theorem dX12_unlike_107 : decode cX12_unlike 107 = .ok (.ifCond .ge 9, 3) := by decide +kernel
theorem dX12_unlike_110 : decode cX12_unlike 110 = .ok (.iload 5, 2) := by decide +kernel
theorem dX12_unlike_112 : decode cX12_unlike 112 = .ok (.ineg, 1) := by decide +kernel
theorem dX12_unlike_113 : decode cX12_unlike 113 = .ok (.goto 5, 3) := by decide +kernel
theorem dX12_unlike_116 : decode cX12_unlike 116 = .ok (.iload 5, 2) := by decide +kernel
theorem dX12_unlike_118 : decode cX12_unlike 118 = .ok (.iadd, 1) := by decide +kernel
theorem dX12_unlike_119 : decode cX12_unlike 119 = .ok (.istore_n 2, 1) := by decide +kernel
theorem dX12_unlike_120 : decode cX12_unlike 120 = .ok (.iinc 3 1, 3) := by decide +kernel
theorem dX12_unlike_123 : decode cX12_unlike 123 = .ok (.goto (-64), 3) := by decide +kernel
theorem dX12_unlike_126 : decode cX12_unlike 126 = .ok (.iload_n 2, 1) := by decide +kernel
theorem dX12_unlike_127 : decode cX12_unlike 127 = .ok (.ireturn, 1) := by decide +kernel
theorem dX12_next_0 : decode cX12_next 0 = .ok (.iload_n 1, 1) := by decide +kernel
theorem dX12_next_1 : decode cX12_next 1 = .ok (.ifCond .ne 5, 3) := by decide +kernel
theorem dX12_next_4 : decode cX12_next 4 = .ok (.iconst (-1), 1) := by decide +kernel
theorem dX12_next_5 : decode cX12_next 5 = .ok (.ireturn, 1) := by decide +kernel
theorem dX12_next_6 : decode cX12_next 6 = .ok (.iconst (-1), 1) := by decide +kernel
theorem dX12_next_7 : decode cX12_next 7 = .ok (.istore_n 2, 1) := by decide +kernel
theorem dX12_next_8 : decode cX12_next 8 = .ok (.iconst 0, 1) := by decide +kernel
theorem dX12_next_9 : decode cX12_next 9 = .ok (.istore_n 3, 1) := by decide +kernel
theorem dX12_next_10 : decode cX12_next 10 = .ok (.iconst 0, 1) := by decide +kernel
theorem dX12_next_11 : decode cX12_next 11 = .ok (.istore 4, 2) := by decide +kernel
theorem dX12_next_13 : decode cX12_next 13 = .ok (.iload 4, 2) := by decide +kernel
theorem dX12_next_15 : decode cX12_next 15 = .ok (.aload_n 0, 1) := by decide +kernel
theorem dX12_next_16 : decode cX12_next 16 = .ok (.getfield 216, 3) := by decide +kernel
theorem dX12_next_19 : decode cX12_next 19 = .ok (.if_icmp .ge 86, 3) := by decide +kernel
theorem dX12_next_22 : decode cX12_next 22 = .ok (.iconst 0, 1) := by decide +kernel
theorem dX12_next_23 : decode cX12_next 23 = .ok (.istore 5, 2) := by decide +kernel
theorem dX12_next_25 : decode cX12_next 25 = .ok (.iconst 0, 1) := by decide +kernel
theorem dX12_next_26 : decode cX12_next 26 = .ok (.istore 6, 2) := by decide +kernel
theorem dX12_next_28 : decode cX12_next 28 = .ok (.iload 6, 2) := by decide +kernel
theorem dX12_next_30 : decode cX12_next 30 = .ok (.bipush 10, 2) := by decide +kernel
theorem dX12_next_32 : decode cX12_next 32 = .ok (.if_icmp .ge 47, 3) := by decide +kernel
theorem dX12_next_35 : decode cX12_next 35 = .ok (.aload_n 0, 1) := by decide +kernel
theorem dX12_next_36 : decode cX12_next 36 = .ok (.getfield 80, 3) := by decide +kernel
theorem dX12_next_39 : decode cX12_next 39 = .ok (.bipush 10, 2) := by decide +kernel
theorem dX12_next_41 : decode cX12_next 41 = .ok (.iload 4, 2) := by decide +kernel
theorem dX12_next_43 : decode cX12_next 43 = .ok (.imul, 1) := by decide +kernel
theorem dX12_next_44 : decode cX12_next 44 = .ok (.iload 6, 2) := by decide +kernel
theorem dX12_next_46 : decode cX12_next 46 = .ok (.iadd, 1) := by decide +kernel
theorem dX12_next_47 : decode cX12_next 47 = .ok (.iaload, 1) := by decide +kernel
theorem dX12_next_48 : decode cX12_next 48 = .ok (.iload 5, 2) := by decide +kernel
theorem dX12_next_50 : decode cX12_next 50 = .ok (.if_icmp .le 19, 3) := by decide +kernel
theorem dX12_next_53 : decode cX12_next 53 = .ok (.aload_n 0, 1) := by decide +kernel
theorem dX12_next_54 : decode cX12_next 54 = .ok (.getfield 80, 3) := by decide +kernel
theorem dX12_next_57 : decode cX12_next 57 = .ok (.bipush 10, 2) := by decide +kernel
theorem dX12_next_59 : decode cX12_next 59 = .ok (.iload 4, 2) := by decide +kernel
theorem dX12_next_61 : decode cX12_next 61 = .ok (.imul, 1) := by decide +kernel
theorem dX12_next_62 : decode cX12_next 62 = .ok (.iload 6, 2) := by decide +kernel
theorem dX12_next_64 : decode cX12_next 64 = .ok (.iadd, 1) := by decide +kernel
theorem dX12_next_65 : decode cX12_next 65 = .ok (.iaload, 1) := by decide +kernel
theorem dX12_next_66 : decode cX12_next 66 = .ok (.goto 5, 3) := by decide +kernel
theorem dX12_next_69 : decode cX12_next 69 = .ok (.iload 5, 2) := by decide +kernel
theorem dX12_next_71 : decode cX12_next 71 = .ok (.istore 5, 2) := by decide +kernel
theorem dX12_next_73 : decode cX12_next 73 = .ok (.iinc 6 1, 3) := by decide +kernel
theorem dX12_next_76 : decode cX12_next 76 = .ok (.goto (-48), 3) := by decide +kernel
theorem dX12_next_79 : decode cX12_next 79 = .ok (.iload_n 2, 1) := by decide +kernel
theorem dX12_next_80 : decode cX12_next 80 = .ok (.iconst (-1), 1) := by decide +kernel
theorem dX12_next_81 : decode cX12_next 81 = .ok (.if_icmp .eq 12, 3) := by decide +kernel
theorem dX12_next_84 : decode cX12_next 84 = .ok (.iload 5, 2) := by decide +kernel
theorem dX12_next_86 : decode cX12_next 86 = .ok (.iload_n 3, 1) := by decide +kernel
theorem dX12_next_87 : decode cX12_next 87 = .ok (.if_icmp .lt 6, 3) := by decide +kernel
theorem dX12_next_90 : decode cX12_next 90 = .ok (.goto 9, 3) := by decide +kernel
theorem dX12_next_93 : decode cX12_next 93 = .ok (.iload 4, 2) := by decide +kernel
theorem dX12_next_95 : decode cX12_next 95 = .ok (.istore_n 2, 1) := by decide +kernel
theorem dX12_next_96 : decode cX12_next 96 = .ok (.iload 5, 2) := by decide +kernel
theorem dX12_next_98 : decode cX12_next 98 = .ok (.istore_n 3, 1) := by decide +kernel
theorem dX12_next_99 : decode cX12_next 99 = .ok (.iinc 4 1, 3) := by decide +kernel
theorem dX12_next_102 : decode cX12_next 102 = .ok (.goto (-89), 3) := by decide +kernel
theorem dX12_next_105 : decode cX12_next 105 = .ok (.iload_n 2, 1) := by decide +kernel
theorem dX12_next_106 : decode cX12_next 106 = .ok (.ireturn, 1) := by decide +kernel
theorem dX12_fits_0 : decode cX12_fits 0 = .ok (.aload_n 0, 1) := by decide +kernel
theorem dX12_fits_1 : decode cX12_fits 1 = .ok (.iload_n 1, 1) := by decide +kernel
theorem dX12_fits_2 : decode cX12_fits 2 = .ok (.iload_n 2, 1) := by decide +kernel
theorem dX12_fits_3 : decode cX12_fits 3 = .ok (.invokevirtual 279, 3) := by decide +kernel
theorem dX12_fits_6 : decode cX12_fits 6 = .ok (.ifCond .eq 28, 3) := by decide +kernel
theorem dX12_fits_9 : decode cX12_fits 9 = .ok (.aload_n 0, 1) := by decide +kernel
theorem dX12_fits_10 : decode cX12_fits 10 = .ok (.iconst 3, 1) := by decide +kernel
theorem dX12_fits_11 : decode cX12_fits 11 = .ok (.iload_n 3, 1) := by decide +kernel
theorem dX12_fits_12 : decode cX12_fits 12 = .ok (.invokevirtual 179, 3) := by decide +kernel
theorem dX12_fits_15 : decode cX12_fits 15 = .ok (.ifCond .eq 19, 3) := by decide +kernel
theorem dX12_fits_18 : decode cX12_fits 18 = .ok (.iload 4, 2) := by decide +kernel
theorem dX12_fits_20 : decode cX12_fits 20 = .ok (.ifCond .lt 14, 3) := by decide +kernel
theorem dX12_fits_23 : decode cX12_fits 23 = .ok (.iload 4, 2) := by decide +kernel
theorem dX12_fits_25 : decode cX12_fits 25 = .ok (.iconst 5, 1) := by decide +kernel
theorem dX12_fits_26 : decode cX12_fits 26 = .ok (.bipush 9, 2) := by decide +kernel
theorem dX12_fits_28 : decode cX12_fits 28 = .ok (.invokestatic 141, 3) := by decide +kernel
theorem dX12_fits_31 : decode cX12_fits 31 = .ok (.ifCond .eq 6, 3) := by decide +kernel
theorem dX12_fits_34 : decode cX12_fits 34 = .ok (.bipush (-2), 2) := by decide +kernel
theorem dX12_fits_36 : decode cX12_fits 36 = .ok (.ireturn, 1) := by decide +kernel
theorem dX12_fits_37 : decode cX12_fits 37 = .ok (.aload_n 0, 1) := by decide +kernel
theorem dX12_fits_38 : decode cX12_fits 38 = .ok (.iconst 3, 1) := by decide +kernel
theorem dX12_fits_39 : decode cX12_fits 39 = .ok (.iload_n 3, 1) := by decide +kernel
theorem dX12_fits_40 : decode cX12_fits 40 = .ok (.invokestatic 204, 3) := by decide +kernel
theorem dX12_fits_43 : decode cX12_fits 43 = .ok (.putfield 355, 3) := by decide +kernel
theorem dX12_fits_46 : decode cX12_fits 46 = .ok (.iconst 0, 1) := by decide +kernel
theorem dX12_fits_47 : decode cX12_fits 47 = .ok (.istore 5, 2) := by decide +kernel
theorem dX12_fits_49 : decode cX12_fits 49 = .ok (.iconst 1, 1) := by decide +kernel
theorem dX12_fits_50 : decode cX12_fits 50 = .ok (.aload_n 0, 1) := by decide +kernel
theorem dX12_fits_51 : decode cX12_fits 51 = .ok (.getfield 213, 3) := by decide +kernel
theorem dX12_fits_54 : decode cX12_fits 54 = .ok (.ishl, 1) := by decide +kernel
theorem dX12_fits_55 : decode cX12_fits 55 = .ok (.iconst 1, 1) := by decide +kernel
theorem dX12_fits_56 : decode cX12_fits 56 = .ok (.isub, 1) := by decide +kernel
theorem dX12_fits_57 : decode cX12_fits 57 = .ok (.istore 6, 2) := by decide +kernel
theorem dX12_fits_59 : decode cX12_fits 59 = .ok (.iconst 0, 1) := by decide +kernel
theorem dX12_fits_60 : decode cX12_fits 60 = .ok (.istore 7, 2) := by decide +kernel
theorem dX12_fits_62 : decode cX12_fits 62 = .ok (.iconst (-1), 1) := by decide +kernel
theorem dX12_fits_63 : decode cX12_fits 63 = .ok (.istore 8, 2) := by decide +kernel
theorem dX12_fits_65 : decode cX12_fits 65 = .ok (.iconst 0, 1) := by decide +kernel
theorem dX12_fits_66 : decode cX12_fits 66 = .ok (.istore 9, 2) := by decide +kernel
theorem dX12_fits_68 : decode cX12_fits 68 = .ok (.iload 9, 2) := by decide +kernel
theorem dX12_fits_70 : decode cX12_fits 70 = .ok (.bipush 80, 2) := by decide +kernel
theorem dX12_fits_72 : decode cX12_fits 72 = .ok (.if_icmp .ge 17, 3) := by decide +kernel
theorem dX12_fits_75 : decode cX12_fits 75 = .ok (.aload_n 0, 1) := by decide +kernel
theorem dX12_fits_76 : decode cX12_fits 76 = .ok (.getfield 80, 3) := by decide +kernel
theorem dX12_fits_79 : decode cX12_fits 79 = .ok (.iload 9, 2) := by decide +kernel
theorem dX12_fits_81 : decode cX12_fits 81 = .ok (.iconst 0, 1) := by decide +kernel
theorem dX12_fits_82 : decode cX12_fits 82 = .ok (.iastore, 1) := by decide +kernel
theorem dX12_fits_83 : decode cX12_fits 83 = .ok (.iinc 9 1, 3) := by decide +kernel
theorem dX12_fits_86 : decode cX12_fits 86 = .ok (.goto (-18), 3) := by decide +kernel
theorem dX12_fits_89 : decode cX12_fits 89 = .ok (.iconst 0, 1) := by decide +kernel
theorem dX12_fits_90 : decode cX12_fits 90 = .ok (.istore 9, 2) := by decide +kernel
theorem dX12_fits_92 : decode cX12_fits 92 = .ok (.iload 9, 2) := by decide +kernel
theorem dX12_fits_94 : decode cX12_fits 94 = .ok (.iconst 1, 1) := by decide +kernel
theorem dX12_fits_95 : decode cX12_fits 95 = .ok (.aload_n 0, 1) := by decide +kernel
theorem dX12_fits_96 : decode cX12_fits 96 = .ok (.getfield 213, 3) := by decide +kernel
theorem dX12_fits_99 : decode cX12_fits 99 = .ok (.ishl, 1) := by decide +kernel
theorem dX12_fits_100 : decode cX12_fits 100 = .ok (.if_icmp .ge 125, 3) := by decide +kernel
theorem dX12_fits_103 : decode cX12_fits 103 = .ok (.aload_n 0, 1) := by decide +kernel
theorem dX12_fits_104 : decode cX12_fits 104 = .ok (.iload 9, 2) := by decide +kernel
theorem dX12_fits_106 : decode cX12_fits 106 = .ok (.invokevirtual 358, 3) := by decide +kernel
theorem dX12_fits_109 : decode cX12_fits 109 = .ok (.istore 10, 2) := by decide +kernel
theorem dX12_fits_111 : decode cX12_fits 111 = .ok (.iload 8, 2) := by decide +kernel
theorem dX12_fits_113 : decode cX12_fits 113 = .ok (.iconst (-1), 1) := by decide +kernel
theorem dX12_fits_114 : decode cX12_fits 114 = .ok (.if_icmp .eq 10, 3) := by decide +kernel
theorem dX12_fits_117 : decode cX12_fits 117 = .ok (.iload 10, 2) := by decide +kernel
theorem dX12_fits_119 : decode cX12_fits 119 = .ok (.iload 8, 2) := by decide +kernel
theorem dX12_fits_121 : decode cX12_fits 121 = .ok (.if_icmp .ge 8, 3) := by decide +kernel
theorem dX12_fits_124 : decode cX12_fits 124 = .ok (.iload 10, 2) := by decide +kernel
theorem dX12_fits_126 : decode cX12_fits 126 = .ok (.goto 5, 3) := by decide +kernel
theorem dX12_fits_129 : decode cX12_fits 129 = .ok (.iload 8, 2) := by decide +kernel
theorem dX12_fits_131 : decode cX12_fits 131 = .ok (.istore 8, 2) := by decide +kernel
theorem dX12_fits_133 : decode cX12_fits 133 = .ok (.iload 10, 2) := by decide +kernel
theorem dX12_fits_135 : decode cX12_fits 135 = .ok (.aload_n 0, 1) := by decide +kernel
theorem dX12_fits_136 : decode cX12_fits 136 = .ok (.getfield 7, 3) := by decide +kernel
theorem dX12_fits_139 : decode cX12_fits 139 = .ok (.aload_n 0, 1) := by decide +kernel
theorem dX12_fits_140 : decode cX12_fits 140 = .ok (.getfield 355, 3) := by decide +kernel
theorem dX12_fits_143 : decode cX12_fits 143 = .ok (.iaload, 1) := by decide +kernel
theorem dX12_fits_144 : decode cX12_fits 144 = .ok (.if_icmp .le 6, 3) := by decide +kernel
theorem dX12_fits_147 : decode cX12_fits 147 = .ok (.goto 72, 3) := by decide +kernel
theorem dX12_fits_150 : decode cX12_fits 150 = .ok (.iload 4, 2) := by decide +kernel
theorem dX12_fits_152 : decode cX12_fits 152 = .ok (.bipush 10, 2) := by decide +kernel
theorem dX12_fits_154 : decode cX12_fits 154 = .ok (.iload 5, 2) := by decide +kernel
theorem dX12_fits_156 : decode cX12_fits 156 = .ok (.iadd, 1) := by decide +kernel
theorem dX12_fits_157 : decode cX12_fits 157 = .ok (.if_icmp .ne 6, 3) := by decide +kernel
theorem dX12_fits_160 : decode cX12_fits 160 = .ok (.iload 9, 2) := by decide +kernel
theorem dX12_fits_162 : decode cX12_fits 162 = .ok (.ireturn, 1) := by decide +kernel
theorem dX12_fits_163 : decode cX12_fits 163 = .ok (.iinc 5 1, 3) := by decide +kernel
theorem dX12_fits_166 : decode cX12_fits 166 = .ok (.iload 6, 2) := by decide +kernel
theorem dX12_fits_168 : decode cX12_fits 168 = .ok (.iload 9, 2) := by decide +kernel
theorem dX12_fits_170 : decode cX12_fits 170 = .ok (.iand, 1) := by decide +kernel
theorem dX12_fits_171 : decode cX12_fits 171 = .ok (.istore 6, 2) := by decide +kernel
theorem dX12_fits_173 : decode cX12_fits 173 = .ok (.iload 7, 2) := by decide +kernel
theorem dX12_fits_175 : decode cX12_fits 175 = .ok (.iload 9, 2) := by decide +kernel
theorem dX12_fits_177 : decode cX12_fits 177 = .ok (.ior, 1) := by decide +kernel
theorem dX12_fits_178 : decode cX12_fits 178 = .ok (.istore 7, 2) := by decide +kernel
theorem dX12_fits_180 : decode cX12_fits 180 = .ok (.iconst 0, 1) := by decide +kernel
theorem dX12_fits_181 : decode cX12_fits 181 = .ok (.istore 11, 2) := by decide +kernel
theorem dX12_fits_183 : decode cX12_fits 183 = .ok (.iload 11, 2) := by decide +kernel
theorem dX12_fits_185 : decode cX12_fits 185 = .ok (.aload_n 0, 1) := by decide +kernel
theorem dX12_fits_186 : decode cX12_fits 186 = .ok (.getfield 216, 3) := by decide +kernel
theorem dX12_fits_189 : decode cX12_fits 189 = .ok (.if_icmp .ge 30, 3) := by decide +kernel
theorem dX12_fits_192 : decode cX12_fits 192 = .ok (.aload_n 0, 1) := by decide +kernel
theorem dX12_fits_193 : decode cX12_fits 193 = .ok (.getfield 80, 3) := by decide +kernel
theorem dX12_fits_196 : decode cX12_fits 196 = .ok (.bipush 10, 2) := by decide +kernel
theorem dX12_fits_198 : decode cX12_fits 198 = .ok (.iload 11, 2) := by decide +kernel
theorem dX12_fits_200 : decode cX12_fits 200 = .ok (.imul, 1) := by decide +kernel
theorem dX12_fits_201 : decode cX12_fits 201 = .ok (.aload_n 0, 1) := by decide +kernel
theorem dX12_fits_202 : decode cX12_fits 202 = .ok (.iload 11, 2) := by decide +kernel
theorem dX12_fits_204 : decode cX12_fits 204 = .ok (.invokevirtual 276, 3) := by decide +kernel
theorem dX12_fits_207 : decode cX12_fits 207 = .ok (.iadd, 1) := by decide +kernel
theorem dX12_fits_208 : decode cX12_fits 208 = .ok (.dup2, 1) := by decide +kernel
theorem dX12_fits_209 : decode cX12_fits 209 = .ok (.iaload, 1) := by decide +kernel
theorem dX12_fits_210 : decode cX12_fits 210 = .ok (.iconst 1, 1) := by decide +kernel
theorem dX12_fits_211 : decode cX12_fits 211 = .ok (.iadd, 1) := by decide +kernel
theorem dX12_fits_212 : decode cX12_fits 212 = .ok (.iastore, 1) := by decide +kernel
theorem dX12_fits_213 : decode cX12_fits 213 = .ok (.iinc 11 1, 3) := by decide +kernel
theorem dX12_fits_216 : decode cX12_fits 216 = .ok (.goto (-33), 3) := by decide +kernel
theorem dX12_fits_219 : decode cX12_fits 219 = .ok (.iinc 9 1, 3) := by decide +kernel
theorem dX12_fits_222 : decode cX12_fits 222 = .ok (.goto (-130), 3) := by decide +kernel
theorem dX12_fits_225 : decode cX12_fits 225 = .ok (.iload 4, 2) := by decide +kernel
theorem dX12_fits_227 : decode cX12_fits 227 = .ok (.tableswitch 81 0 4 #[33, 36, 48, 71, 74], 33) := by decide +kernel
theorem dX12_fits_260 : decode cX12_fits 260 = .ok (.iload 5, 2) := by decide +kernel
theorem dX12_fits_262 : decode cX12_fits 262 = .ok (.ireturn, 1) := by decide +kernel
theorem dX12_fits_263 : decode cX12_fits 263 = .ok (.iload 5, 2) := by decide +kernel
theorem dX12_fits_265 : decode cX12_fits 265 = .ok (.ifCond .ne 7, 3) := by decide +kernel
theorem dX12_fits_268 : decode cX12_fits 268 = .ok (.iconst (-1), 1) := by decide +kernel
theorem dX12_fits_269 : decode cX12_fits 269 = .ok (.goto 5, 3) := by decide +kernel
theorem dX12_fits_272 : decode cX12_fits 272 = .ok (.iload 6, 2) := by decide +kernel
theorem dX12_fits_274 : decode cX12_fits 274 = .ok (.ireturn, 1) := by decide +kernel
theorem dX12_fits_275 : decode cX12_fits 275 = .ok (.iload 5, 2) := by decide +kernel
theorem dX12_fits_277 : decode cX12_fits 277 = .ok (.ifCond .ne 7, 3) := by decide +kernel
theorem dX12_fits_280 : decode cX12_fits 280 = .ok (.iconst (-1), 1) := by decide +kernel
theorem dX12_fits_281 : decode cX12_fits 281 = .ok (.goto 16, 3) := by decide +kernel
theorem dX12_fits_284 : decode cX12_fits 284 = .ok (.iconst 1, 1) := by decide +kernel
theorem dX12_fits_285 : decode cX12_fits 285 = .ok (.aload_n 0, 1) := by decide +kernel
theorem dX12_fits_286 : decode cX12_fits 286 = .ok (.getfield 213, 3) := by decide +kernel
theorem dX12_fits_289 : decode cX12_fits 289 = .ok (.ishl, 1) := by decide +kernel
theorem dX12_fits_290 : decode cX12_fits 290 = .ok (.iconst 1, 1) := by decide +kernel
theorem dX12_fits_291 : decode cX12_fits 291 = .ok (.isub, 1) := by decide +kernel
theorem dX12_fits_292 : decode cX12_fits 292 = .ok (.iload 7, 2) := by decide +kernel
theorem dX12_fits_294 : decode cX12_fits 294 = .ok (.iconst (-1), 1) := by decide +kernel
theorem dX12_fits_295 : decode cX12_fits 295 = .ok (.ixor, 1) := by decide +kernel
theorem dX12_fits_296 : decode cX12_fits 296 = .ok (.iand, 1) := by decide +kernel
theorem dX12_fits_297 : decode cX12_fits 297 = .ok (.ireturn, 1) := by decide +kernel
theorem dX12_fits_298 : decode cX12_fits 298 = .ok (.iload 8, 2) := by decide +kernel
theorem dX12_fits_300 : decode cX12_fits 300 = .ok (.ireturn, 1) := by decide +kernel
theorem dX12_fits_301 : decode cX12_fits 301 = .ok (.aload_n 0, 1) := by decide +kernel
theorem dX12_fits_302 : decode cX12_fits 302 = .ok (.iload 5, 2) := by decide +kernel
theorem dX12_fits_304 : decode cX12_fits 304 = .ok (.invokevirtual 361, 3) := by decide +kernel
theorem dX12_fits_307 : decode cX12_fits 307 = .ok (.ireturn, 1) := by decide +kernel
theorem dX12_fits_308 : decode cX12_fits 308 = .ok (.bipush (-2), 2) := by decide +kernel
theorem dX12_fits_310 : decode cX12_fits 310 = .ok (.ireturn, 1) := by decide +kernel
theorem dX12_common_0 : decode cX12_common 0 = .ok (.iload_n 0, 1) := by decide +kernel
theorem dX12_common_1 : decode cX12_common 1 = .ok (.istore_n 2, 1) := by decide +kernel
theorem dX12_common_2 : decode cX12_common 2 = .ok (.iload_n 1, 1) := by decide +kernel
theorem dX12_common_3 : decode cX12_common 3 = .ok (.istore_n 3, 1) := by decide +kernel
theorem dX12_common_4 : decode cX12_common 4 = .ok (.iload_n 3, 1) := by decide +kernel
theorem dX12_common_5 : decode cX12_common 5 = .ok (.ifCond .eq 16, 3) := by decide +kernel
theorem dX12_common_8 : decode cX12_common 8 = .ok (.iload_n 2, 1) := by decide +kernel
theorem dX12_common_9 : decode cX12_common 9 = .ok (.iload_n 3, 1) := by decide +kernel
theorem dX12_common_10 : decode cX12_common 10 = .ok (.irem, 1) := by decide +kernel
theorem dX12_common_11 : decode cX12_common 11 = .ok (.istore 4, 2) := by decide +kernel
theorem dX12_common_13 : decode cX12_common 13 = .ok (.iload_n 3, 1) := by decide +kernel
theorem dX12_common_14 : decode cX12_common 14 = .ok (.istore_n 2, 1) := by decide +kernel
theorem dX12_common_15 : decode cX12_common 15 = .ok (.iload 4, 2) := by decide +kernel
theorem dX12_common_17 : decode cX12_common 17 = .ok (.istore_n 3, 1) := by decide +kernel
theorem dX12_common_18 : decode cX12_common 18 = .ok (.goto (-14), 3) := by decide +kernel
theorem dX12_common_21 : decode cX12_common 21 = .ok (.iload_n 2, 1) := by decide +kernel
theorem dX12_common_22 : decode cX12_common 22 = .ok (.ireturn, 1) := by decide +kernel
theorem dX12_wind_0 : decode cX12_wind 0 = .ok (.aload_n 0, 1) := by decide +kernel
theorem dX12_wind_1 : decode cX12_wind 1 = .ok (.iload_n 1, 1) := by decide +kernel
theorem dX12_wind_2 : decode cX12_wind 2 = .ok (.iload_n 2, 1) := by decide +kernel
theorem dX12_wind_3 : decode cX12_wind 3 = .ok (.invokevirtual 279, 3) := by decide +kernel
theorem dX12_wind_6 : decode cX12_wind 6 = .ok (.ifCond .eq 13, 3) := by decide +kernel
theorem dX12_wind_9 : decode cX12_wind 9 = .ok (.iload_n 3, 1) := by decide +kernel
theorem dX12_wind_10 : decode cX12_wind 10 = .ok (.iconst 1, 1) := by decide +kernel
theorem dX12_wind_11 : decode cX12_wind 11 = .ok (.bipush 9, 2) := by decide +kernel
theorem dX12_wind_13 : decode cX12_wind 13 = .ok (.invokestatic 141, 3) := by decide +kernel
theorem dX12_wind_16 : decode cX12_wind 16 = .ok (.ifCond .ne 5, 3) := by decide +kernel
theorem dX12_wind_19 : decode cX12_wind 19 = .ok (.iconst (-1), 1) := by decide +kernel
theorem dX12_wind_20 : decode cX12_wind 20 = .ok (.ireturn, 1) := by decide +kernel
theorem dX12_wind_21 : decode cX12_wind 21 = .ok (.aload_n 0, 1) := by decide +kernel
theorem dX12_wind_22 : decode cX12_wind 22 = .ok (.iconst 0, 1) := by decide +kernel
theorem dX12_wind_23 : decode cX12_wind 23 = .ok (.putfield 264, 3) := by decide +kernel
theorem dX12_wind_26 : decode cX12_wind 26 = .ok (.aload_n 0, 1) := by decide +kernel
theorem dX12_wind_27 : decode cX12_wind 27 = .ok (.invokevirtual 258, 3) := by decide +kernel
theorem dX12_wind_30 : decode cX12_wind 30 = .ok (.iconst 0, 1) := by decide +kernel
theorem dX12_wind_31 : decode cX12_wind 31 = .ok (.istore 5, 2) := by decide +kernel
theorem dX12_wind_33 : decode cX12_wind 33 = .ok (.iconst 0, 1) := by decide +kernel
theorem dX12_wind_34 : decode cX12_wind 34 = .ok (.istore 6, 2) := by decide +kernel
theorem dX12_wind_36 : decode cX12_wind 36 = .ok (.iload 6, 2) := by decide +kernel
theorem dX12_wind_38 : decode cX12_wind 38 = .ok (.aload_n 0, 1) := by decide +kernel
theorem dX12_wind_39 : decode cX12_wind 39 = .ok (.getfield 216, 3) := by decide +kernel
theorem dX12_wind_42 : decode cX12_wind 42 = .ok (.if_icmp .ge 38, 3) := by decide +kernel
theorem dX12_wind_45 : decode cX12_wind 45 = .ok (.iload 5, 2) := by decide +kernel
theorem dX12_wind_47 : decode cX12_wind 47 = .ok (.aload_n 0, 1) := by decide +kernel
theorem dX12_wind_48 : decode cX12_wind 48 = .ok (.iload 6, 2) := by decide +kernel
theorem dX12_wind_50 : decode cX12_wind 50 = .ok (.invokevirtual 276, 3) := by decide +kernel
theorem dX12_wind_53 : decode cX12_wind 53 = .ok (.aload_n 0, 1) := by decide +kernel
theorem dX12_wind_54 : decode cX12_wind 54 = .ok (.getfield 26, 3) := by decide +kernel
theorem dX12_wind_57 : decode cX12_wind 57 = .ok (.iload 6, 2) := by decide +kernel
theorem dX12_wind_59 : decode cX12_wind 59 = .ok (.iaload, 1) := by decide +kernel
theorem dX12_wind_60 : decode cX12_wind 60 = .ok (.ifCond .ne 9, 3) := by decide +kernel
theorem dX12_wind_63 : decode cX12_wind 63 = .ok (.iload_n 3, 1) := by decide +kernel
theorem dX12_wind_64 : decode cX12_wind 64 = .ok (.iconst 1, 1) := by decide +kernel
theorem dX12_wind_65 : decode cX12_wind 65 = .ok (.isub, 1) := by decide +kernel
theorem dX12_wind_66 : decode cX12_wind 66 = .ok (.goto 4, 3) := by decide +kernel
theorem dX12_wind_69 : decode cX12_wind 69 = .ok (.iload_n 3, 1) := by decide +kernel
theorem dX12_wind_70 : decode cX12_wind 70 = .ok (.imul, 1) := by decide +kernel
theorem dX12_wind_71 : decode cX12_wind 71 = .ok (.iadd, 1) := by decide +kernel
theorem dX12_wind_72 : decode cX12_wind 72 = .ok (.istore 5, 2) := by decide +kernel
theorem dX12_wind_74 : decode cX12_wind 74 = .ok (.iinc 6 1, 3) := by decide +kernel
theorem dX12_wind_77 : decode cX12_wind 77 = .ok (.goto (-41), 3) := by decide +kernel
theorem dX12_wind_80 : decode cX12_wind 80 = .ok (.iload 4, 2) := by decide +kernel
theorem dX12_wind_82 : decode cX12_wind 82 = .ok (.ifCond .eq 7, 3) := by decide +kernel
theorem dX12_wind_85 : decode cX12_wind 85 = .ok (.iload_n 3, 1) := by decide +kernel
theorem dX12_wind_86 : decode cX12_wind 86 = .ok (.goto 5, 3) := by decide +kernel
theorem dX12_wind_89 : decode cX12_wind 89 = .ok (.iload 5, 2) := by decide +kernel
theorem dX12_wind_91 : decode cX12_wind 91 = .ok (.iload 5, 2) := by decide +kernel
theorem dX12_wind_93 : decode cX12_wind 93 = .ok (.iload_n 3, 1) := by decide +kernel
theorem dX12_wind_94 : decode cX12_wind 94 = .ok (.invokestatic 363, 3) := by decide +kernel
theorem dX12_wind_97 : decode cX12_wind 97 = .ok (.idiv, 1) := by decide +kernel
theorem dX12_wind_98 : decode cX12_wind 98 = .ok (.ireturn, 1) := by decide +kernel
theorem dX12_clan_0 : decode cX12_clan 0 = .ok (.aload_n 0, 1) := by decide +kernel
theorem dX12_clan_1 : decode cX12_clan 1 = .ok (.iload_n 1, 1) := by decide +kernel
theorem dX12_clan_2 : decode cX12_clan 2 = .ok (.invokevirtual 225, 3) := by decide +kernel
theorem dX12_clan_5 : decode cX12_clan 5 = .ok (.ifCond .eq 11, 3) := by decide +kernel
theorem dX12_clan_8 : decode cX12_clan 8 = .ok (.aload_n 0, 1) := by decide +kernel
theorem dX12_clan_9 : decode cX12_clan 9 = .ok (.iload_n 2, 1) := by decide +kernel
theorem dX12_clan_10 : decode cX12_clan 10 = .ok (.invokevirtual 234, 3) := by decide +kernel
theorem dX12_clan_13 : decode cX12_clan 13 = .ok (.ifCond .ne 5, 3) := by decide +kernel
theorem dX12_clan_16 : decode cX12_clan 16 = .ok (.iconst (-1), 1) := by decide +kernel
theorem dX12_clan_17 : decode cX12_clan 17 = .ok (.ireturn, 1) := by decide +kernel
theorem dX12_clan_18 : decode cX12_clan 18 = .ok (.aload_n 0, 1) := by decide +kernel
theorem dX12_clan_19 : decode cX12_clan 19 = .ok (.invokevirtual 258, 3) := by decide +kernel
theorem dX12_clan_22 : decode cX12_clan 22 = .ok (.iconst 1, 1) := by decide +kernel
theorem dX12_clan_23 : decode cX12_clan 23 = .ok (.iload_n 2, 1) := by decide +kernel
theorem dX12_clan_24 : decode cX12_clan 24 = .ok (.ishl, 1) := by decide +kernel
theorem dX12_clan_25 : decode cX12_clan 25 = .ok (.istore_n 3, 1) := by decide +kernel
theorem dX12_clan_26 : decode cX12_clan 26 = .ok (.iconst 0, 1) := by decide +kernel
theorem dX12_clan_27 : decode cX12_clan 27 = .ok (.istore 4, 2) := by decide +kernel
theorem dX12_clan_29 : decode cX12_clan 29 = .ok (.iload 4, 2) := by decide +kernel
theorem dX12_clan_31 : decode cX12_clan 31 = .ok (.aload_n 0, 1) := by decide +kernel
theorem dX12_clan_32 : decode cX12_clan 32 = .ok (.getfield 216, 3) := by decide +kernel
theorem dX12_clan_35 : decode cX12_clan 35 = .ok (.if_icmp .ge 51, 3) := by decide +kernel
theorem dX12_clan_38 : decode cX12_clan 38 = .ok (.iconst 0, 1) := by decide +kernel
theorem dX12_clan_39 : decode cX12_clan 39 = .ok (.istore 5, 2) := by decide +kernel
theorem dX12_clan_41 : decode cX12_clan 41 = .ok (.iload 5, 2) := by decide +kernel
theorem dX12_clan_43 : decode cX12_clan 43 = .ok (.aload_n 0, 1) := by decide +kernel
theorem dX12_clan_44 : decode cX12_clan 44 = .ok (.getfield 216, 3) := by decide +kernel
theorem dX12_clan_47 : decode cX12_clan 47 = .ok (.if_icmp .ge 33, 3) := by decide +kernel
theorem dX12_clan_50 : decode cX12_clan 50 = .ok (.iload_n 3, 1) := by decide +kernel
theorem dX12_clan_51 : decode cX12_clan 51 = .ok (.iload_n 3, 1) := by decide +kernel
theorem dX12_clan_52 : decode cX12_clan 52 = .ok (.iload 5, 2) := by decide +kernel
theorem dX12_clan_54 : decode cX12_clan 54 = .ok (.ishr, 1) := by decide +kernel
theorem dX12_clan_55 : decode cX12_clan 55 = .ok (.iconst 1, 1) := by decide +kernel
theorem dX12_clan_56 : decode cX12_clan 56 = .ok (.iand, 1) := by decide +kernel
theorem dX12_clan_57 : decode cX12_clan 57 = .ok (.iconst 1, 1) := by decide +kernel
theorem dX12_clan_58 : decode cX12_clan 58 = .ok (.if_icmp .ne 13, 3) := by decide +kernel
theorem dX12_clan_61 : decode cX12_clan 61 = .ok (.aload_n 0, 1) := by decide +kernel
theorem dX12_clan_62 : decode cX12_clan 62 = .ok (.getfield 47, 3) := by decide +kernel
theorem dX12_clan_65 : decode cX12_clan 65 = .ok (.iload 5, 2) := by decide +kernel
theorem dX12_clan_67 : decode cX12_clan 67 = .ok (.iaload, 1) := by decide +kernel
theorem dX12_clan_68 : decode cX12_clan 68 = .ok (.goto 4, 3) := by decide +kernel
theorem dX12_clan_71 : decode cX12_clan 71 = .ok (.iconst 0, 1) := by decide +kernel
theorem dX12_clan_72 : decode cX12_clan 72 = .ok (.ior, 1) := by decide +kernel
theorem dX12_clan_73 : decode cX12_clan 73 = .ok (.istore_n 3, 1) := by decide +kernel
theorem dX12_clan_74 : decode cX12_clan 74 = .ok (.iinc 5 1, 3) := by decide +kernel
theorem dX12_clan_77 : decode cX12_clan 77 = .ok (.goto (-36), 3) := by decide +kernel
theorem dX12_clan_80 : decode cX12_clan 80 = .ok (.iinc 4 1, 3) := by decide +kernel
theorem dX12_clan_83 : decode cX12_clan 83 = .ok (.goto (-54), 3) := by decide +kernel
theorem dX12_clan_86 : decode cX12_clan 86 = .ok (.iload_n 3, 1) := by decide +kernel
theorem dX12_clan_87 : decode cX12_clan 87 = .ok (.ireturn, 1) := by decide +kernel
theorem dX12_puddle_0 : decode cX12_puddle 0 = .ok (.aload_n 0, 1) := by decide +kernel
theorem dX12_puddle_1 : decode cX12_puddle 1 = .ok (.iload_n 1, 1) := by decide +kernel
theorem dX12_puddle_2 : decode cX12_puddle 2 = .ok (.iload_n 2, 1) := by decide +kernel
theorem dX12_puddle_3 : decode cX12_puddle 3 = .ok (.invokevirtual 279, 3) := by decide +kernel
theorem dX12_puddle_6 : decode cX12_puddle 6 = .ok (.ifCond .ne 5, 3) := by decide +kernel
theorem dX12_puddle_9 : decode cX12_puddle 9 = .ok (.iconst (-1), 1) := by decide +kernel
theorem dX12_puddle_10 : decode cX12_puddle 10 = .ok (.ireturn, 1) := by decide +kernel
theorem dX12_puddle_11 : decode cX12_puddle 11 = .ok (.aload_n 0, 1) := by decide +kernel
theorem dX12_puddle_12 : decode cX12_puddle 12 = .ok (.invokevirtual 258, 3) := by decide +kernel
theorem dX12_puddle_15 : decode cX12_puddle 15 = .ok (.iconst (-1), 1) := by decide +kernel
theorem dX12_puddle_16 : decode cX12_puddle 16 = .ok (.istore 4, 2) := by decide +kernel
theorem dX12_puddle_18 : decode cX12_puddle 18 = .ok (.iconst 0, 1) := by decide +kernel
theorem dX12_puddle_19 : decode cX12_puddle 19 = .ok (.istore 5, 2) := by decide +kernel
theorem dX12_puddle_21 : decode cX12_puddle 21 = .ok (.iconst 0, 1) := by decide +kernel
theorem dX12_puddle_22 : decode cX12_puddle 22 = .ok (.istore 6, 2) := by decide +kernel
theorem dX12_puddle_24 : decode cX12_puddle 24 = .ok (.iload 6, 2) := by decide +kernel
theorem dX12_puddle_26 : decode cX12_puddle 26 = .ok (.aload_n 0, 1) := by decide +kernel
theorem dX12_puddle_27 : decode cX12_puddle 27 = .ok (.getfield 216, 3) := by decide +kernel
theorem dX12_puddle_30 : decode cX12_puddle 30 = .ok (.if_icmp .ge 50, 3) := by decide +kernel
theorem dX12_puddle_33 : decode cX12_puddle 33 = .ok (.aload_n 0, 1) := by decide +kernel
theorem dX12_puddle_34 : decode cX12_puddle 34 = .ok (.getfield 35, 3) := by decide +kernel
theorem dX12_puddle_37 : decode cX12_puddle 37 = .ok (.iload 6, 2) := by decide +kernel
theorem dX12_puddle_39 : decode cX12_puddle 39 = .ok (.bipush 9, 2) := by decide +kernel
theorem dX12_puddle_41 : decode cX12_puddle 41 = .ok (.iastore, 1) := by decide +kernel
theorem dX12_puddle_42 : decode cX12_puddle 42 = .ok (.iload 4, 2) := by decide +kernel
theorem dX12_puddle_44 : decode cX12_puddle 44 = .ok (.iconst (-1), 1) := by decide +kernel
theorem dX12_puddle_45 : decode cX12_puddle 45 = .ok (.if_icmp .eq 17, 3) := by decide +kernel
theorem dX12_puddle_48 : decode cX12_puddle 48 = .ok (.aload_n 0, 1) := by decide +kernel
theorem dX12_puddle_49 : decode cX12_puddle 49 = .ok (.iload 6, 2) := by decide +kernel
theorem dX12_puddle_51 : decode cX12_puddle 51 = .ok (.invokevirtual 276, 3) := by decide +kernel
theorem dX12_puddle_54 : decode cX12_puddle 54 = .ok (.iload 5, 2) := by decide +kernel
theorem dX12_puddle_56 : decode cX12_puddle 56 = .ok (.if_icmp .gt 6, 3) := by decide +kernel
theorem dX12_puddle_59 : decode cX12_puddle 59 = .ok (.goto 15, 3) := by decide +kernel
theorem dX12_puddle_62 : decode cX12_puddle 62 = .ok (.iload 6, 2) := by decide +kernel
theorem dX12_puddle_64 : decode cX12_puddle 64 = .ok (.istore 4, 2) := by decide +kernel
theorem dX12_puddle_66 : decode cX12_puddle 66 = .ok (.aload_n 0, 1) := by decide +kernel
theorem dX12_puddle_67 : decode cX12_puddle 67 = .ok (.iload 6, 2) := by decide +kernel
theorem dX12_puddle_69 : decode cX12_puddle 69 = .ok (.invokevirtual 276, 3) := by decide +kernel
theorem dX12_puddle_72 : decode cX12_puddle 72 = .ok (.istore 5, 2) := by decide +kernel
theorem dX12_puddle_74 : decode cX12_puddle 74 = .ok (.iinc 6 1, 3) := by decide +kernel
theorem dX12_puddle_77 : decode cX12_puddle 77 = .ok (.goto (-53), 3) := by decide +kernel
theorem dX12_puddle_80 : decode cX12_puddle 80 = .ok (.iload 4, 2) := by decide +kernel
theorem dX12_puddle_82 : decode cX12_puddle 82 = .ok (.iconst (-1), 1) := by decide +kernel
theorem dX12_puddle_83 : decode cX12_puddle 83 = .ok (.if_icmp .eq 7, 3) := by decide +kernel
theorem dX12_puddle_86 : decode cX12_puddle 86 = .ok (.iload_n 3, 1) := by decide +kernel
theorem dX12_puddle_87 : decode cX12_puddle 87 = .ok (.ifCond .ne 8, 3) := by decide +kernel
theorem dX12_puddle_90 : decode cX12_puddle 90 = .ok (.iload 4, 2) := by decide +kernel
theorem dX12_puddle_92 : decode cX12_puddle 92 = .ok (.goto 5, 3) := by decide +kernel
theorem dX12_puddle_95 : decode cX12_puddle 95 = .ok (.iload 5, 2) := by decide +kernel
theorem dX12_puddle_97 : decode cX12_puddle 97 = .ok (.ireturn, 1) := by decide +kernel
theorem dX12_isBlind_0 : decode cX12_isBlind 0 = .ok (.iconst 1, 1) := by decide +kernel
theorem dX12_isBlind_1 : decode cX12_isBlind 1 = .ok (.istore_n 2, 1) := by decide +kernel
theorem dX12_isBlind_2 : decode cX12_isBlind 2 = .ok (.iconst 0, 1) := by decide +kernel
theorem dX12_isBlind_3 : decode cX12_isBlind 3 = .ok (.istore_n 3, 1) := by decide +kernel
theorem dX12_isBlind_4 : decode cX12_isBlind 4 = .ok (.iload_n 3, 1) := by decide +kernel
theorem dX12_isBlind_5 : decode cX12_isBlind 5 = .ok (.aload_n 0, 1) := by decide +kernel
theorem dX12_isBlind_6 : decode cX12_isBlind 6 = .ok (.getfield 216, 3) := by decide +kernel
theorem dX12_isBlind_9 : decode cX12_isBlind 9 = .ok (.if_icmp .ge 35, 3) := by decide +kernel
theorem dX12_isBlind_12 : decode cX12_isBlind 12 = .ok (.iload_n 2, 1) := by decide +kernel
theorem dX12_isBlind_13 : decode cX12_isBlind 13 = .ok (.ifCond .eq 23, 3) := by decide +kernel
theorem dX12_isBlind_16 : decode cX12_isBlind 16 = .ok (.aload_n 0, 1) := by decide +kernel
theorem dX12_isBlind_17 : decode cX12_isBlind 17 = .ok (.getfield 44, 3) := by decide +kernel
theorem dX12_isBlind_20 : decode cX12_isBlind 20 = .ok (.bipush 8, 2) := by decide +kernel
theorem dX12_isBlind_22 : decode cX12_isBlind 22 = .ok (.iload_n 3, 1) := by decide +kernel
theorem dX12_isBlind_23 : decode cX12_isBlind 23 = .ok (.imul, 1) := by decide +kernel
theorem dX12_isBlind_24 : decode cX12_isBlind 24 = .ok (.iload_n 1, 1) := by decide +kernel
theorem dX12_isBlind_25 : decode cX12_isBlind 25 = .ok (.iadd, 1) := by decide +kernel
theorem dX12_isBlind_26 : decode cX12_isBlind 26 = .ok (.iaload, 1) := by decide +kernel
theorem dX12_isBlind_27 : decode cX12_isBlind 27 = .ok (.bipush 99, 2) := by decide +kernel
theorem dX12_isBlind_29 : decode cX12_isBlind 29 = .ok (.if_icmp .ne 7, 3) := by decide +kernel
theorem dX12_isBlind_32 : decode cX12_isBlind 32 = .ok (.iconst 1, 1) := by decide +kernel
theorem dX12_isBlind_33 : decode cX12_isBlind 33 = .ok (.goto 4, 3) := by decide +kernel
theorem dX12_isBlind_36 : decode cX12_isBlind 36 = .ok (.iconst 0, 1) := by decide +kernel
theorem dX12_isBlind_37 : decode cX12_isBlind 37 = .ok (.istore_n 2, 1) := by decide +kernel
theorem dX12_isBlind_38 : decode cX12_isBlind 38 = .ok (.iinc 3 1, 3) := by decide +kernel
theorem dX12_isBlind_41 : decode cX12_isBlind 41 = .ok (.goto (-37), 3) := by decide +kernel
theorem dX12_isBlind_44 : decode cX12_isBlind 44 = .ok (.iload_n 2, 1) := by decide +kernel
theorem dX12_isBlind_45 : decode cX12_isBlind 45 = .ok (.ireturn, 1) := by decide +kernel
theorem dX12_isLone_0 : decode cX12_isLone 0 = .ok (.iconst 1, 1) := by decide +kernel
theorem dX12_isLone_1 : decode cX12_isLone 1 = .ok (.istore_n 2, 1) := by decide +kernel
theorem dX12_isLone_2 : decode cX12_isLone 2 = .ok (.iconst 0, 1) := by decide +kernel
theorem dX12_isLone_3 : decode cX12_isLone 3 = .ok (.istore_n 3, 1) := by decide +kernel
theorem dX12_isLone_4 : decode cX12_isLone 4 = .ok (.iload_n 3, 1) := by decide +kernel
theorem dX12_isLone_5 : decode cX12_isLone 5 = .ok (.aload_n 0, 1) := by decide +kernel
theorem dX12_isLone_6 : decode cX12_isLone 6 = .ok (.getfield 213, 3) := by decide +kernel
theorem dX12_isLone_9 : decode cX12_isLone 9 = .ok (.if_icmp .ge 35, 3) := by decide +kernel
theorem dX12_isLone_12 : decode cX12_isLone 12 = .ok (.iload_n 2, 1) := by decide +kernel
theorem dX12_isLone_13 : decode cX12_isLone 13 = .ok (.ifCond .eq 23, 3) := by decide +kernel
theorem dX12_isLone_16 : decode cX12_isLone 16 = .ok (.aload_n 0, 1) := by decide +kernel
theorem dX12_isLone_17 : decode cX12_isLone 17 = .ok (.getfield 44, 3) := by decide +kernel
theorem dX12_isLone_20 : decode cX12_isLone 20 = .ok (.bipush 8, 2) := by decide +kernel
theorem dX12_isLone_22 : decode cX12_isLone 22 = .ok (.iload_n 1, 1) := by decide +kernel
theorem dX12_isLone_23 : decode cX12_isLone 23 = .ok (.imul, 1) := by decide +kernel
theorem dX12_isLone_24 : decode cX12_isLone 24 = .ok (.iload_n 3, 1) := by decide +kernel
theorem dX12_isLone_25 : decode cX12_isLone 25 = .ok (.iadd, 1) := by decide +kernel
theorem dX12_isLone_26 : decode cX12_isLone 26 = .ok (.iaload, 1) := by decide +kernel
theorem dX12_isLone_27 : decode cX12_isLone 27 = .ok (.bipush 99, 2) := by decide +kernel
theorem dX12_isLone_29 : decode cX12_isLone 29 = .ok (.if_icmp .ne 7, 3) := by decide +kernel
theorem dX12_isLone_32 : decode cX12_isLone 32 = .ok (.iconst 1, 1) := by decide +kernel
theorem dX12_isLone_33 : decode cX12_isLone 33 = .ok (.goto 4, 3) := by decide +kernel
theorem dX12_isLone_36 : decode cX12_isLone 36 = .ok (.iconst 0, 1) := by decide +kernel
theorem dX12_isLone_37 : decode cX12_isLone 37 = .ok (.istore_n 2, 1) := by decide +kernel
theorem dX12_isLone_38 : decode cX12_isLone 38 = .ok (.iinc 3 1, 3) := by decide +kernel
theorem dX12_isLone_41 : decode cX12_isLone 41 = .ok (.goto (-37), 3) := by decide +kernel
theorem dX12_isLone_44 : decode cX12_isLone 44 = .ok (.iload_n 2, 1) := by decide +kernel
theorem dX12_isLone_45 : decode cX12_isLone 45 = .ok (.ireturn, 1) := by decide +kernel
theorem dX12_glances_0 : decode cX12_glances 0 = .ok (.iconst 0, 1) := by decide +kernel
theorem dX12_glances_1 : decode cX12_glances 1 = .ok (.istore_n 1, 1) := by decide +kernel
theorem dX12_glances_2 : decode cX12_glances 2 = .ok (.iconst 0, 1) := by decide +kernel
theorem dX12_glances_3 : decode cX12_glances 3 = .ok (.istore_n 2, 1) := by decide +kernel
theorem dX12_glances_4 : decode cX12_glances 4 = .ok (.iload_n 2, 1) := by decide +kernel
theorem dX12_glances_5 : decode cX12_glances 5 = .ok (.aload_n 0, 1) := by decide +kernel
theorem dX12_glances_6 : decode cX12_glances 6 = .ok (.getfield 216, 3) := by decide +kernel
theorem dX12_glances_9 : decode cX12_glances 9 = .ok (.if_icmp .ge 44, 3) := by decide +kernel
theorem dX12_glances_12 : decode cX12_glances 12 = .ok (.iconst 0, 1) := by decide +kernel
theorem dX12_glances_13 : decode cX12_glances 13 = .ok (.istore_n 3, 1) := by decide +kernel
theorem dX12_glances_14 : decode cX12_glances 14 = .ok (.iload_n 3, 1) := by decide +kernel
theorem dX12_glances_15 : decode cX12_glances 15 = .ok (.iload_n 2, 1) := by decide +kernel
theorem dX12_glances_16 : decode cX12_glances 16 = .ok (.if_icmp .ge 31, 3) := by decide +kernel
theorem dX12_glances_19 : decode cX12_glances 19 = .ok (.iload_n 1, 1) := by decide +kernel
theorem dX12_glances_20 : decode cX12_glances 20 = .ok (.aload_n 0, 1) := by decide +kernel
theorem dX12_glances_21 : decode cX12_glances 21 = .ok (.getfield 47, 3) := by decide +kernel
theorem dX12_glances_24 : decode cX12_glances 24 = .ok (.iload_n 2, 1) := by decide +kernel
theorem dX12_glances_25 : decode cX12_glances 25 = .ok (.iaload, 1) := by decide +kernel
theorem dX12_glances_26 : decode cX12_glances 26 = .ok (.iload_n 3, 1) := by decide +kernel
theorem dX12_glances_27 : decode cX12_glances 27 = .ok (.ishr, 1) := by decide +kernel
theorem dX12_glances_28 : decode cX12_glances 28 = .ok (.aload_n 0, 1) := by decide +kernel
theorem dX12_glances_29 : decode cX12_glances 29 = .ok (.getfield 47, 3) := by decide +kernel
theorem dX12_glances_32 : decode cX12_glances 32 = .ok (.iload_n 3, 1) := by decide +kernel
theorem dX12_glances_33 : decode cX12_glances 33 = .ok (.iaload, 1) := by decide +kernel
theorem dX12_glances_34 : decode cX12_glances 34 = .ok (.iload_n 2, 1) := by decide +kernel
theorem dX12_glances_35 : decode cX12_glances 35 = .ok (.ishr, 1) := by decide +kernel
theorem dX12_glances_36 : decode cX12_glances 36 = .ok (.iand, 1) := by decide +kernel
theorem dX12_glances_37 : decode cX12_glances 37 = .ok (.iconst 1, 1) := by decide +kernel
theorem dX12_glances_38 : decode cX12_glances 38 = .ok (.iand, 1) := by decide +kernel
theorem dX12_glances_39 : decode cX12_glances 39 = .ok (.iadd, 1) := by decide +kernel
theorem dX12_glances_40 : decode cX12_glances 40 = .ok (.istore_n 1, 1) := by decide +kernel
theorem dX12_glances_41 : decode cX12_glances 41 = .ok (.iinc 3 1, 3) := by decide +kernel
theorem dX12_glances_44 : decode cX12_glances 44 = .ok (.goto (-30), 3) := by decide +kernel
theorem dX12_glances_47 : decode cX12_glances 47 = .ok (.iinc 2 1, 3) := by decide +kernel
theorem dX12_glances_50 : decode cX12_glances 50 = .ok (.goto (-46), 3) := by decide +kernel
theorem dX12_glances_53 : decode cX12_glances 53 = .ok (.iload_n 1, 1) := by decide +kernel
theorem dX12_glances_54 : decode cX12_glances 54 = .ok (.ireturn, 1) := by decide +kernel
theorem dX12_deep_0 : decode cX12_deep 0 = .ok (.iconst (-1), 1) := by decide +kernel
theorem dX12_deep_1 : decode cX12_deep 1 = .ok (.istore_n 1, 1) := by decide +kernel
theorem dX12_deep_2 : decode cX12_deep 2 = .ok (.iconst 0, 1) := by decide +kernel
theorem dX12_deep_3 : decode cX12_deep 3 = .ok (.istore_n 2, 1) := by decide +kernel
theorem dX12_deep_4 : decode cX12_deep 4 = .ok (.iload_n 2, 1) := by decide +kernel
theorem dX12_deep_5 : decode cX12_deep 5 = .ok (.bipush 8, 2) := by decide +kernel
theorem dX12_deep_7 : decode cX12_deep 7 = .ok (.aload_n 0, 1) := by decide +kernel
theorem dX12_deep_8 : decode cX12_deep 8 = .ok (.getfield 216, 3) := by decide +kernel
theorem dX12_deep_11 : decode cX12_deep 11 = .ok (.imul, 1) := by decide +kernel
theorem dX12_deep_12 : decode cX12_deep 12 = .ok (.if_icmp .ge 48, 3) := by decide +kernel
theorem dX12_deep_15 : decode cX12_deep 15 = .ok (.iload_n 2, 1) := by decide +kernel
theorem dX12_deep_16 : decode cX12_deep 16 = .ok (.bipush 8, 2) := by decide +kernel
theorem dX12_deep_18 : decode cX12_deep 18 = .ok (.irem, 1) := by decide +kernel
theorem dX12_deep_19 : decode cX12_deep 19 = .ok (.aload_n 0, 1) := by decide +kernel
theorem dX12_deep_20 : decode cX12_deep 20 = .ok (.getfield 213, 3) := by decide +kernel
theorem dX12_deep_23 : decode cX12_deep 23 = .ok (.if_icmp .ge 31, 3) := by decide +kernel
theorem dX12_deep_26 : decode cX12_deep 26 = .ok (.aload_n 0, 1) := by decide +kernel
theorem dX12_deep_27 : decode cX12_deep 27 = .ok (.getfield 44, 3) := by decide +kernel
theorem dX12_deep_30 : decode cX12_deep 30 = .ok (.iload_n 2, 1) := by decide +kernel
theorem dX12_deep_31 : decode cX12_deep 31 = .ok (.iaload, 1) := by decide +kernel
theorem dX12_deep_32 : decode cX12_deep 32 = .ok (.bipush 99, 2) := by decide +kernel
theorem dX12_deep_34 : decode cX12_deep 34 = .ok (.if_icmp .eq 20, 3) := by decide +kernel
theorem dX12_deep_37 : decode cX12_deep 37 = .ok (.aload_n 0, 1) := by decide +kernel
theorem dX12_deep_38 : decode cX12_deep 38 = .ok (.getfield 44, 3) := by decide +kernel
theorem dX12_deep_41 : decode cX12_deep 41 = .ok (.iload_n 2, 1) := by decide +kernel
theorem dX12_deep_42 : decode cX12_deep 42 = .ok (.iaload, 1) := by decide +kernel
theorem dX12_deep_43 : decode cX12_deep 43 = .ok (.iload_n 1, 1) := by decide +kernel
theorem dX12_deep_44 : decode cX12_deep 44 = .ok (.if_icmp .le 10, 3) := by decide +kernel
theorem dX12_deep_47 : decode cX12_deep 47 = .ok (.aload_n 0, 1) := by decide +kernel
theorem dX12_deep_48 : decode cX12_deep 48 = .ok (.getfield 44, 3) := by decide +kernel
theorem dX12_deep_51 : decode cX12_deep 51 = .ok (.iload_n 2, 1) := by decide +kernel
theorem dX12_deep_52 : decode cX12_deep 52 = .ok (.iaload, 1) := by decide +kernel
theorem dX12_deep_53 : decode cX12_deep 53 = .ok (.istore_n 1, 1) := by decide +kernel
theorem dX12_deep_54 : decode cX12_deep 54 = .ok (.iinc 2 1, 3) := by decide +kernel
theorem dX12_deep_57 : decode cX12_deep 57 = .ok (.goto (-53), 3) := by decide +kernel
theorem dX12_deep_60 : decode cX12_deep 60 = .ok (.iload_n 1, 1) := by decide +kernel
theorem dX12_deep_61 : decode cX12_deep 61 = .ok (.ireturn, 1) := by decide +kernel
theorem dX12_alone_0 : decode cX12_alone 0 = .ok (.aload_n 0, 1) := by decide +kernel
theorem dX12_alone_1 : decode cX12_alone 1 = .ok (.iload_n 1, 1) := by decide +kernel
theorem dX12_alone_2 : decode cX12_alone 2 = .ok (.invokevirtual 225, 3) := by decide +kernel
theorem dX12_alone_5 : decode cX12_alone 5 = .ok (.ifCond .ne 6, 3) := by decide +kernel
theorem dX12_alone_8 : decode cX12_alone 8 = .ok (.bipush (-2), 2) := by decide +kernel
theorem dX12_alone_10 : decode cX12_alone 10 = .ok (.ireturn, 1) := by decide +kernel
theorem dX12_alone_11 : decode cX12_alone 11 = .ok (.aload_n 0, 1) := by decide +kernel
theorem dX12_alone_12 : decode cX12_alone 12 = .ok (.invokevirtual 258, 3) := by decide +kernel
theorem dX12_alone_15 : decode cX12_alone 15 = .ok (.iconst 0, 1) := by decide +kernel
theorem dX12_alone_16 : decode cX12_alone 16 = .ok (.istore_n 3, 1) := by decide +kernel
theorem dX12_alone_17 : decode cX12_alone 17 = .ok (.iload_n 2, 1) := by decide +kernel
theorem dX12_alone_18 : decode cX12_alone 18 = .ok (.tableswitch 120 0 3 #[30, 70, 110, 115], 30) := by decide +kernel
theorem dX12_alone_48 : decode cX12_alone 48 = .ok (.iconst 0, 1) := by decide +kernel
theorem dX12_alone_49 : decode cX12_alone 49 = .ok (.istore 4, 2) := by decide +kernel
theorem dX12_alone_51 : decode cX12_alone 51 = .ok (.iload 4, 2) := by decide +kernel
theorem dX12_alone_53 : decode cX12_alone 53 = .ok (.aload_n 0, 1) := by decide +kernel
theorem dX12_alone_54 : decode cX12_alone 54 = .ok (.getfield 213, 3) := by decide +kernel
theorem dX12_alone_57 : decode cX12_alone 57 = .ok (.if_icmp .ge 29, 3) := by decide +kernel
theorem dX12_alone_60 : decode cX12_alone 60 = .ok (.iload_n 3, 1) := by decide +kernel
theorem dX12_alone_61 : decode cX12_alone 61 = .ok (.aload_n 0, 1) := by decide +kernel
theorem dX12_alone_62 : decode cX12_alone 62 = .ok (.iload 4, 2) := by decide +kernel
theorem dX12_alone_64 : decode cX12_alone 64 = .ok (.invokevirtual 366, 3) := by decide +kernel
theorem dX12_alone_67 : decode cX12_alone 67 = .ok (.ifCond .eq 10, 3) := by decide +kernel
theorem dX12_alone_70 : decode cX12_alone 70 = .ok (.iconst 1, 1) := by decide +kernel
theorem dX12_alone_71 : decode cX12_alone 71 = .ok (.iload 4, 2) := by decide +kernel
theorem dX12_alone_73 : decode cX12_alone 73 = .ok (.ishl, 1) := by decide +kernel
theorem dX12_alone_74 : decode cX12_alone 74 = .ok (.goto 4, 3) := by decide +kernel
theorem dX12_alone_77 : decode cX12_alone 77 = .ok (.iconst 0, 1) := by decide +kernel
theorem dX12_alone_78 : decode cX12_alone 78 = .ok (.ior, 1) := by decide +kernel
theorem dX12_alone_79 : decode cX12_alone 79 = .ok (.istore_n 3, 1) := by decide +kernel
theorem dX12_alone_80 : decode cX12_alone 80 = .ok (.iinc 4 1, 3) := by decide +kernel
theorem dX12_alone_83 : decode cX12_alone 83 = .ok (.goto (-32), 3) := by decide +kernel
theorem dX12_alone_86 : decode cX12_alone 86 = .ok (.iload_n 3, 1) := by decide +kernel
theorem dX12_alone_87 : decode cX12_alone 87 = .ok (.ireturn, 1) := by decide +kernel
theorem dX12_alone_88 : decode cX12_alone 88 = .ok (.iconst 0, 1) := by decide +kernel
theorem dX12_alone_89 : decode cX12_alone 89 = .ok (.istore 4, 2) := by decide +kernel
theorem dX12_alone_91 : decode cX12_alone 91 = .ok (.iload 4, 2) := by decide +kernel
theorem dX12_alone_93 : decode cX12_alone 93 = .ok (.aload_n 0, 1) := by decide +kernel
theorem dX12_alone_94 : decode cX12_alone 94 = .ok (.getfield 216, 3) := by decide +kernel
theorem dX12_alone_97 : decode cX12_alone 97 = .ok (.if_icmp .ge 29, 3) := by decide +kernel
theorem dX12_alone_100 : decode cX12_alone 100 = .ok (.iload_n 3, 1) := by decide +kernel
theorem dX12_alone_101 : decode cX12_alone 101 = .ok (.aload_n 0, 1) := by decide +kernel
theorem dX12_alone_102 : decode cX12_alone 102 = .ok (.iload 4, 2) := by decide +kernel
theorem dX12_alone_104 : decode cX12_alone 104 = .ok (.invokevirtual 369, 3) := by decide +kernel
theorem dX12_alone_107 : decode cX12_alone 107 = .ok (.ifCond .eq 10, 3) := by decide +kernel
theorem dX12_alone_110 : decode cX12_alone 110 = .ok (.iconst 1, 1) := by decide +kernel
theorem dX12_alone_111 : decode cX12_alone 111 = .ok (.iload 4, 2) := by decide +kernel
theorem dX12_alone_113 : decode cX12_alone 113 = .ok (.ishl, 1) := by decide +kernel
theorem dX12_alone_114 : decode cX12_alone 114 = .ok (.goto 4, 3) := by decide +kernel
theorem dX12_alone_117 : decode cX12_alone 117 = .ok (.iconst 0, 1) := by decide +kernel
theorem dX12_alone_118 : decode cX12_alone 118 = .ok (.ior, 1) := by decide +kernel
theorem dX12_alone_119 : decode cX12_alone 119 = .ok (.istore_n 3, 1) := by decide +kernel
theorem dX12_alone_120 : decode cX12_alone 120 = .ok (.iinc 4 1, 3) := by decide +kernel
theorem dX12_alone_123 : decode cX12_alone 123 = .ok (.goto (-32), 3) := by decide +kernel
theorem dX12_alone_126 : decode cX12_alone 126 = .ok (.iload_n 3, 1) := by decide +kernel
theorem dX12_alone_127 : decode cX12_alone 127 = .ok (.ireturn, 1) := by decide +kernel
theorem dX12_alone_128 : decode cX12_alone 128 = .ok (.aload_n 0, 1) := by decide +kernel
theorem dX12_alone_129 : decode cX12_alone 129 = .ok (.invokevirtual 372, 3) := by decide +kernel
theorem dX12_alone_132 : decode cX12_alone 132 = .ok (.ireturn, 1) := by decide +kernel
theorem dX12_alone_133 : decode cX12_alone 133 = .ok (.aload_n 0, 1) := by decide +kernel
theorem dX12_alone_134 : decode cX12_alone 134 = .ok (.invokevirtual 375, 3) := by decide +kernel
theorem dX12_alone_137 : decode cX12_alone 137 = .ok (.ireturn, 1) := by decide +kernel
theorem dX12_alone_138 : decode cX12_alone 138 = .ok (.bipush (-2), 2) := by decide +kernel
theorem dX12_alone_140 : decode cX12_alone 140 = .ok (.ireturn, 1) := by decide +kernel
theorem dX12_barred_0 : decode cX12_barred 0 = .ok (.aload_n 0, 1) := by decide +kernel
theorem dX12_barred_1 : decode cX12_barred 1 = .ok (.iload_n 1, 1) := by decide +kernel
theorem dX12_barred_2 : decode cX12_barred 2 = .ok (.iload_n 2, 1) := by decide +kernel
theorem dX12_barred_3 : decode cX12_barred 3 = .ok (.invokevirtual 279, 3) := by decide +kernel
theorem dX12_barred_6 : decode cX12_barred 6 = .ok (.ifCond .ne 5, 3) := by decide +kernel
theorem dX12_barred_9 : decode cX12_barred 9 = .ok (.iconst (-1), 1) := by decide +kernel
theorem dX12_barred_10 : decode cX12_barred 10 = .ok (.ireturn, 1) := by decide +kernel
theorem dX12_barred_11 : decode cX12_barred 11 = .ok (.iconst (-1), 1) := by decide +kernel
theorem dX12_barred_12 : decode cX12_barred 12 = .ok (.istore 4, 2) := by decide +kernel
theorem dX12_barred_14 : decode cX12_barred 14 = .ok (.iconst 0, 1) := by decide +kernel
theorem dX12_barred_15 : decode cX12_barred 15 = .ok (.istore 5, 2) := by decide +kernel
theorem dX12_barred_17 : decode cX12_barred 17 = .ok (.iconst 0, 1) := by decide +kernel
theorem dX12_barred_18 : decode cX12_barred 18 = .ok (.istore 6, 2) := by decide +kernel
theorem dX12_barred_20 : decode cX12_barred 20 = .ok (.aload_n 0, 1) := by decide +kernel
theorem dX12_barred_21 : decode cX12_barred 21 = .ok (.iload 6, 2) := by decide +kernel
theorem dX12_barred_23 : decode cX12_barred 23 = .ok (.invokevirtual 237, 3) := by decide +kernel
theorem dX12_barred_26 : decode cX12_barred 26 = .ok (.ifCond .eq 70, 3) := by decide +kernel
theorem dX12_barred_29 : decode cX12_barred 29 = .ok (.aload_n 0, 1) := by decide +kernel
theorem dX12_barred_30 : decode cX12_barred 30 = .ok (.iconst (-1), 1) := by decide +kernel
theorem dX12_barred_31 : decode cX12_barred 31 = .ok (.putfield 210, 3) := by decide +kernel
theorem dX12_barred_34 : decode cX12_barred 34 = .ok (.aload_n 0, 1) := by decide +kernel
theorem dX12_barred_35 : decode cX12_barred 35 = .ok (.aload_n 0, 1) := by decide +kernel
theorem dX12_barred_36 : decode cX12_barred 36 = .ok (.iload 6, 2) := by decide +kernel
theorem dX12_barred_38 : decode cX12_barred 38 = .ok (.invokevirtual 240, 3) := by decide +kernel
theorem dX12_barred_41 : decode cX12_barred 41 = .ok (.invokevirtual 243, 3) := by decide +kernel
theorem dX12_barred_44 : decode cX12_barred 44 = .ok (.ifCond .eq 6, 3) := by decide +kernel
theorem dX12_barred_47 : decode cX12_barred 47 = .ok (.goto 43, 3) := by decide +kernel
theorem dX12_barred_50 : decode cX12_barred 50 = .ok (.aload_n 0, 1) := by decide +kernel
theorem dX12_barred_51 : decode cX12_barred 51 = .ok (.aload_n 0, 1) := by decide +kernel
theorem dX12_barred_52 : decode cX12_barred 52 = .ok (.iload 6, 2) := by decide +kernel
theorem dX12_barred_54 : decode cX12_barred 54 = .ok (.invokevirtual 240, 3) := by decide +kernel
theorem dX12_barred_57 : decode cX12_barred 57 = .ok (.putfield 210, 3) := by decide +kernel
theorem dX12_barred_60 : decode cX12_barred 60 = .ok (.aload_n 0, 1) := by decide +kernel
theorem dX12_barred_61 : decode cX12_barred 61 = .ok (.invokevirtual 282, 3) := by decide +kernel
theorem dX12_barred_64 : decode cX12_barred 64 = .ok (.istore 7, 2) := by decide +kernel
theorem dX12_barred_66 : decode cX12_barred 66 = .ok (.iload 4, 2) := by decide +kernel
theorem dX12_barred_68 : decode cX12_barred 68 = .ok (.iconst (-1), 1) := by decide +kernel
theorem dX12_barred_69 : decode cX12_barred 69 = .ok (.if_icmp .eq 13, 3) := by decide +kernel
theorem dX12_barred_72 : decode cX12_barred 72 = .ok (.iload 7, 2) := by decide +kernel
theorem dX12_barred_74 : decode cX12_barred 74 = .ok (.iload 5, 2) := by decide +kernel
theorem dX12_barred_76 : decode cX12_barred 76 = .ok (.if_icmp .lt 6, 3) := by decide +kernel
theorem dX12_barred_79 : decode cX12_barred 79 = .ok (.goto 11, 3) := by decide +kernel
theorem dX12_barred_82 : decode cX12_barred 82 = .ok (.iload 6, 2) := by decide +kernel
theorem dX12_barred_84 : decode cX12_barred 84 = .ok (.istore 4, 2) := by decide +kernel
theorem dX12_barred_86 : decode cX12_barred 86 = .ok (.iload 7, 2) := by decide +kernel
theorem dX12_barred_88 : decode cX12_barred 88 = .ok (.istore 5, 2) := by decide +kernel
theorem dX12_barred_90 : decode cX12_barred 90 = .ok (.iinc 6 1, 3) := by decide +kernel
theorem dX12_barred_93 : decode cX12_barred 93 = .ok (.goto (-73), 3) := by decide +kernel
theorem dX12_barred_96 : decode cX12_barred 96 = .ok (.iload 4, 2) := by decide +kernel
theorem dX12_barred_98 : decode cX12_barred 98 = .ok (.iconst (-1), 1) := by decide +kernel
theorem dX12_barred_99 : decode cX12_barred 99 = .ok (.if_icmp .eq 7, 3) := by decide +kernel
theorem dX12_barred_102 : decode cX12_barred 102 = .ok (.iload_n 3, 1) := by decide +kernel
theorem dX12_barred_103 : decode cX12_barred 103 = .ok (.ifCond .ne 8, 3) := by decide +kernel
theorem dX12_barred_106 : decode cX12_barred 106 = .ok (.iload 4, 2) := by decide +kernel
theorem dX12_barred_108 : decode cX12_barred 108 = .ok (.goto 5, 3) := by decide +kernel
theorem dX12_barred_111 : decode cX12_barred 111 = .ok (.iload 5, 2) := by decide +kernel
theorem dX12_barred_113 : decode cX12_barred 113 = .ok (.ireturn, 1) := by decide +kernel
theorem dX12_knownIn_0 : decode cX12_knownIn 0 = .ok (.iconst 0, 1) := by decide +kernel
theorem dX12_knownIn_1 : decode cX12_knownIn 1 = .ok (.istore_n 2, 1) := by decide +kernel
theorem dX12_knownIn_2 : decode cX12_knownIn 2 = .ok (.iconst 0, 1) := by decide +kernel
theorem dX12_knownIn_3 : decode cX12_knownIn 3 = .ok (.istore_n 3, 1) := by decide +kernel
theorem dX12_knownIn_4 : decode cX12_knownIn 4 = .ok (.iload_n 3, 1) := by decide +kernel
theorem dX12_knownIn_5 : decode cX12_knownIn 5 = .ok (.aload_n 0, 1) := by decide +kernel
theorem dX12_knownIn_6 : decode cX12_knownIn 6 = .ok (.getfield 216, 3) := by decide +kernel
theorem dX12_knownIn_9 : decode cX12_knownIn 9 = .ok (.if_icmp .ge 26, 3) := by decide +kernel
theorem dX12_knownIn_12 : decode cX12_knownIn 12 = .ok (.iload_n 2, 1) := by decide +kernel
theorem dX12_knownIn_13 : decode cX12_knownIn 13 = .ok (.aload_n 0, 1) := by decide +kernel
theorem dX12_knownIn_14 : decode cX12_knownIn 14 = .ok (.iload_n 3, 1) := by decide +kernel
theorem dX12_knownIn_15 : decode cX12_knownIn 15 = .ok (.iload_n 1, 1) := by decide +kernel
theorem dX12_knownIn_16 : decode cX12_knownIn 16 = .ok (.invokevirtual 273, 3) := by decide +kernel
theorem dX12_knownIn_19 : decode cX12_knownIn 19 = .ok (.ifCond .eq 7, 3) := by decide +kernel
theorem dX12_knownIn_22 : decode cX12_knownIn 22 = .ok (.iconst 1, 1) := by decide +kernel
theorem dX12_knownIn_23 : decode cX12_knownIn 23 = .ok (.goto 4, 3) := by decide +kernel
theorem dX12_knownIn_26 : decode cX12_knownIn 26 = .ok (.iconst 0, 1) := by decide +kernel
theorem dX12_knownIn_27 : decode cX12_knownIn 27 = .ok (.iadd, 1) := by decide +kernel
theorem dX12_knownIn_28 : decode cX12_knownIn 28 = .ok (.istore_n 2, 1) := by decide +kernel
theorem dX12_knownIn_29 : decode cX12_knownIn 29 = .ok (.iinc 3 1, 3) := by decide +kernel
theorem dX12_knownIn_32 : decode cX12_knownIn 32 = .ok (.goto (-28), 3) := by decide +kernel
theorem dX12_knownIn_35 : decode cX12_knownIn 35 = .ok (.iload_n 2, 1) := by decide +kernel
theorem dX12_knownIn_36 : decode cX12_knownIn 36 = .ok (.ireturn, 1) := by decide +kernel
theorem dX12_known_0 : decode cX12_known 0 = .ok (.aload_n 0, 1) := by decide +kernel
theorem dX12_known_1 : decode cX12_known 1 = .ok (.iload_n 1, 1) := by decide +kernel
theorem dX12_known_2 : decode cX12_known 2 = .ok (.iload_n 2, 1) := by decide +kernel
theorem dX12_known_3 : decode cX12_known 3 = .ok (.invokevirtual 279, 3) := by decide +kernel
theorem dX12_known_6 : decode cX12_known 6 = .ok (.ifCond .eq 16, 3) := by decide +kernel
theorem dX12_known_9 : decode cX12_known 9 = .ok (.iload_n 3, 1) := by decide +kernel
theorem dX12_known_10 : decode cX12_known 10 = .ok (.iconst (-1), 1) := by decide +kernel
theorem dX12_known_11 : decode cX12_known 11 = .ok (.if_icmp .eq 13, 3) := by decide +kernel
theorem dX12_known_14 : decode cX12_known 14 = .ok (.aload_n 0, 1) := by decide +kernel
theorem dX12_known_15 : decode cX12_known 15 = .ok (.iload_n 3, 1) := by decide +kernel
theorem dX12_known_16 : decode cX12_known 16 = .ok (.invokevirtual 228, 3) := by decide +kernel
theorem dX12_known_19 : decode cX12_known 19 = .ok (.ifCond .ne 5, 3) := by decide +kernel
theorem dX12_known_22 : decode cX12_known 22 = .ok (.iconst (-1), 1) := by decide +kernel
theorem dX12_known_23 : decode cX12_known 23 = .ok (.ireturn, 1) := by decide +kernel
theorem dX12_known_24 : decode cX12_known 24 = .ok (.aload_n 0, 1) := by decide +kernel
theorem dX12_known_25 : decode cX12_known 25 = .ok (.invokevirtual 258, 3) := by decide +kernel
theorem dX12_known_28 : decode cX12_known 28 = .ok (.iload_n 3, 1) := by decide +kernel
theorem dX12_known_29 : decode cX12_known 29 = .ok (.iconst (-1), 1) := by decide +kernel
theorem dX12_known_30 : decode cX12_known 30 = .ok (.if_icmp .eq 9, 3) := by decide +kernel
theorem dX12_known_33 : decode cX12_known 33 = .ok (.aload_n 0, 1) := by decide +kernel
theorem dX12_known_34 : decode cX12_known 34 = .ok (.iload_n 3, 1) := by decide +kernel
theorem dX12_known_35 : decode cX12_known 35 = .ok (.invokevirtual 378, 3) := by decide +kernel
theorem dX12_known_38 : decode cX12_known 38 = .ok (.ireturn, 1) := by decide +kernel
theorem dX12_known_39 : decode cX12_known 39 = .ok (.aload_n 0, 1) := by decide +kernel
theorem dX12_known_40 : decode cX12_known 40 = .ok (.getfield 213, 3) := by decide +kernel
theorem dX12_known_43 : decode cX12_known 43 = .ok (.ifCond .ne 7, 3) := by decide +kernel
theorem dX12_known_46 : decode cX12_known 46 = .ok (.iconst (-1), 1) := by decide +kernel
theorem dX12_known_47 : decode cX12_known 47 = .ok (.goto 4, 3) := by decide +kernel
theorem dX12_known_50 : decode cX12_known 50 = .ok (.iconst 0, 1) := by decide +kernel
theorem dX12_known_51 : decode cX12_known 51 = .ok (.istore 4, 2) := by decide +kernel
theorem dX12_known_53 : decode cX12_known 53 = .ok (.iconst 1, 1) := by decide +kernel
theorem dX12_known_54 : decode cX12_known 54 = .ok (.istore 5, 2) := by decide +kernel
theorem dX12_known_56 : decode cX12_known 56 = .ok (.iload 5, 2) := by decide +kernel
theorem dX12_known_58 : decode cX12_known 58 = .ok (.aload_n 0, 1) := by decide +kernel
theorem dX12_known_59 : decode cX12_known 59 = .ok (.getfield 213, 3) := by decide +kernel
theorem dX12_known_62 : decode cX12_known 62 = .ok (.if_icmp .ge 33, 3) := by decide +kernel
theorem dX12_known_65 : decode cX12_known 65 = .ok (.aload_n 0, 1) := by decide +kernel
theorem dX12_known_66 : decode cX12_known 66 = .ok (.iload 5, 2) := by decide +kernel
theorem dX12_known_68 : decode cX12_known 68 = .ok (.invokevirtual 378, 3) := by decide +kernel
theorem dX12_known_71 : decode cX12_known 71 = .ok (.aload_n 0, 1) := by decide +kernel
theorem dX12_known_72 : decode cX12_known 72 = .ok (.iload 4, 2) := by decide +kernel
theorem dX12_known_74 : decode cX12_known 74 = .ok (.invokevirtual 378, 3) := by decide +kernel
theorem dX12_known_77 : decode cX12_known 77 = .ok (.if_icmp .le 8, 3) := by decide +kernel
theorem dX12_known_80 : decode cX12_known 80 = .ok (.iload 5, 2) := by decide +kernel
theorem dX12_known_82 : decode cX12_known 82 = .ok (.goto 5, 3) := by decide +kernel
theorem dX12_known_85 : decode cX12_known 85 = .ok (.iload 4, 2) := by decide +kernel
theorem dX12_known_87 : decode cX12_known 87 = .ok (.istore 4, 2) := by decide +kernel
theorem dX12_known_89 : decode cX12_known 89 = .ok (.iinc 5 1, 3) := by decide +kernel
theorem dX12_known_92 : decode cX12_known 92 = .ok (.goto (-36), 3) := by decide +kernel
theorem dX12_known_95 : decode cX12_known 95 = .ok (.iload 4, 2) := by decide +kernel
theorem dX12_known_97 : decode cX12_known 97 = .ok (.ireturn, 1) := by decide +kernel
theorem dX12_below_0 : decode cX12_below 0 = .ok (.aload_n 0, 1) := by decide +kernel
theorem dX12_below_1 : decode cX12_below 1 = .ok (.aload_n 0, 1) := by decide +kernel
theorem dX12_below_2 : decode cX12_below 2 = .ok (.getfield 381, 3) := by decide +kernel
theorem dX12_below_5 : decode cX12_below 5 = .ok (.ldc_w 384, 3) := by decide +kernel
theorem dX12_below_8 : decode cX12_below 8 = .ok (.imul, 1) := by decide +kernel
theorem dX12_below_9 : decode cX12_below 9 = .ok (.sipush 12345, 3) := by decide +kernel
theorem dX12_below_12 : decode cX12_below 12 = .ok (.iadd, 1) := by decide +kernel
theorem dX12_below_13 : decode cX12_below 13 = .ok (.putfield 381, 3) := by decide +kernel
theorem dX12_below_16 : decode cX12_below 16 = .ok (.aload_n 0, 1) := by decide +kernel
theorem dX12_below_17 : decode cX12_below 17 = .ok (.getfield 381, 3) := by decide +kernel
theorem dX12_below_20 : decode cX12_below 20 = .ok (.bipush 16, 2) := by decide +kernel
theorem dX12_below_22 : decode cX12_below 22 = .ok (.iushr, 1) := by decide +kernel
theorem dX12_below_23 : decode cX12_below 23 = .ok (.iload_n 1, 1) := by decide +kernel
theorem dX12_below_24 : decode cX12_below 24 = .ok (.irem, 1) := by decide +kernel
theorem dX12_below_25 : decode cX12_below 25 = .ok (.ireturn, 1) := by decide +kernel
theorem dX12_draws_0 : decode cX12_draws 0 = .ok (.aload_n 0, 1) := by decide +kernel
theorem dX12_draws_1 : decode cX12_draws 1 = .ok (.iconst 4, 1) := by decide +kernel
theorem dX12_draws_2 : decode cX12_draws 2 = .ok (.invokevirtual 385, 3) := by decide +kernel
theorem dX12_draws_5 : decode cX12_draws 5 = .ok (.istore_n 1, 1) := by decide +kernel
theorem dX12_draws_6 : decode cX12_draws 6 = .ok (.iload_n 1, 1) := by decide +kernel
theorem dX12_draws_7 : decode cX12_draws 7 = .ok (.iconst 2, 1) := by decide +kernel
theorem dX12_draws_8 : decode cX12_draws 8 = .ok (.if_icmp .ge 10, 3) := by decide +kernel
theorem dX12_draws_11 : decode cX12_draws 11 = .ok (.aload_n 0, 1) := by decide +kernel
theorem dX12_draws_12 : decode cX12_draws 12 = .ok (.getfield 213, 3) := by decide +kernel
theorem dX12_draws_15 : decode cX12_draws 15 = .ok (.goto 7, 3) := by decide +kernel
theorem dX12_draws_18 : decode cX12_draws 18 = .ok (.aload_n 0, 1) := by decide +kernel
theorem dX12_draws_19 : decode cX12_draws 19 = .ok (.getfield 216, 3) := by decide +kernel
theorem dX12_draws_22 : decode cX12_draws 22 = .ok (.istore_n 2, 1) := by decide +kernel
theorem dX12_draws_23 : decode cX12_draws 23 = .ok (.iload_n 1, 1) := by decide +kernel
theorem dX12_draws_24 : decode cX12_draws 24 = .ok (.iconst 3, 1) := by decide +kernel
theorem dX12_draws_25 : decode cX12_draws 25 = .ok (.if_icmp .ne 10, 3) := by decide +kernel
theorem dX12_draws_28 : decode cX12_draws 28 = .ok (.aload_n 0, 1) := by decide +kernel
theorem dX12_draws_29 : decode cX12_draws 29 = .ok (.invokevirtual 309, 3) := by decide +kernel
theorem dX12_draws_32 : decode cX12_draws 32 = .ok (.goto 54, 3) := by decide +kernel
theorem dX12_draws_35 : decode cX12_draws 35 = .ok (.iload_n 2, 1) := by decide +kernel
theorem dX12_draws_36 : decode cX12_draws 36 = .ok (.ifCond .le 50, 3) := by decide +kernel
theorem dX12_draws_39 : decode cX12_draws 39 = .ok (.aload_n 0, 1) := by decide +kernel
theorem dX12_draws_40 : decode cX12_draws 40 = .ok (.iload_n 2, 1) := by decide +kernel
theorem dX12_draws_41 : decode cX12_draws 41 = .ok (.invokevirtual 385, 3) := by decide +kernel
theorem dX12_draws_44 : decode cX12_draws 44 = .ok (.istore_n 3, 1) := by decide +kernel
theorem dX12_draws_45 : decode cX12_draws 45 = .ok (.aload_n 0, 1) := by decide +kernel
theorem dX12_draws_46 : decode cX12_draws 46 = .ok (.bipush 8, 2) := by decide +kernel
theorem dX12_draws_48 : decode cX12_draws 48 = .ok (.invokevirtual 385, 3) := by decide +kernel
theorem dX12_draws_51 : decode cX12_draws 51 = .ok (.istore 4, 2) := by decide +kernel
theorem dX12_draws_53 : decode cX12_draws 53 = .ok (.iload_n 1, 1) := by decide +kernel
theorem dX12_draws_54 : decode cX12_draws 54 = .ok (.iconst 2, 1) := by decide +kernel
theorem dX12_draws_55 : decode cX12_draws 55 = .ok (.if_icmp .ge 7, 3) := by decide +kernel
theorem dX12_draws_58 : decode cX12_draws 58 = .ok (.iconst 0, 1) := by decide +kernel
theorem dX12_draws_59 : decode cX12_draws 59 = .ok (.goto 4, 3) := by decide +kernel
theorem dX12_draws_62 : decode cX12_draws 62 = .ok (.iconst 1, 1) := by decide +kernel
theorem dX12_draws_63 : decode cX12_draws 63 = .ok (.istore 5, 2) := by decide +kernel
theorem dX12_draws_65 : decode cX12_draws 65 = .ok (.aload_n 0, 1) := by decide +kernel
theorem dX12_draws_66 : decode cX12_draws 66 = .ok (.iload 5, 2) := by decide +kernel
theorem dX12_draws_68 : decode cX12_draws 68 = .ok (.iload_n 3, 1) := by decide +kernel
theorem dX12_draws_69 : decode cX12_draws 69 = .ok (.iload 4, 2) := by decide +kernel
theorem dX12_draws_71 : decode cX12_draws 71 = .ok (.invokevirtual 315, 3) := by decide +kernel
theorem dX12_draws_74 : decode cX12_draws 74 = .ok (.ifCond .eq 12, 3) := by decide +kernel
theorem dX12_draws_77 : decode cX12_draws 77 = .ok (.aload_n 0, 1) := by decide +kernel
theorem dX12_draws_78 : decode cX12_draws 78 = .ok (.iload 5, 2) := by decide +kernel
theorem dX12_draws_80 : decode cX12_draws 80 = .ok (.iload_n 3, 1) := by decide +kernel
theorem dX12_draws_81 : decode cX12_draws 81 = .ok (.iload 4, 2) := by decide +kernel
theorem dX12_draws_83 : decode cX12_draws 83 = .ok (.invokevirtual 318, 3) := by decide +kernel
theorem dX12_draws_86 : decode cX12_draws 86 = .ok (.return_, 1) := by decide +kernel
theorem dX12_drawn_0 : decode cX12_drawn 0 = .ok (.aload_n 0, 1) := by decide +kernel
theorem dX12_drawn_1 : decode cX12_drawn 1 = .ok (.iload_n 1, 1) := by decide +kernel
theorem dX12_drawn_2 : decode cX12_drawn 2 = .ok (.iload_n 2, 1) := by decide +kernel
theorem dX12_drawn_3 : decode cX12_drawn 3 = .ok (.invokevirtual 279, 3) := by decide +kernel
theorem dX12_drawn_6 : decode cX12_drawn 6 = .ok (.ifCond .eq 26, 3) := by decide +kernel
theorem dX12_drawn_9 : decode cX12_drawn 9 = .ok (.iload 4, 2) := by decide +kernel
theorem dX12_drawn_11 : decode cX12_drawn 11 = .ok (.iconst 0, 1) := by decide +kernel
theorem dX12_drawn_12 : decode cX12_drawn 12 = .ok (.bipush 40, 2) := by decide +kernel
theorem dX12_drawn_14 : decode cX12_drawn 14 = .ok (.invokestatic 141, 3) := by decide +kernel
theorem dX12_drawn_17 : decode cX12_drawn 17 = .ok (.ifCond .eq 15, 3) := by decide +kernel
theorem dX12_drawn_20 : decode cX12_drawn 20 = .ok (.iload 5, 2) := by decide +kernel
theorem dX12_drawn_22 : decode cX12_drawn 22 = .ok (.bipush 50, 2) := by decide +kernel
theorem dX12_drawn_24 : decode cX12_drawn 24 = .ok (.bipush 59, 2) := by decide +kernel
theorem dX12_drawn_26 : decode cX12_drawn 26 = .ok (.invokestatic 141, 3) := by decide +kernel
theorem dX12_drawn_29 : decode cX12_drawn 29 = .ok (.ifCond .eq 6, 3) := by decide +kernel
theorem dX12_drawn_32 : decode cX12_drawn 32 = .ok (.bipush (-2), 2) := by decide +kernel
theorem dX12_drawn_34 : decode cX12_drawn 34 = .ok (.ireturn, 1) := by decide +kernel
theorem dX12_drawn_35 : decode cX12_drawn 35 = .ok (.aload_n 0, 1) := by decide +kernel
theorem dX12_drawn_36 : decode cX12_drawn 36 = .ok (.iload_n 3, 1) := by decide +kernel
theorem dX12_drawn_37 : decode cX12_drawn 37 = .ok (.putfield 381, 3) := by decide +kernel
theorem dX12_drawn_40 : decode cX12_drawn 40 = .ok (.aload_n 0, 1) := by decide +kernel
theorem dX12_drawn_41 : decode cX12_drawn 41 = .ok (.invokevirtual 312, 3) := by decide +kernel
theorem dX12_drawn_44 : decode cX12_drawn 44 = .ok (.iconst 0, 1) := by decide +kernel
theorem dX12_drawn_45 : decode cX12_drawn 45 = .ok (.istore 6, 2) := by decide +kernel
theorem dX12_drawn_47 : decode cX12_drawn 47 = .ok (.iload 6, 2) := by decide +kernel
theorem dX12_drawn_49 : decode cX12_drawn 49 = .ok (.iload 4, 2) := by decide +kernel
theorem dX12_drawn_51 : decode cX12_drawn 51 = .ok (.if_icmp .ge 13, 3) := by decide +kernel
theorem dX12_drawn_54 : decode cX12_drawn 54 = .ok (.aload_n 0, 1) := by decide +kernel
theorem dX12_drawn_55 : decode cX12_drawn 55 = .ok (.invokevirtual 388, 3) := by decide +kernel
theorem dX12_drawn_58 : decode cX12_drawn 58 = .ok (.iinc 6 1, 3) := by decide +kernel
theorem dX12_drawn_61 : decode cX12_drawn 61 = .ok (.goto (-14), 3) := by decide +kernel
theorem dX12_drawn_64 : decode cX12_drawn 64 = .ok (.aload_n 0, 1) := by decide +kernel
theorem dX12_drawn_65 : decode cX12_drawn 65 = .ok (.iload 5, 2) := by decide +kernel
theorem dX12_drawn_67 : decode cX12_drawn 67 = .ok (.invokevirtual 325, 3) := by decide +kernel
theorem dX12_drawn_70 : decode cX12_drawn 70 = .ok (.ireturn, 1) := by decide +kernel
theorem dX12_count_0 : decode cX12_count 0 = .ok (.iload_n 1, 1) := by decide +kernel
theorem dX12_count_1 : decode cX12_count 1 = .ok (.iconst 0, 1) := by decide +kernel
theorem dX12_count_2 : decode cX12_count 2 = .ok (.iconst 3, 1) := by decide +kernel
theorem dX12_count_3 : decode cX12_count 3 = .ok (.invokestatic 141, 3) := by decide +kernel
theorem dX12_count_6 : decode cX12_count 6 = .ok (.ifCond .eq 12, 3) := by decide +kernel
theorem dX12_count_9 : decode cX12_count 9 = .ok (.aload_n 0, 1) := by decide +kernel
theorem dX12_count_10 : decode cX12_count 10 = .ok (.getfield 7, 3) := by decide +kernel
theorem dX12_count_13 : decode cX12_count 13 = .ok (.iload_n 1, 1) := by decide +kernel
theorem dX12_count_14 : decode cX12_count 14 = .ok (.iaload, 1) := by decide +kernel
theorem dX12_count_15 : decode cX12_count 15 = .ok (.goto 5, 3) := by decide +kernel
theorem dX12_count_18 : decode cX12_count 18 = .ok (.bipush (-2), 2) := by decide +kernel
theorem dX12_count_20 : decode cX12_count 20 = .ok (.ireturn, 1) := by decide +kernel
theorem dX12_image_0 : decode cX12_image 0 = .ok (.iload_n 1, 1) := by decide +kernel
theorem dX12_image_1 : decode cX12_image 1 = .ok (.iconst 0, 1) := by decide +kernel
theorem dX12_image_2 : decode cX12_image 2 = .ok (.iconst 2, 1) := by decide +kernel
theorem dX12_image_3 : decode cX12_image 3 = .ok (.invokestatic 141, 3) := by decide +kernel
theorem dX12_image_6 : decode cX12_image 6 = .ok (.ifCond .ne 5, 3) := by decide +kernel
theorem dX12_image_9 : decode cX12_image 9 = .ok (.iconst 0, 1) := by decide +kernel
theorem dX12_image_10 : decode cX12_image 10 = .ok (.ireturn, 1) := by decide +kernel
theorem dX12_image_11 : decode cX12_image 11 = .ok (.aload_n 0, 1) := by decide +kernel
theorem dX12_image_12 : decode cX12_image 12 = .ok (.getfield 13, 3) := by decide +kernel
theorem dX12_image_15 : decode cX12_image 15 = .ok (.iload_n 1, 1) := by decide +kernel
theorem dX12_image_16 : decode cX12_image 16 = .ok (.iconst 1, 1) := by decide +kernel
theorem dX12_image_17 : decode cX12_image 17 = .ok (.bastore, 1) := by decide +kernel
theorem dX12_image_18 : decode cX12_image 18 = .ok (.iconst 0, 1) := by decide +kernel
theorem dX12_image_19 : decode cX12_image 19 = .ok (.istore_n 2, 1) := by decide +kernel
theorem dX12_image_20 : decode cX12_image 20 = .ok (.iload_n 2, 1) := by decide +kernel
theorem dX12_image_21 : decode cX12_image 21 = .ok (.sipush 1130, 3) := by decide +kernel
theorem dX12_image_24 : decode cX12_image 24 = .ok (.if_icmp .ge 29, 3) := by decide +kernel
theorem dX12_image_27 : decode cX12_image 27 = .ok (.aload_n 0, 1) := by decide +kernel
theorem dX12_image_28 : decode cX12_image 28 = .ok (.getfield 7, 3) := by decide +kernel
theorem dX12_image_31 : decode cX12_image 31 = .ok (.sipush 1130, 3) := by decide +kernel
theorem dX12_image_34 : decode cX12_image 34 = .ok (.iload_n 1, 1) := by decide +kernel
theorem dX12_image_35 : decode cX12_image 35 = .ok (.iconst 1, 1) := by decide +kernel
theorem dX12_image_36 : decode cX12_image 36 = .ok (.iadd, 1) := by decide +kernel
theorem dX12_image_37 : decode cX12_image 37 = .ok (.imul, 1) := by decide +kernel
theorem dX12_image_38 : decode cX12_image 38 = .ok (.iload_n 2, 1) := by decide +kernel
theorem dX12_image_39 : decode cX12_image 39 = .ok (.iadd, 1) := by decide +kernel
theorem dX12_image_40 : decode cX12_image 40 = .ok (.aload_n 0, 1) := by decide +kernel
theorem dX12_image_41 : decode cX12_image 41 = .ok (.getfield 7, 3) := by decide +kernel
theorem dX12_image_44 : decode cX12_image 44 = .ok (.iload_n 2, 1) := by decide +kernel
theorem dX12_image_45 : decode cX12_image 45 = .ok (.iaload, 1) := by decide +kernel
theorem dX12_image_46 : decode cX12_image 46 = .ok (.iastore, 1) := by decide +kernel
theorem dX12_image_47 : decode cX12_image 47 = .ok (.iinc 2 1, 3) := by decide +kernel
theorem dX12_image_50 : decode cX12_image 50 = .ok (.goto (-30), 3) := by decide +kernel
theorem dX12_image_53 : decode cX12_image 53 = .ok (.iconst 1, 1) := by decide +kernel
theorem dX12_image_54 : decode cX12_image 54 = .ok (.ireturn, 1) := by decide +kernel
theorem dX12_again_0 : decode cX12_again 0 = .ok (.iload_n 1, 1) := by decide +kernel
theorem dX12_again_1 : decode cX12_again 1 = .ok (.iconst 0, 1) := by decide +kernel
theorem dX12_again_2 : decode cX12_again 2 = .ok (.iconst 2, 1) := by decide +kernel
theorem dX12_again_3 : decode cX12_again 3 = .ok (.invokestatic 141, 3) := by decide +kernel
theorem dX12_again_6 : decode cX12_again 6 = .ok (.ifCond .eq 12, 3) := by decide +kernel
theorem dX12_again_9 : decode cX12_again 9 = .ok (.aload_n 0, 1) := by decide +kernel
theorem dX12_again_10 : decode cX12_again 10 = .ok (.getfield 13, 3) := by decide +kernel
theorem dX12_again_13 : decode cX12_again 13 = .ok (.iload_n 1, 1) := by decide +kernel
theorem dX12_again_14 : decode cX12_again 14 = .ok (.baload, 1) := by decide +kernel
theorem dX12_again_15 : decode cX12_again 15 = .ok (.ifCond .ne 5, 3) := by decide +kernel
theorem dX12_again_18 : decode cX12_again 18 = .ok (.iconst 0, 1) := by decide +kernel
theorem dX12_again_19 : decode cX12_again 19 = .ok (.ireturn, 1) := by decide +kernel
theorem dX12_again_20 : decode cX12_again 20 = .ok (.iconst 0, 1) := by decide +kernel
theorem dX12_again_21 : decode cX12_again 21 = .ok (.istore_n 2, 1) := by decide +kernel
theorem dX12_again_22 : decode cX12_again 22 = .ok (.iload_n 2, 1) := by decide +kernel
theorem dX12_again_23 : decode cX12_again 23 = .ok (.sipush 1130, 3) := by decide +kernel
theorem dX12_again_26 : decode cX12_again 26 = .ok (.if_icmp .ge 29, 3) := by decide +kernel
theorem dX12_again_29 : decode cX12_again 29 = .ok (.aload_n 0, 1) := by decide +kernel
theorem dX12_again_30 : decode cX12_again 30 = .ok (.getfield 7, 3) := by decide +kernel
theorem dX12_again_33 : decode cX12_again 33 = .ok (.iload_n 2, 1) := by decide +kernel
theorem dX12_again_34 : decode cX12_again 34 = .ok (.aload_n 0, 1) := by decide +kernel
theorem dX12_again_35 : decode cX12_again 35 = .ok (.getfield 7, 3) := by decide +kernel
theorem dX12_again_38 : decode cX12_again 38 = .ok (.sipush 1130, 3) := by decide +kernel
theorem dX12_again_41 : decode cX12_again 41 = .ok (.iload_n 1, 1) := by decide +kernel
theorem dX12_again_42 : decode cX12_again 42 = .ok (.iconst 1, 1) := by decide +kernel
theorem dX12_again_43 : decode cX12_again 43 = .ok (.iadd, 1) := by decide +kernel
theorem dX12_again_44 : decode cX12_again 44 = .ok (.imul, 1) := by decide +kernel
theorem dX12_again_45 : decode cX12_again 45 = .ok (.iload_n 2, 1) := by decide +kernel
theorem dX12_again_46 : decode cX12_again 46 = .ok (.iadd, 1) := by decide +kernel
theorem dX12_again_47 : decode cX12_again 47 = .ok (.iaload, 1) := by decide +kernel
theorem dX12_again_48 : decode cX12_again 48 = .ok (.iastore, 1) := by decide +kernel
theorem dX12_again_49 : decode cX12_again 49 = .ok (.iinc 2 1, 3) := by decide +kernel
theorem dX12_again_52 : decode cX12_again 52 = .ok (.goto (-30), 3) := by decide +kernel
theorem dX12_again_55 : decode cX12_again 55 = .ok (.iconst 1, 1) := by decide +kernel
theorem dX12_again_56 : decode cX12_again 56 = .ok (.ireturn, 1) := by decide +kernel
section
variable {p : Program} {l : Launch} {e : Env} {s : State} {m : MethodId} {args : Array Value} {below : List Frame} {meth : Method} {c : Code} {G : GG} {K : SK}
set_option maxHeartbeats 4000000 in
set_option maxRecDepth 100000 in
theorem wX12_round_j126 (C : CX p s m args meth c cX12_round 8 (some .int) RX12 G) (hs0 : s.heap.size = G.1 + K.1) (hL : Lay K)  (k83 : MM → Int32 → Int32 → Int32 → Int32 → Int32 → Option (Int32 × MM)) (pp : (Int32 × MM)) (hk83 : ∀ (M44 : MM) (y45 : Int32) (y46 : Int32) (y47 : Int32) (y48 : Int32) (y49 : Int32), k83 M44 y45 y46 y47 y48 y49 = some pp → Z p l e (rmo 4 0 0) s m args below meth c 8 G (MQ below (QC G (some (.int pp.1)) K pp.2) args s 0 0 (AG G)) K 0 0 M44 83 [(0, .ref (G.1 + 90)), (3, .int y45), (4, .int y46), (5, .int y47), (6, .int y48), (7, .int y49)] []) (M36 : MM) (y37 : Int32) (y38 : Int32) (y39 : Int32) (y40 : Int32) (y41 : Int32) (hf : fX12_round_j126 k83 M36 y37 y38 y39 y40 y41 = some pp) : Z p l e (rmo 4 0 0) s m args below meth c 8 G (MQ below (QC G (some (.int pp.1)) K pp.2) args s 0 0 (AG G)) K 0 0 M36 126 [(0, .ref (G.1 + 90)), (3, .int y37), (4, .int y38), (5, .int y39), (6, .int y40), (7, .int y41)] [] := by
  unfold fX12_round_j126 at hf
  refine z_aload_n C 0 0 dX12_round_126 rfl rfl ?_
  refine z_getR C ok_X12 (lay_c90 hL) 40 (113) (by decide) rfl (lay_r90_40 hL) q_fl_X12_77 dX12_round_127 ?_
  refine z_iload C 5 dX12_round_130 rfl ?_
  replace hf := gd_out hf
  obtain ⟨g42, hf⟩ := hf
  refine z_iald C (lay_c113 hL) (inb_in g42) dX12_round_132 ?_
  refine z_iload_n C 1 3 dX12_round_133 rfl rfl ?_
  refine z_icmp_gt C 160 dX12_round_134 (by decide) (fun c43 => ?_) (fun c43 => ?_)
  · replace hf := ite_t c43 hf
    refine z_iinc C 5 (y41 + 1) [(7, .int (y41 + 1)), (0, .ref (G.1 + 90)), (3, .int y37), (4, .int y38), (5, .int y39), (6, .int y40)] dX12_round_160 rfl rfl (by decide) rfl rfl ?_
    refine z_goto C 83 dX12_round_163 (by decide) ?_
    refine z_lv (lv2 := [(0, .ref (G.1 + 90)), (3, .int y37), (4, .int y38), (5, .int y39), (6, .int y40), (7, .int (y41 + 1))]) [1, 2, 3, 4, 5, 0] rfl ?_
    exact hk83 M36 y37 y38 y39 y40 (y41 + 1)  hf
  · replace hf := ite_f c43 hf
    refine z_iload C 5 dX12_round_137 rfl ?_
    refine z_bipush C 8 dX12_round_139 (by decide) ?_
    refine z_idiv C (by decide) dX12_round_141 ?_
    replace hf := bd_out hf
    obtain ⟨p50, e51, hf⟩ := hf
    refine z_cS1 C [] (tX12_bitsOf l G hL M36 (y41 / 8) _ e51) lk_X12_bitsOf q_ml_X12_352 rfl ⟨Nat.le_of_ble_eq_true rfl, Nat.le_of_ble_eq_true rfl⟩ rfl (Nat.le_of_ble_eq_true rfl) ⟨Nat.le_refl _, Nat.le_refl _⟩ dX12_round_142 ?_
    refine z_iload C 4 dX12_round_145 rfl ?_
    refine z_icmp_le C 160 dX12_round_147 (by decide) (fun c52 => ?_) (fun c52 => ?_)
    · replace hf := ite_t c52 hf
      refine z_iinc C 5 (y41 + 1) [(7, .int (y41 + 1)), (0, .ref (G.1 + 90)), (3, .int y37), (4, .int y38), (5, .int y39), (6, .int y40)] dX12_round_160 rfl rfl (by decide) rfl rfl ?_
      refine z_goto C 83 dX12_round_163 (by decide) ?_
      refine z_lv (lv2 := [(0, .ref (G.1 + 90)), (3, .int y37), (4, .int y38), (5, .int y39), (6, .int y40), (7, .int (y41 + 1))]) [1, 2, 3, 4, 5, 0] rfl ?_
      exact hk83 M36 y37 y38 y39 y40 (y41 + 1)  hf
    · replace hf := ite_f c52 hf
      refine z_iload C 5 dX12_round_150 rfl ?_
      refine z_bipush C 8 dX12_round_152 (by decide) ?_
      refine z_idiv C (by decide) dX12_round_154 ?_
      replace hf := bd_out hf
      obtain ⟨p53, e54, hf⟩ := hf
      refine z_cS1 C [] (tX12_bitsOf l G hL M36 (y41 / 8) _ e54) lk_X12_bitsOf q_ml_X12_352 rfl ⟨Nat.le_of_ble_eq_true rfl, Nat.le_of_ble_eq_true rfl⟩ rfl (Nat.le_of_ble_eq_true rfl) ⟨Nat.le_refl _, Nat.le_refl _⟩ dX12_round_155 ?_
      refine z_istore C [(6, .int p53), (0, .ref (G.1 + 90)), (3, .int y37), (4, .int y38), (5, .int y39), (7, .int y41)] dX12_round_158 (by decide) rfl rfl ?_
      refine z_iinc C 5 (y41 + 1) [(7, .int (y41 + 1)), (6, .int p53), (0, .ref (G.1 + 90)), (3, .int y37), (4, .int y38), (5, .int y39)] dX12_round_160 rfl rfl (by decide) rfl rfl ?_
      refine z_goto C 83 dX12_round_163 (by decide) ?_
      refine z_lv (lv2 := [(0, .ref (G.1 + 90)), (3, .int y37), (4, .int y38), (5, .int y39), (6, .int p53), (7, .int (y41 + 1))]) [2, 3, 4, 5, 1, 0] rfl ?_
      exact hk83 M36 y37 y38 y39 p53 (y41 + 1)  hf
set_option maxHeartbeats 4000000 in
set_option maxRecDepth 100000 in
theorem wX12_round_l83 (C : CX p s m args meth c cX12_round 8 (some .int) RX12 G) (hs0 : s.heap.size = G.1 + K.1) (hL : Lay K)  (k166 : MM → Int32 → Int32 → Int32 → Option (Int32 × MM)) (pp : (Int32 × MM)) (hk166 : ∀ (M31 : MM) (y32 : Int32) (y33 : Int32) (y34 : Int32), k166 M31 y32 y33 y34 = some pp → Z p l e (rmo 4 0 0) s m args below meth c 8 G (MQ below (QC G (some (.int pp.1)) K pp.2) args s 0 0 (AG G)) K 0 0 M31 166 [(3, .int y32), (5, .int y33), (6, .int y34)] []) : ∀ (n : Nat) (M24 : MM) (y25 : Int32) (y26 : Int32) (y27 : Int32) (y28 : Int32) (y29 : Int32) (hf : fX12_round_l83 k166 n M24 y25 y26 y27 y28 y29 = some pp), Z p l e (rmo 4 0 0) s m args below meth c 8 G (MQ below (QC G (some (.int pp.1)) K pp.2) args s 0 0 (AG G)) K 0 0 M24 83 [(0, .ref (G.1 + 90)), (3, .int y25), (4, .int y26), (5, .int y27), (6, .int y28), (7, .int y29)] [] := by
  intro n
  induction n with
  | zero => intro M24 y25 y26 y27 y28 y29 hf; exact nomatch (show (none : Option (Int32 × MM)) = some pp from hf)
  | succ n ih =>
    intro M24 y25 y26 y27 y28 y29 hf
    rw [fX12_round_l83.eq_2] at hf
    refine z_iload C 5 dX12_round_83 rfl ?_
    refine z_bipush C 8 dX12_round_85 (by decide) ?_
    refine z_aload_n C 0 0 dX12_round_87 rfl rfl ?_
    refine z_getI C ok_X12 (lay_c90 hL) 14 (by decide) rfl q_fl_X12_216 dX12_round_88 ?_
    refine z_ishl C dX12_round_91 ?_
    refine z_icmp_ge C 166 dX12_round_92 (by decide) (fun c30 => ?_) (fun c30 => ?_)
    · replace hf := ite_t c30 hf
      refine z_lv (lv2 := [(3, .int y25), (5, .int y27), (6, .int y28)]) [1, 3, 4] rfl ?_
      exact hk166 M24 y25 y27 y28  hf
    · replace hf := ite_f c30 hf
      refine z_iload C 5 dX12_round_95 rfl ?_
      refine z_bipush C 8 dX12_round_97 (by decide) ?_
      refine z_idiv C (by decide) dX12_round_99 ?_
      refine z_iload C 2 dX12_round_100 rfl ?_
      refine z_icmp_ne C 126 dX12_round_102 (by decide) (fun c35 => ?_) (fun c35 => ?_)
      · replace hf := ite_f c35 hf
        refine wX12_round_j126 C hs0 hL _ pp ?_ M24 y25 y26 y27 y28 y29 hf
        · intro M55 y56 y57 y58 y59 y60 hf
          exact ih M55 y56 y57 y58 y59 y60  hf
      · replace hf := ite_t c35 hf
        refine z_aload_n C 0 0 dX12_round_105 rfl rfl ?_
        refine z_getR C ok_X12 (lay_c90 hL) 40 (113) (by decide) rfl (lay_r90_40 hL) q_fl_X12_77 dX12_round_106 ?_
        refine z_iload C 5 dX12_round_109 rfl ?_
        replace hf := gd_out hf
        obtain ⟨g61, hf⟩ := hf
        refine z_iald C (lay_c113 hL) (inb_in g61) dX12_round_111 ?_
        refine z_iload C 3 dX12_round_112 rfl ?_
        refine z_icmp_ge C 126 dX12_round_114 (by decide) (fun c62 => ?_) (fun c62 => ?_)
        · replace hf := ite_t c62 hf
          refine wX12_round_j126 C hs0 hL _ pp ?_ M24 y25 y26 y27 y28 y29 hf
          · intro M63 y64 y65 y66 y67 y68 hf
            exact ih M63 y64 y65 y66 y67 y68  hf
        · replace hf := ite_f c62 hf
          refine z_aload_n C 0 0 dX12_round_117 rfl rfl ?_
          refine z_getR C ok_X12 (lay_c90 hL) 40 (113) (by decide) rfl (lay_r90_40 hL) q_fl_X12_77 dX12_round_118 ?_
          refine z_iload C 5 dX12_round_121 rfl ?_
          replace hf := gd_out hf
          obtain ⟨g69, hf⟩ := hf
          refine z_iald C (lay_c113 hL) (inb_in g69) dX12_round_123 ?_
          refine z_topi (fun v70 e71 => ?_)
          replace hf := bnd_out e71 hf
          refine z_istore C [(5, .int v70), (0, .ref (G.1 + 90)), (3, .int y25), (4, .int y26), (6, .int y28), (7, .int y29)] dX12_round_124 (by decide) rfl rfl ?_
          refine z_lv (lv2 := [(0, .ref (G.1 + 90)), (3, .int y25), (4, .int y26), (5, .int v70), (6, .int y28), (7, .int y29)]) [1, 2, 3, 0, 4, 5] rfl ?_
          refine wX12_round_j126 C hs0 hL _ pp ?_ M24 y25 y26 v70 y28 y29 hf
          · intro M72 y73 y74 y75 y76 y77 hf
            exact ih M72 y73 y74 y75 y76 y77  hf
set_option maxHeartbeats 4000000 in
set_option maxRecDepth 100000 in
theorem wX12_round_j74 (C : CX p s m args meth c cX12_round 8 (some .int) RX12 G) (hs0 : s.heap.size = G.1 + K.1) (hL : Lay K)   (pp : (Int32 × MM))  (M20 : MM) (y21 : Int32) (y22 : Int32) (y23 : Int32) (hf : fX12_round_j74 M20 y21 y22 y23 = some pp) : Z p l e (rmo 4 0 0) s m args below meth c 8 G (MQ below (QC G (some (.int pp.1)) K pp.2) args s 0 0 (AG G)) K 0 0 M20 74 [(0, .ref (G.1 + 90)), (3, .int y21), (4, .int y22)] [.int y23] := by
  unfold fX12_round_j74 at hf
  refine z_istore C [(5, .int y23), (0, .ref (G.1 + 90)), (3, .int y21), (4, .int y22)] dX12_round_74 (by decide) rfl rfl ?_
  refine z_iconst C 0 dX12_round_76 (by decide) ?_
  refine z_istore C [(6, .int 0), (5, .int y23), (0, .ref (G.1 + 90)), (3, .int y21), (4, .int y22)] dX12_round_77 (by decide) rfl rfl ?_
  refine z_bipush C 8 dX12_round_79 (by decide) ?_
  refine z_istore C [(7, .int 8), (6, .int 0), (5, .int y23), (0, .ref (G.1 + 90)), (3, .int y21), (4, .int y22)] dX12_round_81 (by decide) rfl rfl ?_
  refine z_lv (lv2 := [(0, .ref (G.1 + 90)), (3, .int y21), (4, .int y22), (5, .int y23), (6, .int 0), (7, .int 8)]) [3, 4, 5, 2, 1, 0] rfl ?_
  refine wX12_round_l83 C hs0 hL _ pp ?_ FU M20 y21 y22 y23 0 8 hf
  · intro M78 y79 y80 y81 hf
    refine z_iload_n C 0 3 dX12_round_166 rfl rfl ?_
    refine z_iconst C (-1) dX12_round_167 (by decide) ?_
    refine z_icmp_eq C 176 dX12_round_168 (by decide) (fun c82 => ?_) (fun c82 => ?_)
    · replace hf := ite_t c82 hf
      refine z_iload C 1 dX12_round_176 rfl ?_
      refine z_sipush C 9999 dX12_round_178 (by decide) ?_
      refine z_icmp_ne C 188 dX12_round_181 (by decide) (fun c83 => ?_) (fun c83 => ?_)
      · replace hf := ite_f c83 hf
        refine z_iload C 1 dX12_round_188 rfl ?_
        cases hf
        exact z_iret C rfl dX12_round_190
      · replace hf := ite_t c83 hf
        refine z_iconst C (-1) dX12_round_184 (by decide) ?_
        refine z_goto C 190 dX12_round_185 (by decide) ?_
        cases hf
        exact z_iret C rfl dX12_round_190
    · replace hf := ite_f c82 hf
      refine z_iload C 2 dX12_round_171 rfl ?_
      refine z_goto C 190 dX12_round_173 (by decide) ?_
      cases hf
      exact z_iret C rfl dX12_round_190
set_option maxHeartbeats 4000000 in
set_option maxRecDepth 100000 in
theorem tX12_round (l : Launch) (G : GG) {K : SK} (hL : Lay K) (M : MM) (x1 : Int32) (x2 : Int32) (x3 : Int32) (pp : (Int32 × MM)) (hf : fX12_round M x1 x2 x3 = some pp) : Ct l yX12_round cX12_round 8 (some .int) 4 0 0 G K M [.ref (G.1 + 90), .int x1, .int x2, .int x3] (some (.int pp.1)) K pp.2 := by
  refine z_enter (lv := [(0, .ref (G.1 + 90)), (1, .int x1), (2, .int x2), (3, .int x3)]) (by decide +kernel) (Nat.le_of_ble_eq_true rfl) rfl ?_
  intro p e s m args below meth c C hnm hs0
  replace C : CX p s m args meth c cX12_round 8 (some .int) RX12 G := C
  unfold fX12_round at hf
  refine z_aload_n C 0 0 dX12_round_0 rfl rfl ?_
  refine z_iload_n C 1 1 dX12_round_1 rfl rfl ?_
  replace hf := bd_out hf
  obtain ⟨p1, e2, hf⟩ := hf
  refine z_cV1 C [] (tX12_isParish l G hL M x1 _ e2) lk_X12_isParish ok_X12 (lay_c90 hL) q_ml_X12_225 rfl ⟨Nat.le_of_ble_eq_true rfl, Nat.le_of_ble_eq_true rfl⟩ rfl (Nat.le_of_ble_eq_true rfl) ⟨Nat.le_refl _, Nat.le_refl _⟩ dX12_round_2 ?_
  refine z_if_eq C 38 dX12_round_5 (by decide) (fun c3 => ?_) (fun c3 => ?_)
  · replace hf := ite_t c3 hf
    refine z_bipush C (-2) dX12_round_38 (by decide) ?_
    cases hf
    exact z_iret C rfl dX12_round_40
  · replace hf := ite_f c3 hf
    refine z_aload_n C 0 0 dX12_round_8 rfl rfl ?_
    refine z_iload_n C 2 2 dX12_round_9 rfl rfl ?_
    replace hf := bd_out hf
    obtain ⟨p4, e5, hf⟩ := hf
    refine z_cV1 C [] (tX12_isSquare l G hL p1.2 x2 _ e5) lk_X12_isSquare ok_X12 (lay_c90 hL) q_ml_X12_237 rfl ⟨Nat.le_of_ble_eq_true rfl, Nat.le_of_ble_eq_true rfl⟩ rfl (Nat.le_of_ble_eq_true rfl) ⟨Nat.le_refl _, Nat.le_refl _⟩ dX12_round_10 ?_
    refine z_if_eq C 38 dX12_round_13 (by decide) (fun c6 => ?_) (fun c6 => ?_)
    · replace hf := ite_t c6 hf
      refine z_bipush C (-2) dX12_round_38 (by decide) ?_
      cases hf
      exact z_iret C rfl dX12_round_40
    · replace hf := ite_f c6 hf
      refine z_aload_n C 0 0 dX12_round_16 rfl rfl ?_
      refine z_aload_n C 0 0 dX12_round_17 rfl rfl ?_
      refine z_iload_n C 2 2 dX12_round_18 rfl rfl ?_
      replace hf := bd_out hf
      obtain ⟨p7, e8, hf⟩ := hf
      refine z_cV1 C [.ref (G.1 + 90)] (tX12_inside l G hL p1.2 x2 _ e8) lk_X12_inside ok_X12 (lay_c90 hL) q_ml_X12_240 rfl ⟨Nat.le_of_ble_eq_true rfl, Nat.le_of_ble_eq_true rfl⟩ rfl (Nat.le_of_ble_eq_true rfl) ⟨Nat.le_refl _, Nat.le_refl _⟩ dX12_round_19 ?_
      replace hf := bd_out hf
      obtain ⟨p9, e10, hf⟩ := hf
      refine z_cV1 C [] (tX12_isWall l G hL p1.2 p7 _ e10) lk_X12_isWall ok_X12 (lay_c90 hL) q_ml_X12_343 rfl ⟨Nat.le_of_ble_eq_true rfl, Nat.le_of_ble_eq_true rfl⟩ rfl (Nat.le_of_ble_eq_true rfl) ⟨Nat.le_refl _, Nat.le_refl _⟩ dX12_round_22 ?_
      refine z_if_ne C 38 dX12_round_25 (by decide) (fun c11 => ?_) (fun c11 => ?_)
      · replace hf := ite_f c11 hf
        refine z_bipush C (-2) dX12_round_38 (by decide) ?_
        cases hf
        exact z_iret C rfl dX12_round_40
      · replace hf := ite_t c11 hf
        refine z_iload_n C 3 3 dX12_round_28 rfl rfl ?_
        refine z_iconst C (-1) dX12_round_29 (by decide) ?_
        refine z_bipush C 99 dX12_round_30 (by decide) ?_
        refine z_cS1 C [] (tX12_isIn l G hL p1.2 x3 (-1) 99) lk_X12_isIn q_ml_X12_141 rfl ⟨Nat.le_of_ble_eq_true rfl, Nat.le_of_ble_eq_true rfl⟩ rfl (Nat.le_of_ble_eq_true rfl) ⟨Nat.le_refl _, Nat.le_refl _⟩ dX12_round_32 ?_
        refine z_if_ne C 41 dX12_round_35 (by decide) (fun c12 => ?_) (fun c12 => ?_)
        · replace hf := ite_f c12 hf
          refine z_aload_n C 0 0 dX12_round_41 rfl rfl ?_
          refine z_aload_n C 0 0 dX12_round_42 rfl rfl ?_
          refine z_iload_n C 2 2 dX12_round_43 rfl rfl ?_
          replace hf := bd_out hf
          obtain ⟨p13, e14, hf⟩ := hf
          refine z_cV1 C [.ref (G.1 + 90)] (tX12_inside l G hL p1.2 x2 _ e14) lk_X12_inside ok_X12 (lay_c90 hL) q_ml_X12_240 rfl ⟨Nat.le_of_ble_eq_true rfl, Nat.le_of_ble_eq_true rfl⟩ rfl (Nat.le_of_ble_eq_true rfl) ⟨Nat.le_refl _, Nat.le_refl _⟩ dX12_round_44 ?_
          replace hf := bd_out hf
          obtain ⟨p15, e16, hf⟩ := hf
          refine z_cV0 C [] (tX12_laysRounds l G hL p1.2 p13 _ e16) lk_X12_laysRounds ok_X12 (lay_c90 hL) q_ml_X12_349 rfl ⟨Nat.le_of_ble_eq_true rfl, Nat.le_of_ble_eq_true rfl⟩ rfl (Nat.le_of_ble_eq_true rfl) ⟨Nat.le_refl _, Nat.le_refl _⟩ dX12_round_47 ?_
          refine z_iconst C 1 dX12_round_50 (by decide) ?_
          refine z_aload_n C 0 0 dX12_round_51 rfl rfl ?_
          refine z_getI C ok_X12 (lay_c90 hL) 14 (by decide) rfl q_fl_X12_216 dX12_round_52 ?_
          refine z_ishl C dX12_round_55 ?_
          refine z_iconst C 1 dX12_round_56 (by decide) ?_
          refine z_isub C dX12_round_57 ?_
          refine z_topi (fun v17 e18 => ?_)
          replace hf := bnd_out e18 hf
          refine z_istore C [(4, .int v17), (0, .ref (G.1 + 90)), (1, .int x1), (2, .int x2), (3, .int x3)] dX12_round_58 (by decide) rfl rfl ?_
          refine z_aload_n C 1 0 dX12_round_60 rfl rfl ?_
          refine z_getI C ok_X12 (lay_c90 hL) 14 (by decide) rfl q_fl_X12_216 dX12_round_61 ?_
          refine z_if_ne C 71 dX12_round_64 (by decide) (fun c19 => ?_) (fun c19 => ?_)
          · replace hf := ite_f c19 hf
            refine z_sipush C 9999 dX12_round_71 (by decide) ?_
            refine z_lv (lv2 := [(0, .ref (G.1 + 90)), (3, .int x3), (4, .int v17)]) [1, 4, 0] rfl ?_
            exact wX12_round_j74 C hs0 hL pp p15 x3 v17 9999 hf
          · replace hf := ite_t c19 hf
            refine z_iconst C 0 dX12_round_67 (by decide) ?_
            refine z_goto C 74 dX12_round_68 (by decide) ?_
            refine z_lv (lv2 := [(0, .ref (G.1 + 90)), (3, .int x3), (4, .int v17)]) [1, 4, 0] rfl ?_
            exact wX12_round_j74 C hs0 hL pp p15 x3 v17 0 hf
        · replace hf := ite_t c12 hf
          refine z_bipush C (-2) dX12_round_38 (by decide) ?_
          cases hf
          exact z_iret C rfl dX12_round_40
set_option maxHeartbeats 4000000 in
set_option maxRecDepth 100000 in
theorem tX12_sight (l : Launch) (G : GG) {K : SK} (hL : Lay K) (M : MM) (x1 : Int32) (x2 : Int32) (pp : (Int32 × MM)) (hf : fX12_sight M x1 x2 = some pp) : Ct l yX12_sight cX12_sight 3 (some .int) 2 0 0 G K M [.ref (G.1 + 90), .int x1, .int x2] (some (.int pp.1)) K pp.2 := by
  refine z_enter (lv := [(0, .ref (G.1 + 90)), (1, .int x1), (2, .int x2)]) (by decide +kernel) (Nat.le_of_ble_eq_true rfl) rfl ?_
  intro p e s m args below meth c C hnm hs0
  replace C : CX p s m args meth c cX12_sight 3 (some .int) RX12 G := C
  unfold fX12_sight at hf
  refine z_aload_n C 0 0 dX12_sight_0 rfl rfl ?_
  refine z_iconst C 3 dX12_sight_1 (by decide) ?_
  refine z_iload_n C 1 1 dX12_sight_2 rfl rfl ?_
  replace hf := bd_out hf
  obtain ⟨p1, e2, hf⟩ := hf
  refine z_cV1 C [] (tX12_isOf l G hL M 3 x1 _ e2) lk_X12_isOf ok_X12 (lay_c90 hL) q_ml_X12_179 rfl ⟨Nat.le_of_ble_eq_true rfl, Nat.le_of_ble_eq_true rfl⟩ rfl (Nat.le_of_ble_eq_true rfl) ⟨Nat.le_refl _, Nat.le_refl _⟩ dX12_sight_3 ?_
  refine z_if_ne C 12 dX12_sight_6 (by decide) (fun c3 => ?_) (fun c3 => ?_)
  · replace hf := ite_f c3 hf
    refine z_aload_n C 0 0 dX12_sight_12 rfl rfl ?_
    refine z_iconst C 3 dX12_sight_13 (by decide) ?_
    refine z_iload_n C 1 1 dX12_sight_14 rfl rfl ?_
    refine z_cS1 C [.ref (G.1 + 90)] (tX12_placeOf l G hL M 3 x1) lk_X12_placeOf q_ml_X12_204 rfl ⟨Nat.le_of_ble_eq_true rfl, Nat.le_of_ble_eq_true rfl⟩ rfl (Nat.le_of_ble_eq_true rfl) ⟨Nat.le_refl _, Nat.le_refl _⟩ dX12_sight_15 ?_
    refine z_putI C ok_X12 (lay_c90 hL) 41 (by decide) rfl rfl rfl rfl q_fl_X12_355 dX12_sight_18 ?_
    refine z_M (fun M4 e5 => ?_)
    replace hf := bnd_out e5 hf
    refine z_iload_n C 2 2 dX12_sight_21 rfl rfl ?_
    refine z_if_ne C 37 dX12_sight_22 (by decide) (fun c6 => ?_) (fun c6 => ?_)
    · replace hf := ite_f c6 hf
      refine z_iload_n C 2 2 dX12_sight_37 rfl rfl ?_
      refine z_bipush C 10 dX12_sight_38 (by decide) ?_
      refine z_bipush C 17 dX12_sight_40 (by decide) ?_
      refine z_cS1 C [] (tX12_isIn l G hL M4 x2 10 17) lk_X12_isIn q_ml_X12_141 rfl ⟨Nat.le_of_ble_eq_true rfl, Nat.le_of_ble_eq_true rfl⟩ rfl (Nat.le_of_ble_eq_true rfl) ⟨Nat.le_refl _, Nat.le_refl _⟩ dX12_sight_42 ?_
      refine z_if_eq C 69 dX12_sight_45 (by decide) (fun c7 => ?_) (fun c7 => ?_)
      · replace hf := ite_t c7 hf
        refine z_bipush C (-2) dX12_sight_69 (by decide) ?_
        cases hf
        exact z_iret C rfl dX12_sight_71
      · replace hf := ite_f c7 hf
        refine z_aload_n C 0 0 dX12_sight_48 rfl rfl ?_
        refine z_getR C ok_X12 (lay_c90 hL) 0 (91) (by decide) rfl (lay_r90_0 hL) q_fl_X12_7 dX12_sight_49 ?_
        refine z_aload_n C 0 0 dX12_sight_52 rfl rfl ?_
        refine z_getI C ok_X12 (lay_c90 hL) 41 (by decide) rfl q_fl_X12_355 dX12_sight_53 ?_
        refine z_iconst C 1 dX12_sight_56 (by decide) ?_
        refine z_iadd C dX12_sight_57 ?_
        refine z_iload_n C 2 2 dX12_sight_58 rfl rfl ?_
        refine z_iadd C dX12_sight_59 ?_
        refine z_bipush C 10 dX12_sight_60 (by decide) ?_
        refine z_isub C dX12_sight_62 ?_
        replace hf := gd_out hf
        obtain ⟨g8, hf⟩ := hf
        refine z_iald C (lay_c91 hL) (inb_in g8) dX12_sight_63 ?_
        refine z_iconst C 1 dX12_sight_64 (by decide) ?_
        refine z_isub C dX12_sight_65 ?_
        refine z_goto C 71 dX12_sight_66 (by decide) ?_
        cases hf
        exact z_iret C rfl dX12_sight_71
    · replace hf := ite_t c6 hf
      refine z_aload_n C 0 0 dX12_sight_25 rfl rfl ?_
      refine z_getR C ok_X12 (lay_c90 hL) 0 (91) (by decide) rfl (lay_r90_0 hL) q_fl_X12_7 dX12_sight_26 ?_
      refine z_aload_n C 0 0 dX12_sight_29 rfl rfl ?_
      refine z_getI C ok_X12 (lay_c90 hL) 41 (by decide) rfl q_fl_X12_355 dX12_sight_30 ?_
      replace hf := gd_out hf
      obtain ⟨g9, hf⟩ := hf
      refine z_iald C (lay_c91 hL) (inb_in g9) dX12_sight_33 ?_
      refine z_goto C 71 dX12_sight_34 (by decide) ?_
      cases hf
      exact z_iret C rfl dX12_sight_71
  · replace hf := ite_t c3 hf
    refine z_bipush C (-2) dX12_sight_9 (by decide) ?_
    cases hf
    exact z_iret C rfl dX12_sight_11
set_option maxHeartbeats 4000000 in
set_option maxRecDepth 100000 in
theorem wX12_unlike_j44 (C : CX p s m args meth c cX12_unlike 6 (some .int) RX12 G) (hs0 : s.heap.size = G.1 + K.1) (hL : Lay K)  (k2 : MM → Int32 → Int32 → Option (Int32 × MM)) (pp : (Int32 × MM)) (hk2 : ∀ (M15 : MM) (y16 : Int32) (y17 : Int32), k2 M15 y16 y17 = some pp → Z p l e (rmo 4 0 0) s m args below meth c 6 G (MQ below (QC G (some (.int pp.1)) K pp.2) args s 0 0 (AG G)) K 0 0 M15 2 [(0, .ref (G.1 + 90)), (1, .int y16), (2, .int y17)] []) (M7 : MM) (y8 : Int32) (y9 : Int32) (y10 : Int32) (y11 : Int32) (hf : fX12_unlike_j44 k2 M7 y8 y9 y10 y11 = some pp) : Z p l e (rmo 4 0 0) s m args below meth c 6 G (MQ below (QC G (some (.int pp.1)) K pp.2) args s 0 0 (AG G)) K 0 0 M7 44 [(0, .ref (G.1 + 90)), (1, .int y8), (2, .int y9)] [.int y11, .int y10, .ref (G.1 + 94)] := by
  unfold fX12_unlike_j44 at hf
  replace hf := gd_out hf
  obtain ⟨g12, hf⟩ := hf
  refine z_iast C (lay_c94 hL) (inb_in g12) dX12_unlike_44 ?_
  refine z_M (fun M13 e14 => ?_)
  replace hf := bnd_out e14 hf
  refine z_iinc C 2 (y9 + 1) [(2, .int (y9 + 1)), (0, .ref (G.1 + 90)), (1, .int y8)] dX12_unlike_45 rfl rfl (by decide) rfl rfl ?_
  refine z_goto C 2 dX12_unlike_48 (by decide) ?_
  refine z_lv (lv2 := [(0, .ref (G.1 + 90)), (1, .int y8), (2, .int (y9 + 1))]) [1, 2, 0] rfl ?_
  exact hk2 M13 y8 (y9 + 1)  hf
set_option maxHeartbeats 4000000 in
set_option maxRecDepth 100000 in
theorem wX12_unlike_l2 (C : CX p s m args meth c cX12_unlike 6 (some .int) RX12 G) (hs0 : s.heap.size = G.1 + K.1) (hL : Lay K)  (k51 : MM → Option (Int32 × MM)) (pp : (Int32 × MM)) (hk51 : ∀ (M5 : MM), k51 M5 = some pp → Z p l e (rmo 4 0 0) s m args below meth c 6 G (MQ below (QC G (some (.int pp.1)) K pp.2) args s 0 0 (AG G)) K 0 0 M5 51 [(0, .ref (G.1 + 90))] []) : ∀ (n : Nat) (M1 : MM) (y2 : Int32) (y3 : Int32) (hf : fX12_unlike_l2 k51 n M1 y2 y3 = some pp), Z p l e (rmo 4 0 0) s m args below meth c 6 G (MQ below (QC G (some (.int pp.1)) K pp.2) args s 0 0 (AG G)) K 0 0 M1 2 [(0, .ref (G.1 + 90)), (1, .int y2), (2, .int y3)] [] := by
  intro n
  induction n with
  | zero => intro M1 y2 y3 hf; exact nomatch (show (none : Option (Int32 × MM)) = some pp from hf)
  | succ n ih =>
    intro M1 y2 y3 hf
    rw [fX12_unlike_l2.eq_2] at hf
    refine z_iload_n C 2 2 dX12_unlike_2 rfl rfl ?_
    refine z_aload_n C 0 0 dX12_unlike_3 rfl rfl ?_
    refine z_getI C ok_X12 (lay_c90 hL) 13 (by decide) rfl q_fl_X12_213 dX12_unlike_4 ?_
    refine z_icmp_ge C 51 dX12_unlike_7 (by decide) (fun c4 => ?_) (fun c4 => ?_)
    · replace hf := ite_t c4 hf
      refine z_lv (lv2 := [(0, .ref (G.1 + 90))]) [0] rfl ?_
      exact hk51 M1  hf
    · replace hf := ite_f c4 hf
      refine z_aload_n C 0 0 dX12_unlike_10 rfl rfl ?_
      refine z_getR C ok_X12 (lay_c90 hL) 15 (94) (by decide) rfl (lay_r90_15 hL) q_fl_X12_20 dX12_unlike_11 ?_
      refine z_iload_n C 2 2 dX12_unlike_14 rfl rfl ?_
      refine z_iload_n C 1 1 dX12_unlike_15 rfl rfl ?_
      refine z_iload_n C 2 2 dX12_unlike_16 rfl rfl ?_
      refine z_ishr C dX12_unlike_17 ?_
      refine z_iconst C 1 dX12_unlike_18 (by decide) ?_
      refine z_iand C dX12_unlike_19 ?_
      refine z_iconst C 1 dX12_unlike_20 (by decide) ?_
      refine z_icmp_ne C 43 dX12_unlike_21 (by decide) (fun c6 => ?_) (fun c6 => ?_)
      · replace hf := ite_f c6 hf
        refine z_iconst C (-1) dX12_unlike_43 (by decide) ?_
        refine wX12_unlike_j44 C hs0 hL _ pp ?_ M1 y2 y3 y3 (-1) hf
        · intro M18 y19 y20 hf
          exact ih M18 y19 y20  hf
      · replace hf := ite_t c6 hf
        refine z_aload_n C 0 0 dX12_unlike_24 rfl rfl ?_
        refine z_getR C ok_X12 (lay_c90 hL) 0 (91) (by decide) rfl (lay_r90_0 hL) q_fl_X12_7 dX12_unlike_25 ?_
        refine z_aload_n C 0 0 dX12_unlike_28 rfl rfl ?_
        refine z_getI C ok_X12 (lay_c90 hL) 12 (by decide) rfl q_fl_X12_207 dX12_unlike_29 ?_
        refine z_bipush C 68 dX12_unlike_32 (by decide) ?_
        refine z_iadd C dX12_unlike_34 ?_
        refine z_iconst C 2 dX12_unlike_35 (by decide) ?_
        refine z_iload_n C 2 2 dX12_unlike_36 rfl rfl ?_
        refine z_imul C dX12_unlike_37 ?_
        refine z_iadd C dX12_unlike_38 ?_
        replace hf := gd_out hf
        obtain ⟨g21, hf⟩ := hf
        refine z_iald C (lay_c91 hL) (inb_in g21) dX12_unlike_39 ?_
        refine z_goto C 44 dX12_unlike_40 (by decide) ?_
        refine wX12_unlike_j44 C hs0 hL _ pp ?_ M1 y2 y3 y3 (gI M1 91 (ix (((gI M1 90 12) + 68) + (2 * y3)))) hf
        · intro M22 y23 y24 hf
          exact ih M22 y23 y24  hf
set_option maxHeartbeats 4000000 in
set_option maxRecDepth 100000 in
theorem wX12_unlike_j118 (C : CX p s m args meth c cX12_unlike 6 (some .int) RX12 G) (hs0 : s.heap.size = G.1 + K.1) (hL : Lay K)  (k59 : MM → Int32 → Int32 → Option (Int32 × MM)) (pp : (Int32 × MM)) (hk59 : ∀ (M47 : MM) (y48 : Int32) (y49 : Int32), k59 M47 y48 y49 = some pp → Z p l e (rmo 4 0 0) s m args below meth c 6 G (MQ below (QC G (some (.int pp.1)) K pp.2) args s 0 0 (AG G)) K 0 0 M47 59 [(0, .ref (G.1 + 90)), (2, .int y48), (3, .int y49)] []) (M41 : MM) (y42 : Int32) (y43 : Int32) (y44 : Int32) (hf : fX12_unlike_j118 k59 M41 y42 y43 y44 = some pp) : Z p l e (rmo 4 0 0) s m args below meth c 6 G (MQ below (QC G (some (.int pp.1)) K pp.2) args s 0 0 (AG G)) K 0 0 M41 118 [(0, .ref (G.1 + 90)), (3, .int y42)] [.int y44, .int y43] := by
  unfold fX12_unlike_j118 at hf
  refine z_iadd C dX12_unlike_118 ?_
  refine z_topi (fun v45 e46 => ?_)
  replace hf := bnd_out e46 hf
  refine z_istore_n C [(2, .int v45), (0, .ref (G.1 + 90)), (3, .int y42)] dX12_unlike_119 rfl (by decide) rfl rfl ?_
  refine z_iinc C 2 (y42 + 1) [(3, .int (y42 + 1)), (2, .int v45), (0, .ref (G.1 + 90))] dX12_unlike_120 rfl rfl (by decide) rfl rfl ?_
  refine z_goto C 59 dX12_unlike_123 (by decide) ?_
  refine z_lv (lv2 := [(0, .ref (G.1 + 90)), (2, .int v45), (3, .int (y42 + 1))]) [2, 1, 0] rfl ?_
  exact hk59 M41 v45 (y42 + 1)  hf
set_option maxHeartbeats 4000000 in
set_option maxRecDepth 100000 in
theorem wX12_unlike_l59 (C : CX p s m args meth c cX12_unlike 6 (some .int) RX12 G) (hs0 : s.heap.size = G.1 + K.1) (hL : Lay K)   (pp : (Int32 × MM))  : ∀ (n : Nat) (M28 : MM) (y29 : Int32) (y30 : Int32) (hf : fX12_unlike_l59 n M28 y29 y30 = some pp), Z p l e (rmo 4 0 0) s m args below meth c 6 G (MQ below (QC G (some (.int pp.1)) K pp.2) args s 0 0 (AG G)) K 0 0 M28 59 [(0, .ref (G.1 + 90)), (2, .int y29), (3, .int y30)] [] := by
  intro n
  induction n with
  | zero => intro M28 y29 y30 hf; exact nomatch (show (none : Option (Int32 × MM)) = some pp from hf)
  | succ n ih =>
    intro M28 y29 y30 hf
    rw [fX12_unlike_l59.eq_2] at hf
    refine z_iload_n C 2 3 dX12_unlike_59 rfl rfl ?_
    refine z_aload_n C 0 0 dX12_unlike_60 rfl rfl ?_
    refine z_getI C ok_X12 (lay_c90 hL) 14 (by decide) rfl q_fl_X12_216 dX12_unlike_61 ?_
    refine z_icmp_ge C 126 dX12_unlike_64 (by decide) (fun c31 => ?_) (fun c31 => ?_)
    · replace hf := ite_t c31 hf
      refine z_iload_n C 1 2 dX12_unlike_126 rfl rfl ?_
      cases hf
      exact z_iret C rfl dX12_unlike_127
    · replace hf := ite_f c31 hf
      refine z_aload_n C 0 0 dX12_unlike_67 rfl rfl ?_
      refine z_getR C ok_X12 (lay_c90 hL) 0 (91) (by decide) rfl (lay_r90_0 hL) q_fl_X12_7 dX12_unlike_68 ?_
      refine z_aload_n C 0 0 dX12_unlike_71 rfl rfl ?_
      refine z_getI C ok_X12 (lay_c90 hL) 41 (by decide) rfl q_fl_X12_355 dX12_unlike_72 ?_
      refine z_iconst C 1 dX12_unlike_75 (by decide) ?_
      refine z_iadd C dX12_unlike_76 ?_
      refine z_iload_n C 2 3 dX12_unlike_77 rfl rfl ?_
      refine z_iadd C dX12_unlike_78 ?_
      replace hf := gd_out hf
      obtain ⟨g32, hf⟩ := hf
      refine z_iald C (lay_c91 hL) (inb_in g32) dX12_unlike_79 ?_
      refine z_iconst C 1 dX12_unlike_80 (by decide) ?_
      refine z_isub C dX12_unlike_81 ?_
      refine z_topi (fun v33 e34 => ?_)
      replace hf := bnd_out e34 hf
      refine z_istore C [(4, .int v33), (0, .ref (G.1 + 90)), (2, .int y29), (3, .int y30)] dX12_unlike_82 (by decide) rfl rfl ?_
      refine z_aload_n C 1 0 dX12_unlike_84 rfl rfl ?_
      refine z_iload_n C 3 3 dX12_unlike_85 rfl rfl ?_
      replace hf := bd_out hf
      obtain ⟨p35, e36, hf⟩ := hf
      refine z_cV1 C [] (tX12_countOf l G hL M28 y30 _ e36) lk_X12_countOf ok_X12 (lay_c90 hL) q_ml_X12_276 rfl ⟨Nat.le_of_ble_eq_true rfl, Nat.le_of_ble_eq_true rfl⟩ rfl (Nat.le_of_ble_eq_true rfl) ⟨Nat.le_refl _, Nat.le_refl _⟩ dX12_unlike_86 ?_
      refine z_iload C 0 dX12_unlike_89 rfl ?_
      refine z_isub C dX12_unlike_91 ?_
      refine z_topi (fun v37 e38 => ?_)
      replace hf := bnd_out e38 hf
      refine z_istore C [(5, .int v37), (4, .int v33), (0, .ref (G.1 + 90)), (2, .int y29), (3, .int y30)] dX12_unlike_92 (by decide) rfl rfl ?_
      refine z_iload_n C 3 2 dX12_unlike_94 rfl rfl ?_
      refine z_iload C 1 dX12_unlike_95 rfl ?_
      refine z_iconst C (-1) dX12_unlike_97 (by decide) ?_
      refine z_icmp_ne C 105 dX12_unlike_98 (by decide) (fun c39 => ?_) (fun c39 => ?_)
      · replace hf := ite_f c39 hf
        refine z_iload C 0 dX12_unlike_105 rfl ?_
        refine z_if_ge C 116 dX12_unlike_107 (by decide) (fun c40 => ?_) (fun c40 => ?_)
        · replace hf := ite_t c40 hf
          refine z_iload C 0 dX12_unlike_116 rfl ?_
          refine z_lv (lv2 := [(0, .ref (G.1 + 90)), (3, .int y30)]) [2, 4] rfl ?_
          refine wX12_unlike_j118 C hs0 hL _ pp ?_ M28 y30 y29 v37 hf
          · intro M50 y51 y52 hf
            exact ih M50 y51 y52  hf
        · replace hf := ite_f c40 hf
          refine z_iload C 0 dX12_unlike_110 rfl ?_
          refine z_ineg C dX12_unlike_112 ?_
          refine z_goto C 118 dX12_unlike_113 (by decide) ?_
          refine z_lv (lv2 := [(0, .ref (G.1 + 90)), (3, .int y30)]) [2, 4] rfl ?_
          refine wX12_unlike_j118 C hs0 hL _ pp ?_ M28 y30 y29 (-v37) hf
          · intro M53 y54 y55 hf
            exact ih M53 y54 y55  hf
      · replace hf := ite_t c39 hf
        refine z_iconst C 0 dX12_unlike_101 (by decide) ?_
        refine z_goto C 118 dX12_unlike_102 (by decide) ?_
        refine z_lv (lv2 := [(0, .ref (G.1 + 90)), (3, .int y30)]) [2, 4] rfl ?_
        refine wX12_unlike_j118 C hs0 hL _ pp ?_ M28 y30 y29 0 hf
        · intro M56 y57 y58 hf
          exact ih M56 y57 y58  hf
set_option maxHeartbeats 4000000 in
set_option maxRecDepth 100000 in
theorem tX12_unlike (l : Launch) (G : GG) {K : SK} (hL : Lay K) (M : MM) (x1 : Int32) (pp : (Int32 × MM)) (hf : fX12_unlike M x1 = some pp) : Ct l yX12_unlike cX12_unlike 6 (some .int) 4 0 0 G K M [.ref (G.1 + 90), .int x1] (some (.int pp.1)) K pp.2 := by
  refine z_enter (lv := [(0, .ref (G.1 + 90)), (1, .int x1)]) (by decide +kernel) (Nat.le_of_ble_eq_true rfl) rfl ?_
  intro p e s m args below meth c C hnm hs0
  replace C : CX p s m args meth c cX12_unlike 6 (some .int) RX12 G := C
  unfold fX12_unlike at hf
  refine z_iconst C 0 dX12_unlike_0 (by decide) ?_
  refine z_istore_n C [(2, .int 0), (0, .ref (G.1 + 90)), (1, .int x1)] dX12_unlike_1 rfl (by decide) rfl rfl ?_
  refine z_lv (lv2 := [(0, .ref (G.1 + 90)), (1, .int x1), (2, .int 0)]) [1, 2, 0] rfl ?_
  refine wX12_unlike_l2 C hs0 hL _ pp ?_ FU M x1 0 hf
  · intro M25 hf
    refine z_aload_n C 0 0 dX12_unlike_51 rfl rfl ?_
    replace hf := bd_out hf
    obtain ⟨p26, e27, hf⟩ := hf
    refine z_cV0 C [] (tX12_laysOut l G hL M25  _ e27) lk_X12_laysOut ok_X12 (lay_c90 hL) q_ml_X12_258 rfl ⟨Nat.le_of_ble_eq_true rfl, Nat.le_of_ble_eq_true rfl⟩ rfl (Nat.le_of_ble_eq_true rfl) ⟨Nat.le_refl _, Nat.le_refl _⟩ dX12_unlike_52 ?_
    refine z_iconst C 0 dX12_unlike_55 (by decide) ?_
    refine z_istore_n C [(2, .int 0), (0, .ref (G.1 + 90))] dX12_unlike_56 rfl (by decide) rfl rfl ?_
    refine z_iconst C 0 dX12_unlike_57 (by decide) ?_
    refine z_istore_n C [(3, .int 0), (2, .int 0), (0, .ref (G.1 + 90))] dX12_unlike_58 rfl (by decide) rfl rfl ?_
    refine z_lv (lv2 := [(0, .ref (G.1 + 90)), (2, .int 0), (3, .int 0)]) [2, 1, 0] rfl ?_
    exact wX12_unlike_l59 C hs0 hL pp FU p26 0 0 hf
set_option maxHeartbeats 4000000 in
set_option maxRecDepth 100000 in
theorem wX12_next_j71 (C : CX p s m args meth c cX12_next 7 (some .int) RX12 G) (hs0 : s.heap.size = G.1 + K.1) (hL : Lay K) (M : MM) (k28 : Int32 → Int32 → Int32 → Int32 → Int32 → Option Int32) (pp : Int32) (hk28 : ∀ (y23 : Int32) (y24 : Int32) (y25 : Int32) (y26 : Int32) (y27 : Int32), k28 y23 y24 y25 y26 y27 = some pp → Z p l e (rmo 0 0 0) s m args below meth c 7 G (MQ below (QC G (some (.int pp)) K M) args s 0 0 (AG G)) K 0 0 M 28 [(0, .ref (G.1 + 90)), (2, .int y23), (3, .int y24), (4, .int y25), (5, .int y26), (6, .int y27)] []) (y18 : Int32) (y19 : Int32) (y20 : Int32) (y21 : Int32) (y22 : Int32) (hf : fX12_next_j71 M k28 y18 y19 y20 y21 y22 = some pp) : Z p l e (rmo 0 0 0) s m args below meth c 7 G (MQ below (QC G (some (.int pp)) K M) args s 0 0 (AG G)) K 0 0 M 71 [(0, .ref (G.1 + 90)), (2, .int y18), (3, .int y19), (4, .int y20), (6, .int y21)] [.int y22] := by
  unfold fX12_next_j71 at hf
  refine z_istore C [(5, .int y22), (0, .ref (G.1 + 90)), (2, .int y18), (3, .int y19), (4, .int y20), (6, .int y21)] dX12_next_71 (by decide) rfl rfl ?_
  refine z_iinc C 5 (y21 + 1) [(6, .int (y21 + 1)), (5, .int y22), (0, .ref (G.1 + 90)), (2, .int y18), (3, .int y19), (4, .int y20)] dX12_next_73 rfl rfl (by decide) rfl rfl ?_
  refine z_goto C 28 dX12_next_76 (by decide) ?_
  refine z_lv (lv2 := [(0, .ref (G.1 + 90)), (2, .int y18), (3, .int y19), (4, .int y20), (5, .int y22), (6, .int (y21 + 1))]) [2, 3, 4, 5, 1, 0] rfl ?_
  exact hk28 y18 y19 y20 y22 (y21 + 1)  hf
set_option maxHeartbeats 4000000 in
set_option maxRecDepth 100000 in
theorem wX12_next_l28 (C : CX p s m args meth c cX12_next 7 (some .int) RX12 G) (hs0 : s.heap.size = G.1 + K.1) (hL : Lay K) (M : MM) (k79 : Int32 → Int32 → Int32 → Int32 → Option Int32) (pp : Int32) (hk79 : ∀ (y12 : Int32) (y13 : Int32) (y14 : Int32) (y15 : Int32), k79 y12 y13 y14 y15 = some pp → Z p l e (rmo 0 0 0) s m args below meth c 7 G (MQ below (QC G (some (.int pp)) K M) args s 0 0 (AG G)) K 0 0 M 79 [(0, .ref (G.1 + 90)), (2, .int y12), (3, .int y13), (4, .int y14), (5, .int y15)] []) : ∀ (n : Nat) (y6 : Int32) (y7 : Int32) (y8 : Int32) (y9 : Int32) (y10 : Int32) (hf : fX12_next_l28 M k79 n y6 y7 y8 y9 y10 = some pp), Z p l e (rmo 0 0 0) s m args below meth c 7 G (MQ below (QC G (some (.int pp)) K M) args s 0 0 (AG G)) K 0 0 M 28 [(0, .ref (G.1 + 90)), (2, .int y6), (3, .int y7), (4, .int y8), (5, .int y9), (6, .int y10)] [] := by
  intro n
  induction n with
  | zero => intro y6 y7 y8 y9 y10 hf; exact nomatch (show (none : Option Int32) = some pp from hf)
  | succ n ih =>
    intro y6 y7 y8 y9 y10 hf
    rw [fX12_next_l28.eq_2] at hf
    refine z_iload C 5 dX12_next_28 rfl ?_
    refine z_bipush C 10 dX12_next_30 (by decide) ?_
    refine z_icmp_ge C 79 dX12_next_32 (by decide) (fun c11 => ?_) (fun c11 => ?_)
    · replace hf := ite_t c11 hf
      refine z_lv (lv2 := [(0, .ref (G.1 + 90)), (2, .int y6), (3, .int y7), (4, .int y8), (5, .int y9)]) [0, 1, 2, 3, 4] rfl ?_
      exact hk79 y6 y7 y8 y9  hf
    · replace hf := ite_f c11 hf
      refine z_aload_n C 0 0 dX12_next_35 rfl rfl ?_
      refine z_getR C ok_X12 (lay_c90 hL) 42 (114) (by decide) rfl (lay_r90_42 hL) q_fl_X12_80 dX12_next_36 ?_
      refine z_bipush C 10 dX12_next_39 (by decide) ?_
      refine z_iload C 3 dX12_next_41 rfl ?_
      refine z_imul C dX12_next_43 ?_
      refine z_iload C 5 dX12_next_44 rfl ?_
      refine z_iadd C dX12_next_46 ?_
      replace hf := gd_out hf
      obtain ⟨g16, hf⟩ := hf
      refine z_iald C (lay_c114 hL) (inb_in g16) dX12_next_47 ?_
      refine z_iload C 4 dX12_next_48 rfl ?_
      refine z_icmp_le C 69 dX12_next_50 (by decide) (fun c17 => ?_) (fun c17 => ?_)
      · replace hf := ite_t c17 hf
        refine z_iload C 4 dX12_next_69 rfl ?_
        refine z_lv (lv2 := [(0, .ref (G.1 + 90)), (2, .int y6), (3, .int y7), (4, .int y8), (6, .int y10)]) [0, 1, 2, 3, 5] rfl ?_
        refine wX12_next_j71 C hs0 hL M _ pp ?_ y6 y7 y8 y10 y9 hf
        · intro y28 y29 y30 y31 y32 hf
          exact ih y28 y29 y30 y31 y32  hf
      · replace hf := ite_f c17 hf
        refine z_aload_n C 0 0 dX12_next_53 rfl rfl ?_
        refine z_getR C ok_X12 (lay_c90 hL) 42 (114) (by decide) rfl (lay_r90_42 hL) q_fl_X12_80 dX12_next_54 ?_
        refine z_bipush C 10 dX12_next_57 (by decide) ?_
        refine z_iload C 3 dX12_next_59 rfl ?_
        refine z_imul C dX12_next_61 ?_
        refine z_iload C 5 dX12_next_62 rfl ?_
        refine z_iadd C dX12_next_64 ?_
        replace hf := gd_out hf
        obtain ⟨g33, hf⟩ := hf
        refine z_iald C (lay_c114 hL) (inb_in g33) dX12_next_65 ?_
        refine z_goto C 71 dX12_next_66 (by decide) ?_
        refine z_lv (lv2 := [(0, .ref (G.1 + 90)), (2, .int y6), (3, .int y7), (4, .int y8), (6, .int y10)]) [0, 1, 2, 3, 5] rfl ?_
        refine wX12_next_j71 C hs0 hL M _ pp ?_ y6 y7 y8 y10 (gI M 114 (ix ((10 * y8) + y10))) hf
        · intro y34 y35 y36 y37 y38 hf
          exact ih y34 y35 y36 y37 y38  hf
set_option maxHeartbeats 4000000 in
set_option maxRecDepth 100000 in
theorem wX12_next_j93 (C : CX p s m args meth c cX12_next 7 (some .int) RX12 G) (hs0 : s.heap.size = G.1 + K.1) (hL : Lay K) (M : MM) (k13 : Int32 → Int32 → Int32 → Option Int32) (pp : Int32) (hk13 : ∀ (y46 : Int32) (y47 : Int32) (y48 : Int32), k13 y46 y47 y48 = some pp → Z p l e (rmo 0 0 0) s m args below meth c 7 G (MQ below (QC G (some (.int pp)) K M) args s 0 0 (AG G)) K 0 0 M 13 [(0, .ref (G.1 + 90)), (2, .int y46), (3, .int y47), (4, .int y48)] []) (y44 : Int32) (y45 : Int32) (hf : fX12_next_j93 M k13 y44 y45 = some pp) : Z p l e (rmo 0 0 0) s m args below meth c 7 G (MQ below (QC G (some (.int pp)) K M) args s 0 0 (AG G)) K 0 0 M 93 [(0, .ref (G.1 + 90)), (4, .int y44), (5, .int y45)] [] := by
  unfold fX12_next_j93 at hf
  refine z_iload C 1 dX12_next_93 rfl ?_
  refine z_istore_n C [(2, .int y44), (0, .ref (G.1 + 90)), (4, .int y44), (5, .int y45)] dX12_next_95 rfl (by decide) rfl rfl ?_
  refine z_iload C 3 dX12_next_96 rfl ?_
  refine z_istore_n C [(3, .int y45), (2, .int y44), (0, .ref (G.1 + 90)), (4, .int y44), (5, .int y45)] dX12_next_98 rfl (by decide) rfl rfl ?_
  refine z_iinc C 3 (y44 + 1) [(4, .int (y44 + 1)), (3, .int y45), (2, .int y44), (0, .ref (G.1 + 90)), (5, .int y45)] dX12_next_99 rfl rfl (by decide) rfl rfl ?_
  refine z_goto C 13 dX12_next_102 (by decide) ?_
  refine z_lv (lv2 := [(0, .ref (G.1 + 90)), (2, .int y44), (3, .int y45), (4, .int (y44 + 1))]) [3, 2, 1, 0] rfl ?_
  exact hk13 y44 y45 (y44 + 1)  hf
set_option maxHeartbeats 4000000 in
set_option maxRecDepth 100000 in
theorem wX12_next_l13 (C : CX p s m args meth c cX12_next 7 (some .int) RX12 G) (hs0 : s.heap.size = G.1 + K.1) (hL : Lay K) (M : MM)  (pp : Int32)  : ∀ (n : Nat) (y2 : Int32) (y3 : Int32) (y4 : Int32) (hf : fX12_next_l13 M n y2 y3 y4 = some pp), Z p l e (rmo 0 0 0) s m args below meth c 7 G (MQ below (QC G (some (.int pp)) K M) args s 0 0 (AG G)) K 0 0 M 13 [(0, .ref (G.1 + 90)), (2, .int y2), (3, .int y3), (4, .int y4)] [] := by
  intro n
  induction n with
  | zero => intro y2 y3 y4 hf; exact nomatch (show (none : Option Int32) = some pp from hf)
  | succ n ih =>
    intro y2 y3 y4 hf
    rw [fX12_next_l13.eq_2] at hf
    refine z_iload C 3 dX12_next_13 rfl ?_
    refine z_aload_n C 0 0 dX12_next_15 rfl rfl ?_
    refine z_getI C ok_X12 (lay_c90 hL) 14 (by decide) rfl q_fl_X12_216 dX12_next_16 ?_
    refine z_icmp_ge C 105 dX12_next_19 (by decide) (fun c5 => ?_) (fun c5 => ?_)
    · replace hf := ite_t c5 hf
      refine z_iload_n C 1 2 dX12_next_105 rfl rfl ?_
      cases hf
      exact z_iret C rfl dX12_next_106
    · replace hf := ite_f c5 hf
      refine z_iconst C 0 dX12_next_22 (by decide) ?_
      refine z_istore C [(5, .int 0), (0, .ref (G.1 + 90)), (2, .int y2), (3, .int y3), (4, .int y4)] dX12_next_23 (by decide) rfl rfl ?_
      refine z_iconst C 0 dX12_next_25 (by decide) ?_
      refine z_istore C [(6, .int 0), (5, .int 0), (0, .ref (G.1 + 90)), (2, .int y2), (3, .int y3), (4, .int y4)] dX12_next_26 (by decide) rfl rfl ?_
      refine z_lv (lv2 := [(0, .ref (G.1 + 90)), (2, .int y2), (3, .int y3), (4, .int y4), (5, .int 0), (6, .int 0)]) [2, 3, 4, 5, 1, 0] rfl ?_
      refine wX12_next_l28 C hs0 hL M _ pp ?_ FU y2 y3 y4 0 0 hf
      · intro y39 y40 y41 y42 hf
        refine z_iload_n C 1 2 dX12_next_79 rfl rfl ?_
        refine z_iconst C (-1) dX12_next_80 (by decide) ?_
        refine z_icmp_eq C 93 dX12_next_81 (by decide) (fun c43 => ?_) (fun c43 => ?_)
        · replace hf := ite_t c43 hf
          refine z_lv (lv2 := [(0, .ref (G.1 + 90)), (4, .int y41), (5, .int y42)]) [0, 3, 4] rfl ?_
          refine wX12_next_j93 C hs0 hL M _ pp ?_ y41 y42 hf
          · intro y49 y50 y51 hf
            exact ih y49 y50 y51  hf
        · replace hf := ite_f c43 hf
          refine z_iload C 4 dX12_next_84 rfl ?_
          refine z_iload_n C 2 3 dX12_next_86 rfl rfl ?_
          refine z_icmp_lt C 93 dX12_next_87 (by decide) (fun c52 => ?_) (fun c52 => ?_)
          · replace hf := ite_t c52 hf
            refine z_lv (lv2 := [(0, .ref (G.1 + 90)), (4, .int y41), (5, .int y42)]) [0, 3, 4] rfl ?_
            refine wX12_next_j93 C hs0 hL M _ pp ?_ y41 y42 hf
            · intro y53 y54 y55 hf
              exact ih y53 y54 y55  hf
          · replace hf := ite_f c52 hf
            refine z_goto C 99 dX12_next_90 (by decide) ?_
            refine z_iinc C 3 (y41 + 1) [(4, .int (y41 + 1)), (0, .ref (G.1 + 90)), (2, .int y39), (3, .int y40), (5, .int y42)] dX12_next_99 rfl rfl (by decide) rfl rfl ?_
            refine z_goto C 13 dX12_next_102 (by decide) ?_
            refine z_lv (lv2 := [(0, .ref (G.1 + 90)), (2, .int y39), (3, .int y40), (4, .int (y41 + 1))]) [1, 2, 3, 0] rfl ?_
            exact ih y39 y40 (y41 + 1)  hf
set_option maxHeartbeats 4000000 in
set_option maxRecDepth 100000 in
theorem tX12_next (l : Launch) (G : GG) {K : SK} (hL : Lay K) (M : MM) (x1 : Int32) (pp : Int32) (hf : fX12_next M x1 = some pp) : Ct l yX12_next cX12_next 7 (some .int) 0 0 0 G K M [.ref (G.1 + 90), .int x1] (some (.int pp)) K M := by
  refine z_enter (lv := [(0, .ref (G.1 + 90)), (1, .int x1)]) (by decide +kernel) (Nat.le_of_ble_eq_true rfl) rfl ?_
  intro p e s m args below meth c C hnm hs0
  replace C : CX p s m args meth c cX12_next 7 (some .int) RX12 G := C
  unfold fX12_next at hf
  refine z_iload_n C 1 1 dX12_next_0 rfl rfl ?_
  refine z_if_ne C 6 dX12_next_1 (by decide) (fun c1 => ?_) (fun c1 => ?_)
  · replace hf := ite_f c1 hf
    refine z_iconst C (-1) dX12_next_6 (by decide) ?_
    refine z_istore_n C [(2, .int (-1)), (0, .ref (G.1 + 90)), (1, .int x1)] dX12_next_7 rfl (by decide) rfl rfl ?_
    refine z_iconst C 0 dX12_next_8 (by decide) ?_
    refine z_istore_n C [(3, .int 0), (2, .int (-1)), (0, .ref (G.1 + 90)), (1, .int x1)] dX12_next_9 rfl (by decide) rfl rfl ?_
    refine z_iconst C 0 dX12_next_10 (by decide) ?_
    refine z_istore C [(4, .int 0), (3, .int 0), (2, .int (-1)), (0, .ref (G.1 + 90)), (1, .int x1)] dX12_next_11 (by decide) rfl rfl ?_
    refine z_lv (lv2 := [(0, .ref (G.1 + 90)), (2, .int (-1)), (3, .int 0), (4, .int 0)]) [3, 2, 1, 0] rfl ?_
    exact wX12_next_l13 C hs0 hL M pp FU (-1) 0 0 hf
  · replace hf := ite_t c1 hf
    refine z_iconst C (-1) dX12_next_4 (by decide) ?_
    cases hf
    exact z_iret C rfl dX12_next_5
set_option maxHeartbeats 4000000 in
set_option maxRecDepth 100000 in
theorem wX12_fits_l68 (C : CX p s m args meth c cX12_fits 12 (some .int) RX12 G) (hs0 : s.heap.size = G.1 + K.1) (hL : Lay K)  (k89 : MM → Int32 → Int32 → Int32 → Int32 → Int32 → Option (Int32 × MM)) (pp : (Int32 × MM)) (hk89 : ∀ (M21 : MM) (y22 : Int32) (y23 : Int32) (y24 : Int32) (y25 : Int32) (y26 : Int32), k89 M21 y22 y23 y24 y25 y26 = some pp → Z p l e (rmo 5 0 0) s m args below meth c 12 G (MQ below (QC G (some (.int pp.1)) K pp.2) args s 0 0 (AG G)) K 0 0 M21 89 [(0, .ref (G.1 + 90)), (4, .int y22), (5, .int y23), (6, .int y24), (7, .int y25), (8, .int y26)] []) : ∀ (n : Nat) (M13 : MM) (y14 : Int32) (y15 : Int32) (y16 : Int32) (y17 : Int32) (y18 : Int32) (y19 : Int32) (hf : fX12_fits_l68 k89 n M13 y14 y15 y16 y17 y18 y19 = some pp), Z p l e (rmo 5 0 0) s m args below meth c 12 G (MQ below (QC G (some (.int pp.1)) K pp.2) args s 0 0 (AG G)) K 0 0 M13 68 [(0, .ref (G.1 + 90)), (4, .int y14), (5, .int y15), (6, .int y16), (7, .int y17), (8, .int y18), (9, .int y19)] [] := by
  intro n
  induction n with
  | zero => intro M13 y14 y15 y16 y17 y18 y19 hf; exact nomatch (show (none : Option (Int32 × MM)) = some pp from hf)
  | succ n ih =>
    intro M13 y14 y15 y16 y17 y18 y19 hf
    rw [fX12_fits_l68.eq_2] at hf
    refine z_iload C 6 dX12_fits_68 rfl ?_
    refine z_bipush C 80 dX12_fits_70 (by decide) ?_
    refine z_icmp_ge C 89 dX12_fits_72 (by decide) (fun c20 => ?_) (fun c20 => ?_)
    · replace hf := ite_t c20 hf
      refine z_lv (lv2 := [(0, .ref (G.1 + 90)), (4, .int y14), (5, .int y15), (6, .int y16), (7, .int y17), (8, .int y18)]) [0, 1, 2, 3, 4, 5] rfl ?_
      exact hk89 M13 y14 y15 y16 y17 y18  hf
    · replace hf := ite_f c20 hf
      refine z_aload_n C 0 0 dX12_fits_75 rfl rfl ?_
      refine z_getR C ok_X12 (lay_c90 hL) 42 (114) (by decide) rfl (lay_r90_42 hL) q_fl_X12_80 dX12_fits_76 ?_
      refine z_iload C 6 dX12_fits_79 rfl ?_
      refine z_iconst C 0 dX12_fits_81 (by decide) ?_
      replace hf := gd_out hf
      obtain ⟨g27, hf⟩ := hf
      refine z_iast C (lay_c114 hL) (inb_in g27) dX12_fits_82 ?_
      refine z_M (fun M28 e29 => ?_)
      replace hf := bnd_out e29 hf
      refine z_iinc C 6 (y19 + 1) [(9, .int (y19 + 1)), (0, .ref (G.1 + 90)), (4, .int y14), (5, .int y15), (6, .int y16), (7, .int y17), (8, .int y18)] dX12_fits_83 rfl rfl (by decide) rfl rfl ?_
      refine z_goto C 68 dX12_fits_86 (by decide) ?_
      refine z_lv (lv2 := [(0, .ref (G.1 + 90)), (4, .int y14), (5, .int y15), (6, .int y16), (7, .int y17), (8, .int y18), (9, .int (y19 + 1))]) [1, 2, 3, 4, 5, 6, 0] rfl ?_
      exact ih M28 y14 y15 y16 y17 y18 (y19 + 1)  hf
set_option maxHeartbeats 4000000 in
set_option maxRecDepth 100000 in
theorem wX12_fits_l183 (C : CX p s m args meth c cX12_fits 12 (some .int) RX12 G) (hs0 : s.heap.size = G.1 + K.1) (hL : Lay K)  (k219 : MM → Int32 → Int32 → Int32 → Int32 → Int32 → Int32 → Option (Int32 × MM)) (pp : (Int32 × MM)) (hk219 : ∀ (M84 : MM) (y85 : Int32) (y86 : Int32) (y87 : Int32) (y88 : Int32) (y89 : Int32) (y90 : Int32), k219 M84 y85 y86 y87 y88 y89 y90 = some pp → Z p l e (rmo 5 0 0) s m args below meth c 12 G (MQ below (QC G (some (.int pp.1)) K pp.2) args s 0 0 (AG G)) K 0 0 M84 219 [(0, .ref (G.1 + 90)), (4, .int y85), (5, .int y86), (6, .int y87), (7, .int y88), (8, .int y89), (9, .int y90)] []) : ∀ (n : Nat) (M75 : MM) (y76 : Int32) (y77 : Int32) (y78 : Int32) (y79 : Int32) (y80 : Int32) (y81 : Int32) (y82 : Int32) (hf : fX12_fits_l183 k219 n M75 y76 y77 y78 y79 y80 y81 y82 = some pp), Z p l e (rmo 5 0 0) s m args below meth c 12 G (MQ below (QC G (some (.int pp.1)) K pp.2) args s 0 0 (AG G)) K 0 0 M75 183 [(0, .ref (G.1 + 90)), (4, .int y76), (5, .int y77), (6, .int y78), (7, .int y79), (8, .int y80), (9, .int y81), (11, .int y82)] [] := by
  intro n
  induction n with
  | zero => intro M75 y76 y77 y78 y79 y80 y81 y82 hf; exact nomatch (show (none : Option (Int32 × MM)) = some pp from hf)
  | succ n ih =>
    intro M75 y76 y77 y78 y79 y80 y81 y82 hf
    rw [fX12_fits_l183.eq_2] at hf
    refine z_iload C 7 dX12_fits_183 rfl ?_
    refine z_aload_n C 0 0 dX12_fits_185 rfl rfl ?_
    refine z_getI C ok_X12 (lay_c90 hL) 14 (by decide) rfl q_fl_X12_216 dX12_fits_186 ?_
    refine z_icmp_ge C 219 dX12_fits_189 (by decide) (fun c83 => ?_) (fun c83 => ?_)
    · replace hf := ite_t c83 hf
      refine z_lv (lv2 := [(0, .ref (G.1 + 90)), (4, .int y76), (5, .int y77), (6, .int y78), (7, .int y79), (8, .int y80), (9, .int y81)]) [0, 1, 2, 3, 4, 5, 6] rfl ?_
      exact hk219 M75 y76 y77 y78 y79 y80 y81  hf
    · replace hf := ite_f c83 hf
      refine z_aload_n C 0 0 dX12_fits_192 rfl rfl ?_
      refine z_getR C ok_X12 (lay_c90 hL) 42 (114) (by decide) rfl (lay_r90_42 hL) q_fl_X12_80 dX12_fits_193 ?_
      refine z_bipush C 10 dX12_fits_196 (by decide) ?_
      refine z_iload C 7 dX12_fits_198 rfl ?_
      refine z_imul C dX12_fits_200 ?_
      refine z_aload_n C 0 0 dX12_fits_201 rfl rfl ?_
      refine z_iload C 7 dX12_fits_202 rfl ?_
      replace hf := bd_out hf
      obtain ⟨p91, e92, hf⟩ := hf
      refine z_cV1 C [.int (10 * y82), .ref (G.1 + 114)] (tX12_countOf l G hL M75 y82 _ e92) lk_X12_countOf ok_X12 (lay_c90 hL) q_ml_X12_276 rfl ⟨Nat.le_of_ble_eq_true rfl, Nat.le_of_ble_eq_true rfl⟩ rfl (Nat.le_of_ble_eq_true rfl) ⟨Nat.le_refl _, Nat.le_refl _⟩ dX12_fits_204 ?_
      refine z_iadd C dX12_fits_207 ?_
      refine z_dup2 C rfl rfl dX12_fits_208 ?_
      replace hf := gd_out hf
      obtain ⟨g93, hf⟩ := hf
      refine z_iald C (lay_c114 hL) (inb_in g93) dX12_fits_209 ?_
      refine z_iconst C 1 dX12_fits_210 (by decide) ?_
      refine z_iadd C dX12_fits_211 ?_
      replace hf := gd_out hf
      obtain ⟨g94, hf⟩ := hf
      refine z_iast C (lay_c114 hL) (inb_in g94) dX12_fits_212 ?_
      refine z_M (fun M95 e96 => ?_)
      replace hf := bnd_out e96 hf
      refine z_iinc C 7 (y82 + 1) [(11, .int (y82 + 1)), (0, .ref (G.1 + 90)), (4, .int y76), (5, .int y77), (6, .int y78), (7, .int y79), (8, .int y80), (9, .int y81)] dX12_fits_213 rfl rfl (by decide) rfl rfl ?_
      refine z_goto C 183 dX12_fits_216 (by decide) ?_
      refine z_lv (lv2 := [(0, .ref (G.1 + 90)), (4, .int y76), (5, .int y77), (6, .int y78), (7, .int y79), (8, .int y80), (9, .int y81), (11, .int (y82 + 1))]) [1, 2, 3, 4, 5, 6, 7, 0] rfl ?_
      exact ih M95 y76 y77 y78 y79 y80 y81 (y82 + 1)  hf
set_option maxHeartbeats 4000000 in
set_option maxRecDepth 100000 in
theorem wX12_fits_j131 (C : CX p s m args meth c cX12_fits 12 (some .int) RX12 G) (hs0 : s.heap.size = G.1 + K.1) (hL : Lay K)  (k92 : MM → Int32 → Int32 → Int32 → Int32 → Int32 → Int32 → Option (Int32 × MM)) (pp : (Int32 × MM)) (hk92 : ∀ (M104 : MM) (y105 : Int32) (y106 : Int32) (y107 : Int32) (y108 : Int32) (y109 : Int32) (y110 : Int32), k92 M104 y105 y106 y107 y108 y109 y110 = some pp → Z p l e (rmo 5 0 0) s m args below meth c 12 G (MQ below (QC G (some (.int pp.1)) K pp.2) args s 0 0 (AG G)) K 0 0 M104 92 [(0, .ref (G.1 + 90)), (4, .int y105), (5, .int y106), (6, .int y107), (7, .int y108), (8, .int y109), (9, .int y110)] []) (M60 : MM) (y61 : Int32) (y62 : Int32) (y63 : Int32) (y64 : Int32) (y65 : Int32) (y66 : Int32) (y67 : Int32) (hf : fX12_fits_j131 k92 M60 y61 y62 y63 y64 y65 y66 y67 = some pp) : Z p l e (rmo 5 0 0) s m args below meth c 12 G (MQ below (QC G (some (.int pp.1)) K pp.2) args s 0 0 (AG G)) K 0 0 M60 131 [(0, .ref (G.1 + 90)), (4, .int y61), (5, .int y62), (6, .int y63), (7, .int y64), (9, .int y65), (10, .int y66)] [.int y67] := by
  unfold fX12_fits_j131 at hf
  refine z_istore C [(8, .int y67), (0, .ref (G.1 + 90)), (4, .int y61), (5, .int y62), (6, .int y63), (7, .int y64), (9, .int y65), (10, .int y66)] dX12_fits_131 (by decide) rfl rfl ?_
  refine z_iload C 7 dX12_fits_133 rfl ?_
  refine z_aload_n C 1 0 dX12_fits_135 rfl rfl ?_
  refine z_getR C ok_X12 (lay_c90 hL) 0 (91) (by decide) rfl (lay_r90_0 hL) q_fl_X12_7 dX12_fits_136 ?_
  refine z_aload_n C 1 0 dX12_fits_139 rfl rfl ?_
  refine z_getI C ok_X12 (lay_c90 hL) 41 (by decide) rfl q_fl_X12_355 dX12_fits_140 ?_
  replace hf := gd_out hf
  obtain ⟨g68, hf⟩ := hf
  refine z_iald C (lay_c91 hL) (inb_in g68) dX12_fits_143 ?_
  refine z_icmp_le C 150 dX12_fits_144 (by decide) (fun c69 => ?_) (fun c69 => ?_)
  · replace hf := ite_t c69 hf
    refine z_iload C 2 dX12_fits_150 rfl ?_
    refine z_bipush C 10 dX12_fits_152 (by decide) ?_
    refine z_iload C 3 dX12_fits_154 rfl ?_
    refine z_iadd C dX12_fits_156 ?_
    refine z_icmp_ne C 163 dX12_fits_157 (by decide) (fun c70 => ?_) (fun c70 => ?_)
    · replace hf := ite_f c70 hf
      refine z_iinc C 3 (y62 + 1) [(5, .int (y62 + 1)), (8, .int y67), (0, .ref (G.1 + 90)), (4, .int y61), (6, .int y63), (7, .int y64), (9, .int y65), (10, .int y66)] dX12_fits_163 rfl rfl (by decide) rfl rfl ?_
      refine z_iload C 4 dX12_fits_166 rfl ?_
      refine z_iload C 6 dX12_fits_168 rfl ?_
      refine z_iand C dX12_fits_170 ?_
      refine z_topi (fun v71 e72 => ?_)
      replace hf := bnd_out e72 hf
      refine z_istore C [(6, .int v71), (5, .int (y62 + 1)), (8, .int y67), (0, .ref (G.1 + 90)), (4, .int y61), (7, .int y64), (9, .int y65), (10, .int y66)] dX12_fits_171 (by decide) rfl rfl ?_
      refine z_iload C 5 dX12_fits_173 rfl ?_
      refine z_iload C 6 dX12_fits_175 rfl ?_
      refine z_ior C dX12_fits_177 ?_
      refine z_topi (fun v73 e74 => ?_)
      replace hf := bnd_out e74 hf
      refine z_istore C [(7, .int v73), (6, .int v71), (5, .int (y62 + 1)), (8, .int y67), (0, .ref (G.1 + 90)), (4, .int y61), (9, .int y65), (10, .int y66)] dX12_fits_178 (by decide) rfl rfl ?_
      refine z_iconst C 0 dX12_fits_180 (by decide) ?_
      refine z_istore C [(11, .int 0), (7, .int v73), (6, .int v71), (5, .int (y62 + 1)), (8, .int y67), (0, .ref (G.1 + 90)), (4, .int y61), (9, .int y65), (10, .int y66)] dX12_fits_181 (by decide) rfl rfl ?_
      refine z_lv (lv2 := [(0, .ref (G.1 + 90)), (4, .int y61), (5, .int (y62 + 1)), (6, .int v71), (7, .int v73), (8, .int y67), (9, .int y65), (11, .int 0)]) [5, 6, 3, 2, 1, 4, 7, 0] rfl ?_
      refine wX12_fits_l183 C hs0 hL _ pp ?_ FU M60 y61 (y62 + 1) v71 v73 y67 y65 0 hf
      · intro M97 y98 y99 y100 y101 y102 y103 hf
        refine z_iinc C 6 (y103 + 1) [(9, .int (y103 + 1)), (0, .ref (G.1 + 90)), (4, .int y98), (5, .int y99), (6, .int y100), (7, .int y101), (8, .int y102)] dX12_fits_219 rfl rfl (by decide) rfl rfl ?_
        refine z_goto C 92 dX12_fits_222 (by decide) ?_
        refine z_lv (lv2 := [(0, .ref (G.1 + 90)), (4, .int y98), (5, .int y99), (6, .int y100), (7, .int y101), (8, .int y102), (9, .int (y103 + 1))]) [1, 2, 3, 4, 5, 6, 0] rfl ?_
        exact hk92 M97 y98 y99 y100 y101 y102 (y103 + 1)  hf
    · replace hf := ite_t c70 hf
      refine z_iload C 6 dX12_fits_160 rfl ?_
      cases hf
      exact z_iret C rfl dX12_fits_162
  · replace hf := ite_f c69 hf
    refine z_goto C 219 dX12_fits_147 (by decide) ?_
    refine z_iinc C 6 (y65 + 1) [(9, .int (y65 + 1)), (8, .int y67), (0, .ref (G.1 + 90)), (4, .int y61), (5, .int y62), (6, .int y63), (7, .int y64), (10, .int y66)] dX12_fits_219 rfl rfl (by decide) rfl rfl ?_
    refine z_goto C 92 dX12_fits_222 (by decide) ?_
    refine z_lv (lv2 := [(0, .ref (G.1 + 90)), (4, .int y61), (5, .int y62), (6, .int y63), (7, .int y64), (8, .int y67), (9, .int (y65 + 1))]) [2, 3, 4, 5, 6, 1, 0] rfl ?_
    exact hk92 M60 y61 y62 y63 y64 y67 (y65 + 1)  hf
set_option maxHeartbeats 4000000 in
set_option maxRecDepth 100000 in
theorem wX12_fits_j124 (C : CX p s m args meth c cX12_fits 12 (some .int) RX12 G) (hs0 : s.heap.size = G.1 + K.1) (hL : Lay K)  (k92 : MM → Int32 → Int32 → Int32 → Int32 → Int32 → Int32 → Option (Int32 × MM)) (pp : (Int32 × MM)) (hk92 : ∀ (M118 : MM) (y119 : Int32) (y120 : Int32) (y121 : Int32) (y122 : Int32) (y123 : Int32) (y124 : Int32), k92 M118 y119 y120 y121 y122 y123 y124 = some pp → Z p l e (rmo 5 0 0) s m args below meth c 12 G (MQ below (QC G (some (.int pp.1)) K pp.2) args s 0 0 (AG G)) K 0 0 M118 92 [(0, .ref (G.1 + 90)), (4, .int y119), (5, .int y120), (6, .int y121), (7, .int y122), (8, .int y123), (9, .int y124)] []) (M53 : MM) (y54 : Int32) (y55 : Int32) (y56 : Int32) (y57 : Int32) (y58 : Int32) (y59 : Int32) (hf : fX12_fits_j124 k92 M53 y54 y55 y56 y57 y58 y59 = some pp) : Z p l e (rmo 5 0 0) s m args below meth c 12 G (MQ below (QC G (some (.int pp.1)) K pp.2) args s 0 0 (AG G)) K 0 0 M53 124 [(0, .ref (G.1 + 90)), (4, .int y54), (5, .int y55), (6, .int y56), (7, .int y57), (9, .int y58), (10, .int y59)] [] := by
  unfold fX12_fits_j124 at hf
  refine z_iload C 6 dX12_fits_124 rfl ?_
  refine z_goto C 131 dX12_fits_126 (by decide) ?_
  refine wX12_fits_j131 C hs0 hL _ pp ?_ M53 y54 y55 y56 y57 y58 y59 y59 hf
  · intro M111 y112 y113 y114 y115 y116 y117 hf
    exact hk92 M111 y112 y113 y114 y115 y116 y117  hf
set_option maxHeartbeats 4000000 in
set_option maxRecDepth 100000 in
theorem wX12_fits_l92 (C : CX p s m args meth c cX12_fits 12 (some .int) RX12 G) (hs0 : s.heap.size = G.1 + K.1) (hL : Lay K)  (k225 : MM → Int32 → Int32 → Int32 → Int32 → Int32 → Option (Int32 × MM)) (pp : (Int32 × MM)) (hk225 : ∀ (M44 : MM) (y45 : Int32) (y46 : Int32) (y47 : Int32) (y48 : Int32) (y49 : Int32), k225 M44 y45 y46 y47 y48 y49 = some pp → Z p l e (rmo 5 0 0) s m args below meth c 12 G (MQ below (QC G (some (.int pp.1)) K pp.2) args s 0 0 (AG G)) K 0 0 M44 225 [(0, .ref (G.1 + 90)), (4, .int y45), (5, .int y46), (6, .int y47), (7, .int y48), (8, .int y49)] []) : ∀ (n : Nat) (M36 : MM) (y37 : Int32) (y38 : Int32) (y39 : Int32) (y40 : Int32) (y41 : Int32) (y42 : Int32) (hf : fX12_fits_l92 k225 n M36 y37 y38 y39 y40 y41 y42 = some pp), Z p l e (rmo 5 0 0) s m args below meth c 12 G (MQ below (QC G (some (.int pp.1)) K pp.2) args s 0 0 (AG G)) K 0 0 M36 92 [(0, .ref (G.1 + 90)), (4, .int y37), (5, .int y38), (6, .int y39), (7, .int y40), (8, .int y41), (9, .int y42)] [] := by
  intro n
  induction n with
  | zero => intro M36 y37 y38 y39 y40 y41 y42 hf; exact nomatch (show (none : Option (Int32 × MM)) = some pp from hf)
  | succ n ih =>
    intro M36 y37 y38 y39 y40 y41 y42 hf
    rw [fX12_fits_l92.eq_2] at hf
    refine z_iload C 6 dX12_fits_92 rfl ?_
    refine z_iconst C 1 dX12_fits_94 (by decide) ?_
    refine z_aload_n C 0 0 dX12_fits_95 rfl rfl ?_
    refine z_getI C ok_X12 (lay_c90 hL) 13 (by decide) rfl q_fl_X12_213 dX12_fits_96 ?_
    refine z_ishl C dX12_fits_99 ?_
    refine z_icmp_ge C 225 dX12_fits_100 (by decide) (fun c43 => ?_) (fun c43 => ?_)
    · replace hf := ite_t c43 hf
      refine z_lv (lv2 := [(0, .ref (G.1 + 90)), (4, .int y37), (5, .int y38), (6, .int y39), (7, .int y40), (8, .int y41)]) [0, 1, 2, 3, 4, 5] rfl ?_
      exact hk225 M36 y37 y38 y39 y40 y41  hf
    · replace hf := ite_f c43 hf
      refine z_aload_n C 0 0 dX12_fits_103 rfl rfl ?_
      refine z_iload C 6 dX12_fits_104 rfl ?_
      replace hf := bd_out hf
      obtain ⟨p50, e51, hf⟩ := hf
      refine z_cV1 C [] (tX12_unlike l G hL M36 y42 _ e51) lk_X12_unlike ok_X12 (lay_c90 hL) q_ml_X12_358 rfl ⟨Nat.le_of_ble_eq_true rfl, Nat.le_of_ble_eq_true rfl⟩ rfl (Nat.le_of_ble_eq_true rfl) ⟨Nat.le_refl _, Nat.le_refl _⟩ dX12_fits_106 ?_
      refine z_istore C [(10, .int p50.1), (0, .ref (G.1 + 90)), (4, .int y37), (5, .int y38), (6, .int y39), (7, .int y40), (8, .int y41), (9, .int y42)] dX12_fits_109 (by decide) rfl rfl ?_
      refine z_iload C 6 dX12_fits_111 rfl ?_
      refine z_iconst C (-1) dX12_fits_113 (by decide) ?_
      refine z_icmp_eq C 124 dX12_fits_114 (by decide) (fun c52 => ?_) (fun c52 => ?_)
      · replace hf := ite_t c52 hf
        refine z_lv (lv2 := [(0, .ref (G.1 + 90)), (4, .int y37), (5, .int y38), (6, .int y39), (7, .int y40), (9, .int y42), (10, .int p50.1)]) [1, 2, 3, 4, 5, 7, 0] rfl ?_
        refine wX12_fits_j124 C hs0 hL _ pp ?_ p50.2 y37 y38 y39 y40 y42 p50.1 hf
        · intro M125 y126 y127 y128 y129 y130 y131 hf
          exact ih M125 y126 y127 y128 y129 y130 y131  hf
      · replace hf := ite_f c52 hf
        refine z_iload C 0 dX12_fits_117 rfl ?_
        refine z_iload C 6 dX12_fits_119 rfl ?_
        refine z_icmp_ge C 129 dX12_fits_121 (by decide) (fun c132 => ?_) (fun c132 => ?_)
        · replace hf := ite_t c132 hf
          refine z_iload C 6 dX12_fits_129 rfl ?_
          refine z_lv (lv2 := [(0, .ref (G.1 + 90)), (4, .int y37), (5, .int y38), (6, .int y39), (7, .int y40), (9, .int y42), (10, .int p50.1)]) [1, 2, 3, 4, 5, 7, 0] rfl ?_
          refine wX12_fits_j131 C hs0 hL _ pp ?_ p50.2 y37 y38 y39 y40 y42 p50.1 y41 hf
          · intro M133 y134 y135 y136 y137 y138 y139 hf
            exact ih M133 y134 y135 y136 y137 y138 y139  hf
        · replace hf := ite_f c132 hf
          refine z_lv (lv2 := [(0, .ref (G.1 + 90)), (4, .int y37), (5, .int y38), (6, .int y39), (7, .int y40), (9, .int y42), (10, .int p50.1)]) [1, 2, 3, 4, 5, 7, 0] rfl ?_
          refine wX12_fits_j124 C hs0 hL _ pp ?_ p50.2 y37 y38 y39 y40 y42 p50.1 hf
          · intro M140 y141 y142 y143 y144 y145 y146 hf
            exact ih M140 y141 y142 y143 y144 y145 y146  hf
set_option maxHeartbeats 4000000 in
set_option maxRecDepth 100000 in
theorem tX12_fits (l : Launch) (G : GG) {K : SK} (hL : Lay K) (M : MM) (x1 : Int32) (x2 : Int32) (x3 : Int32) (x4 : Int32) (pp : (Int32 × MM)) (hf : fX12_fits M x1 x2 x3 x4 = some pp) : Ct l yX12_fits cX12_fits 12 (some .int) 5 0 0 G K M [.ref (G.1 + 90), .int x1, .int x2, .int x3, .int x4] (some (.int pp.1)) K pp.2 := by
  refine z_enter (lv := [(0, .ref (G.1 + 90)), (1, .int x1), (2, .int x2), (3, .int x3), (4, .int x4)]) (by decide +kernel) (Nat.le_of_ble_eq_true rfl) rfl ?_
  intro p e s m args below meth c C hnm hs0
  replace C : CX p s m args meth c cX12_fits 12 (some .int) RX12 G := C
  unfold fX12_fits at hf
  refine z_aload_n C 0 0 dX12_fits_0 rfl rfl ?_
  refine z_iload_n C 1 1 dX12_fits_1 rfl rfl ?_
  refine z_iload_n C 2 2 dX12_fits_2 rfl rfl ?_
  replace hf := bd_out hf
  obtain ⟨p1, e2, hf⟩ := hf
  refine z_cV1 C [] (tX12_areTold l G hL M x1 x2 _ e2) lk_X12_areTold ok_X12 (lay_c90 hL) q_ml_X12_279 rfl ⟨Nat.le_of_ble_eq_true rfl, Nat.le_of_ble_eq_true rfl⟩ rfl (Nat.le_of_ble_eq_true rfl) ⟨Nat.le_refl _, Nat.le_refl _⟩ dX12_fits_3 ?_
  refine z_if_eq C 34 dX12_fits_6 (by decide) (fun c3 => ?_) (fun c3 => ?_)
  · replace hf := ite_t c3 hf
    refine z_bipush C (-2) dX12_fits_34 (by decide) ?_
    cases hf
    exact z_iret C rfl dX12_fits_36
  · replace hf := ite_f c3 hf
    refine z_aload_n C 0 0 dX12_fits_9 rfl rfl ?_
    refine z_iconst C 3 dX12_fits_10 (by decide) ?_
    refine z_iload_n C 3 3 dX12_fits_11 rfl rfl ?_
    replace hf := bd_out hf
    obtain ⟨p4, e5, hf⟩ := hf
    refine z_cV1 C [] (tX12_isOf l G hL p1.2 3 x3 _ e5) lk_X12_isOf ok_X12 (lay_c90 hL) q_ml_X12_179 rfl ⟨Nat.le_of_ble_eq_true rfl, Nat.le_of_ble_eq_true rfl⟩ rfl (Nat.le_of_ble_eq_true rfl) ⟨Nat.le_refl _, Nat.le_refl _⟩ dX12_fits_12 ?_
    refine z_if_eq C 34 dX12_fits_15 (by decide) (fun c6 => ?_) (fun c6 => ?_)
    · replace hf := ite_t c6 hf
      refine z_bipush C (-2) dX12_fits_34 (by decide) ?_
      cases hf
      exact z_iret C rfl dX12_fits_36
    · replace hf := ite_f c6 hf
      refine z_iload C 4 dX12_fits_18 rfl ?_
      refine z_if_lt C 34 dX12_fits_20 (by decide) (fun c7 => ?_) (fun c7 => ?_)
      · replace hf := ite_t c7 hf
        refine z_bipush C (-2) dX12_fits_34 (by decide) ?_
        cases hf
        exact z_iret C rfl dX12_fits_36
      · replace hf := ite_f c7 hf
        refine z_iload C 4 dX12_fits_23 rfl ?_
        refine z_iconst C 5 dX12_fits_25 (by decide) ?_
        refine z_bipush C 9 dX12_fits_26 (by decide) ?_
        refine z_cS1 C [] (tX12_isIn l G hL p1.2 x4 5 9) lk_X12_isIn q_ml_X12_141 rfl ⟨Nat.le_of_ble_eq_true rfl, Nat.le_of_ble_eq_true rfl⟩ rfl (Nat.le_of_ble_eq_true rfl) ⟨Nat.le_refl _, Nat.le_refl _⟩ dX12_fits_28 ?_
        refine z_if_eq C 37 dX12_fits_31 (by decide) (fun c8 => ?_) (fun c8 => ?_)
        · replace hf := ite_t c8 hf
          refine z_aload_n C 0 0 dX12_fits_37 rfl rfl ?_
          refine z_iconst C 3 dX12_fits_38 (by decide) ?_
          refine z_iload_n C 3 3 dX12_fits_39 rfl rfl ?_
          refine z_cS1 C [.ref (G.1 + 90)] (tX12_placeOf l G hL p1.2 3 x3) lk_X12_placeOf q_ml_X12_204 rfl ⟨Nat.le_of_ble_eq_true rfl, Nat.le_of_ble_eq_true rfl⟩ rfl (Nat.le_of_ble_eq_true rfl) ⟨Nat.le_refl _, Nat.le_refl _⟩ dX12_fits_40 ?_
          refine z_putI C ok_X12 (lay_c90 hL) 41 (by decide) rfl rfl rfl rfl q_fl_X12_355 dX12_fits_43 ?_
          refine z_M (fun M9 e10 => ?_)
          replace hf := bnd_out e10 hf
          refine z_iconst C 0 dX12_fits_46 (by decide) ?_
          refine z_istore C [(5, .int 0), (0, .ref (G.1 + 90)), (1, .int x1), (2, .int x2), (3, .int x3), (4, .int x4)] dX12_fits_47 (by decide) rfl rfl ?_
          refine z_iconst C 1 dX12_fits_49 (by decide) ?_
          refine z_aload_n C 1 0 dX12_fits_50 rfl rfl ?_
          refine z_getI C ok_X12 (lay_c90 hL) 13 (by decide) rfl q_fl_X12_213 dX12_fits_51 ?_
          refine z_ishl C dX12_fits_54 ?_
          refine z_iconst C 1 dX12_fits_55 (by decide) ?_
          refine z_isub C dX12_fits_56 ?_
          refine z_topi (fun v11 e12 => ?_)
          replace hf := bnd_out e12 hf
          refine z_istore C [(6, .int v11), (5, .int 0), (0, .ref (G.1 + 90)), (1, .int x1), (2, .int x2), (3, .int x3), (4, .int x4)] dX12_fits_57 (by decide) rfl rfl ?_
          refine z_iconst C 0 dX12_fits_59 (by decide) ?_
          refine z_istore C [(7, .int 0), (6, .int v11), (5, .int 0), (0, .ref (G.1 + 90)), (1, .int x1), (2, .int x2), (3, .int x3), (4, .int x4)] dX12_fits_60 (by decide) rfl rfl ?_
          refine z_iconst C (-1) dX12_fits_62 (by decide) ?_
          refine z_istore C [(8, .int (-1)), (7, .int 0), (6, .int v11), (5, .int 0), (0, .ref (G.1 + 90)), (1, .int x1), (2, .int x2), (3, .int x3), (4, .int x4)] dX12_fits_63 (by decide) rfl rfl ?_
          refine z_iconst C 0 dX12_fits_65 (by decide) ?_
          refine z_istore C [(9, .int 0), (8, .int (-1)), (7, .int 0), (6, .int v11), (5, .int 0), (0, .ref (G.1 + 90)), (1, .int x1), (2, .int x2), (3, .int x3), (4, .int x4)] dX12_fits_66 (by decide) rfl rfl ?_
          refine z_lv (lv2 := [(0, .ref (G.1 + 90)), (4, .int x4), (5, .int 0), (6, .int v11), (7, .int 0), (8, .int (-1)), (9, .int 0)]) [5, 9, 4, 3, 2, 1, 0] rfl ?_
          refine wX12_fits_l68 C hs0 hL _ pp ?_ FU M9 x4 0 v11 0 (-1) 0 hf
          · intro M30 y31 y32 y33 y34 y35 hf
            refine z_iconst C 0 dX12_fits_89 (by decide) ?_
            refine z_istore C [(9, .int 0), (0, .ref (G.1 + 90)), (4, .int y31), (5, .int y32), (6, .int y33), (7, .int y34), (8, .int y35)] dX12_fits_90 (by decide) rfl rfl ?_
            refine z_lv (lv2 := [(0, .ref (G.1 + 90)), (4, .int y31), (5, .int y32), (6, .int y33), (7, .int y34), (8, .int y35), (9, .int 0)]) [1, 2, 3, 4, 5, 6, 0] rfl ?_
            refine wX12_fits_l92 C hs0 hL _ pp ?_ FU M30 y31 y32 y33 y34 y35 0 hf
            · intro M147 y148 y149 y150 y151 y152 hf
              refine z_iload C 1 dX12_fits_225 rfl ?_
              by_cases c153 : y148 = 0
              · replace hf := ite_t c153 hf
                refine z_tableIn C 260 dX12_fits_227 (by rw [c153]; decide) (by rw [c153]; decide) (by rw [c153]; rfl) (by decide) ?_
                refine z_iload C 2 dX12_fits_260 rfl ?_
                cases hf
                exact z_iret C rfl dX12_fits_262
              · replace hf := ite_f c153 hf
                by_cases c154 : y148 = 1
                · replace hf := ite_t c154 hf
                  refine z_tableIn C 263 dX12_fits_227 (by rw [c154]; decide) (by rw [c154]; decide) (by rw [c154]; rfl) (by decide) ?_
                  refine z_iload C 2 dX12_fits_263 rfl ?_
                  refine z_if_ne C 272 dX12_fits_265 (by decide) (fun c155 => ?_) (fun c155 => ?_)
                  · replace hf := ite_f c155 hf
                    refine z_iload C 3 dX12_fits_272 rfl ?_
                    cases hf
                    exact z_iret C rfl dX12_fits_274
                  · replace hf := ite_t c155 hf
                    refine z_iconst C (-1) dX12_fits_268 (by decide) ?_
                    refine z_goto C 274 dX12_fits_269 (by decide) ?_
                    cases hf
                    exact z_iret C rfl dX12_fits_274
                · replace hf := ite_f c154 hf
                  by_cases c156 : y148 = 2
                  · replace hf := ite_t c156 hf
                    refine z_tableIn C 275 dX12_fits_227 (by rw [c156]; decide) (by rw [c156]; decide) (by rw [c156]; rfl) (by decide) ?_
                    refine z_iload C 2 dX12_fits_275 rfl ?_
                    refine z_if_ne C 284 dX12_fits_277 (by decide) (fun c157 => ?_) (fun c157 => ?_)
                    · replace hf := ite_f c157 hf
                      refine z_iconst C 1 dX12_fits_284 (by decide) ?_
                      refine z_aload_n C 0 0 dX12_fits_285 rfl rfl ?_
                      refine z_getI C ok_X12 (lay_c90 hL) 13 (by decide) rfl q_fl_X12_213 dX12_fits_286 ?_
                      refine z_ishl C dX12_fits_289 ?_
                      refine z_iconst C 1 dX12_fits_290 (by decide) ?_
                      refine z_isub C dX12_fits_291 ?_
                      refine z_iload C 4 dX12_fits_292 rfl ?_
                      refine z_iconst C (-1) dX12_fits_294 (by decide) ?_
                      refine z_ixor C dX12_fits_295 ?_
                      refine z_iand C dX12_fits_296 ?_
                      cases hf
                      exact z_iret C rfl dX12_fits_297
                    · replace hf := ite_t c157 hf
                      refine z_iconst C (-1) dX12_fits_280 (by decide) ?_
                      refine z_goto C 297 dX12_fits_281 (by decide) ?_
                      cases hf
                      exact z_iret C rfl dX12_fits_297
                  · replace hf := ite_f c156 hf
                    by_cases c158 : y148 = 3
                    · replace hf := ite_t c158 hf
                      refine z_tableIn C 298 dX12_fits_227 (by rw [c158]; decide) (by rw [c158]; decide) (by rw [c158]; rfl) (by decide) ?_
                      refine z_iload C 5 dX12_fits_298 rfl ?_
                      cases hf
                      exact z_iret C rfl dX12_fits_300
                    · replace hf := ite_f c158 hf
                      by_cases c159 : y148 = 4
                      · replace hf := ite_t c159 hf
                        refine z_tableIn C 301 dX12_fits_227 (by rw [c159]; decide) (by rw [c159]; decide) (by rw [c159]; rfl) (by decide) ?_
                        refine z_aload_n C 0 0 dX12_fits_301 rfl rfl ?_
                        refine z_iload C 2 dX12_fits_302 rfl ?_
                        replace hf := bd_out hf
                        obtain ⟨p160, e161, hf⟩ := hf
                        refine z_cV1 C [] (tX12_next l G hL M147 y149 _ e161) lk_X12_next ok_X12 (lay_c90 hL) q_ml_X12_361 rfl ⟨Nat.le_of_ble_eq_true rfl, Nat.le_of_ble_eq_true rfl⟩ rfl (Nat.le_of_ble_eq_true rfl) ⟨Nat.le_refl _, Nat.le_refl _⟩ dX12_fits_304 ?_
                        cases hf
                        exact z_iret C rfl dX12_fits_307
                      · replace hf := ite_f c159 hf
                        have ic153 : (y148).toInt ≠ 0 := fun q => c153 (Int32.toInt_inj.mp (q.trans (by decide)))
                        have ic154 : (y148).toInt ≠ 1 := fun q => c154 (Int32.toInt_inj.mp (q.trans (by decide)))
                        have ic156 : (y148).toInt ≠ 2 := fun q => c156 (Int32.toInt_inj.mp (q.trans (by decide)))
                        have ic158 : (y148).toInt ≠ 3 := fun q => c158 (Int32.toInt_inj.mp (q.trans (by decide)))
                        have ic159 : (y148).toInt ≠ 4 := fun q => c159 (Int32.toInt_inj.mp (q.trans (by decide)))
                        refine z_tableOut C 308 dX12_fits_227 (by omega) (by decide) ?_
                        refine z_bipush C (-2) dX12_fits_308 (by decide) ?_
                        cases hf
                        exact z_iret C rfl dX12_fits_310
        · replace hf := ite_f c8 hf
          refine z_bipush C (-2) dX12_fits_34 (by decide) ?_
          cases hf
          exact z_iret C rfl dX12_fits_36
set_option maxHeartbeats 4000000 in
set_option maxRecDepth 100000 in
theorem wX12_common_l4 (C : CX p s m args meth c cX12_common 5 (some .int) RX12 G) (hs0 : s.heap.size = G.1 + K.1) (hL : Lay K) (M : MM)  (pp : Int32)  : ∀ (n : Nat) (y1 : Int32) (y2 : Int32) (hf : fX12_common_l4 M n y1 y2 = some pp), Z p l e (rmo 0 0 0) s m args below meth c 5 G (MQ below (QC G (some (.int pp)) K M) args s 0 0 (AG G)) K 0 0 M 4 [(2, .int y1), (3, .int y2)] [] := by
  intro n
  induction n with
  | zero => intro y1 y2 hf; exact nomatch (show (none : Option Int32) = some pp from hf)
  | succ n ih =>
    intro y1 y2 hf
    rw [fX12_common_l4.eq_2] at hf
    refine z_iload_n C 1 3 dX12_common_4 rfl rfl ?_
    refine z_if_eq C 21 dX12_common_5 (by decide) (fun c3 => ?_) (fun c3 => ?_)
    · replace hf := ite_t c3 hf
      refine z_iload_n C 0 2 dX12_common_21 rfl rfl ?_
      cases hf
      exact z_iret C rfl dX12_common_22
    · replace hf := ite_f c3 hf
      refine z_iload_n C 0 2 dX12_common_8 rfl rfl ?_
      refine z_iload_n C 1 3 dX12_common_9 rfl rfl ?_
      replace hf := gd_out hf
      obtain ⟨g4, hf⟩ := hf
      refine z_irem C (nz_ne g4) dX12_common_10 ?_
      refine z_topi (fun v5 e6 => ?_)
      replace hf := bnd_out e6 hf
      refine z_istore C [(4, .int v5), (2, .int y1), (3, .int y2)] dX12_common_11 (by decide) rfl rfl ?_
      refine z_iload_n C 2 3 dX12_common_13 rfl rfl ?_
      refine z_istore_n C [(2, .int y2), (4, .int v5), (3, .int y2)] dX12_common_14 rfl (by decide) rfl rfl ?_
      refine z_iload C 1 dX12_common_15 rfl ?_
      refine z_istore_n C [(3, .int v5), (2, .int y2), (4, .int v5)] dX12_common_17 rfl (by decide) rfl rfl ?_
      refine z_goto C 4 dX12_common_18 (by decide) ?_
      refine z_lv (lv2 := [(2, .int y2), (3, .int v5)]) [1, 0] rfl ?_
      exact ih y2 v5  hf
set_option maxHeartbeats 4000000 in
set_option maxRecDepth 100000 in
theorem tX12_common (l : Launch) (G : GG) {K : SK} (hL : Lay K) (M : MM) (x0 : Int32) (x1 : Int32) (pp : Int32) (hf : fX12_common M x0 x1 = some pp) : Ct l yX12_common cX12_common 5 (some .int) 0 0 0 G K M [.int x0, .int x1] (some (.int pp)) K M := by
  refine z_enter (lv := [(0, .int x0), (1, .int x1)]) (by decide +kernel) (Nat.le_of_ble_eq_true rfl) rfl ?_
  intro p e s m args below meth c C hnm hs0
  replace C : CX p s m args meth c cX12_common 5 (some .int) RX12 G := C
  unfold fX12_common at hf
  refine z_iload_n C 0 0 dX12_common_0 rfl rfl ?_
  refine z_istore_n C [(2, .int x0), (0, .int x0), (1, .int x1)] dX12_common_1 rfl (by decide) rfl rfl ?_
  refine z_iload_n C 2 1 dX12_common_2 rfl rfl ?_
  refine z_istore_n C [(3, .int x1), (2, .int x0), (0, .int x0), (1, .int x1)] dX12_common_3 rfl (by decide) rfl rfl ?_
  refine z_lv (lv2 := [(2, .int x0), (3, .int x1)]) [1, 0] rfl ?_
  exact wX12_common_l4 C hs0 hL M pp FU x0 x1 hf
set_option maxHeartbeats 4000000 in
set_option maxRecDepth 100000 in
theorem wX12_wind_j70 (C : CX p s m args meth c cX12_wind 7 (some .int) RX12 G) (hs0 : s.heap.size = G.1 + K.1) (hL : Lay K)  (k36 : MM → Int32 → Int32 → Int32 → Int32 → Option (Int32 × MM)) (pp : (Int32 × MM)) (hk36 : ∀ (M32 : MM) (y33 : Int32) (y34 : Int32) (y35 : Int32) (y36 : Int32), k36 M32 y33 y34 y35 y36 = some pp → Z p l e (rmo 4 0 0) s m args below meth c 7 G (MQ below (QC G (some (.int pp.1)) K pp.2) args s 0 0 (AG G)) K 0 0 M32 36 [(0, .ref (G.1 + 90)), (3, .int y33), (4, .int y34), (5, .int y35), (6, .int y36)] []) (M23 : MM) (y24 : Int32) (y25 : Int32) (y26 : Int32) (y27 : Int32) (y28 : Int32) (y29 : Int32) (hf : fX12_wind_j70 k36 M23 y24 y25 y26 y27 y28 y29 = some pp) : Z p l e (rmo 4 0 0) s m args below meth c 7 G (MQ below (QC G (some (.int pp.1)) K pp.2) args s 0 0 (AG G)) K 0 0 M23 70 [(0, .ref (G.1 + 90)), (3, .int y24), (4, .int y25), (6, .int y26)] [.int y29, .int y28, .int y27] := by
  unfold fX12_wind_j70 at hf
  refine z_imul C dX12_wind_70 ?_
  refine z_iadd C dX12_wind_71 ?_
  refine z_topi (fun v30 e31 => ?_)
  replace hf := bnd_out e31 hf
  refine z_istore C [(5, .int v30), (0, .ref (G.1 + 90)), (3, .int y24), (4, .int y25), (6, .int y26)] dX12_wind_72 (by decide) rfl rfl ?_
  refine z_iinc C 4 (y26 + 1) [(6, .int (y26 + 1)), (5, .int v30), (0, .ref (G.1 + 90)), (3, .int y24), (4, .int y25)] dX12_wind_74 rfl rfl (by decide) rfl rfl ?_
  refine z_goto C 36 dX12_wind_77 (by decide) ?_
  refine z_lv (lv2 := [(0, .ref (G.1 + 90)), (3, .int y24), (4, .int y25), (5, .int v30), (6, .int (y26 + 1))]) [2, 3, 4, 1, 0] rfl ?_
  exact hk36 M23 y24 y25 v30 (y26 + 1)  hf
set_option maxHeartbeats 4000000 in
set_option maxRecDepth 100000 in
theorem wX12_wind_l36 (C : CX p s m args meth c cX12_wind 7 (some .int) RX12 G) (hs0 : s.heap.size = G.1 + K.1) (hL : Lay K)  (k80 : MM → Int32 → Int32 → Int32 → Option (Int32 × MM)) (pp : (Int32 × MM)) (hk80 : ∀ (M15 : MM) (y16 : Int32) (y17 : Int32) (y18 : Int32), k80 M15 y16 y17 y18 = some pp → Z p l e (rmo 4 0 0) s m args below meth c 7 G (MQ below (QC G (some (.int pp.1)) K pp.2) args s 0 0 (AG G)) K 0 0 M15 80 [(3, .int y16), (4, .int y17), (5, .int y18)] []) : ∀ (n : Nat) (M9 : MM) (y10 : Int32) (y11 : Int32) (y12 : Int32) (y13 : Int32) (hf : fX12_wind_l36 k80 n M9 y10 y11 y12 y13 = some pp), Z p l e (rmo 4 0 0) s m args below meth c 7 G (MQ below (QC G (some (.int pp.1)) K pp.2) args s 0 0 (AG G)) K 0 0 M9 36 [(0, .ref (G.1 + 90)), (3, .int y10), (4, .int y11), (5, .int y12), (6, .int y13)] [] := by
  intro n
  induction n with
  | zero => intro M9 y10 y11 y12 y13 hf; exact nomatch (show (none : Option (Int32 × MM)) = some pp from hf)
  | succ n ih =>
    intro M9 y10 y11 y12 y13 hf
    rw [fX12_wind_l36.eq_2] at hf
    refine z_iload C 4 dX12_wind_36 rfl ?_
    refine z_aload_n C 0 0 dX12_wind_38 rfl rfl ?_
    refine z_getI C ok_X12 (lay_c90 hL) 14 (by decide) rfl q_fl_X12_216 dX12_wind_39 ?_
    refine z_icmp_ge C 80 dX12_wind_42 (by decide) (fun c14 => ?_) (fun c14 => ?_)
    · replace hf := ite_t c14 hf
      refine z_lv (lv2 := [(3, .int y10), (4, .int y11), (5, .int y12)]) [1, 2, 3] rfl ?_
      exact hk80 M9 y10 y11 y12  hf
    · replace hf := ite_f c14 hf
      refine z_iload C 3 dX12_wind_45 rfl ?_
      refine z_aload_n C 0 0 dX12_wind_47 rfl rfl ?_
      refine z_iload C 4 dX12_wind_48 rfl ?_
      replace hf := bd_out hf
      obtain ⟨p19, e20, hf⟩ := hf
      refine z_cV1 C [.int y12] (tX12_countOf l G hL M9 y13 _ e20) lk_X12_countOf ok_X12 (lay_c90 hL) q_ml_X12_276 rfl ⟨Nat.le_of_ble_eq_true rfl, Nat.le_of_ble_eq_true rfl⟩ rfl (Nat.le_of_ble_eq_true rfl) ⟨Nat.le_refl _, Nat.le_refl _⟩ dX12_wind_50 ?_
      refine z_aload_n C 0 0 dX12_wind_53 rfl rfl ?_
      refine z_getR C ok_X12 (lay_c90 hL) 17 (96) (by decide) rfl (lay_r90_17 hL) q_fl_X12_26 dX12_wind_54 ?_
      refine z_iload C 4 dX12_wind_57 rfl ?_
      replace hf := gd_out hf
      obtain ⟨g21, hf⟩ := hf
      refine z_iald C (lay_c96 hL) (inb_in g21) dX12_wind_59 ?_
      refine z_if_ne C 69 dX12_wind_60 (by decide) (fun c22 => ?_) (fun c22 => ?_)
      · replace hf := ite_f c22 hf
        refine z_iload_n C 1 3 dX12_wind_69 rfl rfl ?_
        refine z_lv (lv2 := [(0, .ref (G.1 + 90)), (3, .int y10), (4, .int y11), (6, .int y13)]) [0, 1, 2, 4] rfl ?_
        refine wX12_wind_j70 C hs0 hL _ pp ?_ M9 y10 y11 y13 y12 p19 y10 hf
        · intro M37 y38 y39 y40 y41 hf
          exact ih M37 y38 y39 y40 y41  hf
      · replace hf := ite_t c22 hf
        refine z_iload_n C 1 3 dX12_wind_63 rfl rfl ?_
        refine z_iconst C 1 dX12_wind_64 (by decide) ?_
        refine z_isub C dX12_wind_65 ?_
        refine z_goto C 70 dX12_wind_66 (by decide) ?_
        refine z_lv (lv2 := [(0, .ref (G.1 + 90)), (3, .int y10), (4, .int y11), (6, .int y13)]) [0, 1, 2, 4] rfl ?_
        refine wX12_wind_j70 C hs0 hL _ pp ?_ M9 y10 y11 y13 y12 p19 (y10 - 1) hf
        · intro M42 y43 y44 y45 y46 hf
          exact ih M42 y43 y44 y45 y46  hf
set_option maxHeartbeats 4000000 in
set_option maxRecDepth 100000 in
theorem wX12_wind_j91 (C : CX p s m args meth c cX12_wind 7 (some .int) RX12 G) (hs0 : s.heap.size = G.1 + K.1) (hL : Lay K)   (pp : (Int32 × MM))  (M52 : MM) (y53 : Int32) (y54 : Int32) (y55 : Int32) (hf : fX12_wind_j91 M52 y53 y54 y55 = some pp) : Z p l e (rmo 4 0 0) s m args below meth c 7 G (MQ below (QC G (some (.int pp.1)) K pp.2) args s 0 0 (AG G)) K 0 0 M52 91 [(3, .int y53), (5, .int y54)] [.int y55] := by
  unfold fX12_wind_j91 at hf
  refine z_iload C 1 dX12_wind_91 rfl ?_
  refine z_iload_n C 0 3 dX12_wind_93 rfl rfl ?_
  replace hf := bd_out hf
  obtain ⟨p56, e57, hf⟩ := hf
  refine z_cS1 C [.int y55] (tX12_common l G hL M52 y54 y53 _ e57) lk_X12_common q_ml_X12_363 rfl ⟨Nat.le_of_ble_eq_true rfl, Nat.le_of_ble_eq_true rfl⟩ rfl (Nat.le_of_ble_eq_true rfl) ⟨Nat.le_refl _, Nat.le_refl _⟩ dX12_wind_94 ?_
  replace hf := gd_out hf
  obtain ⟨g58, hf⟩ := hf
  refine z_idiv C (nz_ne g58) dX12_wind_97 ?_
  cases hf
  exact z_iret C rfl dX12_wind_98
set_option maxHeartbeats 4000000 in
set_option maxRecDepth 100000 in
theorem tX12_wind (l : Launch) (G : GG) {K : SK} (hL : Lay K) (M : MM) (x1 : Int32) (x2 : Int32) (x3 : Int32) (x4 : Int32) (pp : (Int32 × MM)) (hf : fX12_wind M x1 x2 x3 x4 = some pp) : Ct l yX12_wind cX12_wind 7 (some .int) 4 0 0 G K M [.ref (G.1 + 90), .int x1, .int x2, .int x3, .int x4] (some (.int pp.1)) K pp.2 := by
  refine z_enter (lv := [(0, .ref (G.1 + 90)), (1, .int x1), (2, .int x2), (3, .int x3), (4, .int x4)]) (by decide +kernel) (Nat.le_of_ble_eq_true rfl) rfl ?_
  intro p e s m args below meth c C hnm hs0
  replace C : CX p s m args meth c cX12_wind 7 (some .int) RX12 G := C
  unfold fX12_wind at hf
  refine z_aload_n C 0 0 dX12_wind_0 rfl rfl ?_
  refine z_iload_n C 1 1 dX12_wind_1 rfl rfl ?_
  refine z_iload_n C 2 2 dX12_wind_2 rfl rfl ?_
  replace hf := bd_out hf
  obtain ⟨p1, e2, hf⟩ := hf
  refine z_cV1 C [] (tX12_areTold l G hL M x1 x2 _ e2) lk_X12_areTold ok_X12 (lay_c90 hL) q_ml_X12_279 rfl ⟨Nat.le_of_ble_eq_true rfl, Nat.le_of_ble_eq_true rfl⟩ rfl (Nat.le_of_ble_eq_true rfl) ⟨Nat.le_refl _, Nat.le_refl _⟩ dX12_wind_3 ?_
  refine z_if_eq C 19 dX12_wind_6 (by decide) (fun c3 => ?_) (fun c3 => ?_)
  · replace hf := ite_t c3 hf
    refine z_iconst C (-1) dX12_wind_19 (by decide) ?_
    cases hf
    exact z_iret C rfl dX12_wind_20
  · replace hf := ite_f c3 hf
    refine z_iload_n C 3 3 dX12_wind_9 rfl rfl ?_
    refine z_iconst C 1 dX12_wind_10 (by decide) ?_
    refine z_bipush C 9 dX12_wind_11 (by decide) ?_
    refine z_cS1 C [] (tX12_isIn l G hL p1.2 x3 1 9) lk_X12_isIn q_ml_X12_141 rfl ⟨Nat.le_of_ble_eq_true rfl, Nat.le_of_ble_eq_true rfl⟩ rfl (Nat.le_of_ble_eq_true rfl) ⟨Nat.le_refl _, Nat.le_refl _⟩ dX12_wind_13 ?_
    refine z_if_ne C 21 dX12_wind_16 (by decide) (fun c4 => ?_) (fun c4 => ?_)
    · replace hf := ite_f c4 hf
      refine z_aload_n C 0 0 dX12_wind_21 rfl rfl ?_
      refine z_iconst C 0 dX12_wind_22 (by decide) ?_
      refine z_putI C ok_X12 (lay_c90 hL) 27 (by decide) rfl rfl rfl rfl q_fl_X12_264 dX12_wind_23 ?_
      refine z_M (fun M5 e6 => ?_)
      replace hf := bnd_out e6 hf
      refine z_aload_n C 0 0 dX12_wind_26 rfl rfl ?_
      replace hf := bd_out hf
      obtain ⟨p7, e8, hf⟩ := hf
      refine z_cV0 C [] (tX12_laysOut l G hL M5  _ e8) lk_X12_laysOut ok_X12 (lay_c90 hL) q_ml_X12_258 rfl ⟨Nat.le_of_ble_eq_true rfl, Nat.le_of_ble_eq_true rfl⟩ rfl (Nat.le_of_ble_eq_true rfl) ⟨Nat.le_refl _, Nat.le_refl _⟩ dX12_wind_27 ?_
      refine z_iconst C 0 dX12_wind_30 (by decide) ?_
      refine z_istore C [(5, .int 0), (0, .ref (G.1 + 90)), (1, .int x1), (2, .int x2), (3, .int x3), (4, .int x4)] dX12_wind_31 (by decide) rfl rfl ?_
      refine z_iconst C 0 dX12_wind_33 (by decide) ?_
      refine z_istore C [(6, .int 0), (5, .int 0), (0, .ref (G.1 + 90)), (1, .int x1), (2, .int x2), (3, .int x3), (4, .int x4)] dX12_wind_34 (by decide) rfl rfl ?_
      refine z_lv (lv2 := [(0, .ref (G.1 + 90)), (3, .int x3), (4, .int x4), (5, .int 0), (6, .int 0)]) [2, 5, 6, 1, 0] rfl ?_
      refine wX12_wind_l36 C hs0 hL _ pp ?_ FU p7 x3 x4 0 0 hf
      · intro M47 y48 y49 y50 hf
        refine z_iload C 1 dX12_wind_80 rfl ?_
        refine z_if_eq C 89 dX12_wind_82 (by decide) (fun c51 => ?_) (fun c51 => ?_)
        · replace hf := ite_t c51 hf
          refine z_iload C 2 dX12_wind_89 rfl ?_
          refine z_lv (lv2 := [(3, .int y48), (5, .int y50)]) [0, 2] rfl ?_
          exact wX12_wind_j91 C hs0 hL pp M47 y48 y50 y50 hf
        · replace hf := ite_f c51 hf
          refine z_iload_n C 0 3 dX12_wind_85 rfl rfl ?_
          refine z_goto C 91 dX12_wind_86 (by decide) ?_
          refine z_lv (lv2 := [(3, .int y48), (5, .int y50)]) [0, 2] rfl ?_
          exact wX12_wind_j91 C hs0 hL pp M47 y48 y50 y48 hf
    · replace hf := ite_t c4 hf
      refine z_iconst C (-1) dX12_wind_19 (by decide) ?_
      cases hf
      exact z_iret C rfl dX12_wind_20
set_option maxHeartbeats 4000000 in
set_option maxRecDepth 100000 in
theorem wX12_clan_j72 (C : CX p s m args meth c cX12_clan 6 (some .int) RX12 G) (hs0 : s.heap.size = G.1 + K.1) (hL : Lay K)  (k41 : MM → Int32 → Int32 → Int32 → Option (Int32 × MM)) (pp : (Int32 × MM)) (hk41 : ∀ (M31 : MM) (y32 : Int32) (y33 : Int32) (y34 : Int32), k41 M31 y32 y33 y34 = some pp → Z p l e (rmo 4 0 0) s m args below meth c 6 G (MQ below (QC G (some (.int pp.1)) K pp.2) args s 0 0 (AG G)) K 0 0 M31 41 [(0, .ref (G.1 + 90)), (3, .int y32), (4, .int y33), (5, .int y34)] []) (M24 : MM) (y25 : Int32) (y26 : Int32) (y27 : Int32) (y28 : Int32) (hf : fX12_clan_j72 k41 M24 y25 y26 y27 y28 = some pp) : Z p l e (rmo 4 0 0) s m args below meth c 6 G (MQ below (QC G (some (.int pp.1)) K pp.2) args s 0 0 (AG G)) K 0 0 M24 72 [(0, .ref (G.1 + 90)), (4, .int y25), (5, .int y26)] [.int y28, .int y27] := by
  unfold fX12_clan_j72 at hf
  refine z_ior C dX12_clan_72 ?_
  refine z_topi (fun v29 e30 => ?_)
  replace hf := bnd_out e30 hf
  refine z_istore_n C [(3, .int v29), (0, .ref (G.1 + 90)), (4, .int y25), (5, .int y26)] dX12_clan_73 rfl (by decide) rfl rfl ?_
  refine z_iinc C 3 (y26 + 1) [(5, .int (y26 + 1)), (3, .int v29), (0, .ref (G.1 + 90)), (4, .int y25)] dX12_clan_74 rfl rfl (by decide) rfl rfl ?_
  refine z_goto C 41 dX12_clan_77 (by decide) ?_
  refine z_lv (lv2 := [(0, .ref (G.1 + 90)), (3, .int v29), (4, .int y25), (5, .int (y26 + 1))]) [2, 1, 3, 0] rfl ?_
  exact hk41 M24 v29 y25 (y26 + 1)  hf
set_option maxHeartbeats 4000000 in
set_option maxRecDepth 100000 in
theorem wX12_clan_l41 (C : CX p s m args meth c cX12_clan 6 (some .int) RX12 G) (hs0 : s.heap.size = G.1 + K.1) (hL : Lay K)  (k80 : MM → Int32 → Int32 → Option (Int32 × MM)) (pp : (Int32 × MM)) (hk80 : ∀ (M20 : MM) (y21 : Int32) (y22 : Int32), k80 M20 y21 y22 = some pp → Z p l e (rmo 4 0 0) s m args below meth c 6 G (MQ below (QC G (some (.int pp.1)) K pp.2) args s 0 0 (AG G)) K 0 0 M20 80 [(0, .ref (G.1 + 90)), (3, .int y21), (4, .int y22)] []) : ∀ (n : Nat) (M15 : MM) (y16 : Int32) (y17 : Int32) (y18 : Int32) (hf : fX12_clan_l41 k80 n M15 y16 y17 y18 = some pp), Z p l e (rmo 4 0 0) s m args below meth c 6 G (MQ below (QC G (some (.int pp.1)) K pp.2) args s 0 0 (AG G)) K 0 0 M15 41 [(0, .ref (G.1 + 90)), (3, .int y16), (4, .int y17), (5, .int y18)] [] := by
  intro n
  induction n with
  | zero => intro M15 y16 y17 y18 hf; exact nomatch (show (none : Option (Int32 × MM)) = some pp from hf)
  | succ n ih =>
    intro M15 y16 y17 y18 hf
    rw [fX12_clan_l41.eq_2] at hf
    refine z_iload C 3 dX12_clan_41 rfl ?_
    refine z_aload_n C 0 0 dX12_clan_43 rfl rfl ?_
    refine z_getI C ok_X12 (lay_c90 hL) 14 (by decide) rfl q_fl_X12_216 dX12_clan_44 ?_
    refine z_icmp_ge C 80 dX12_clan_47 (by decide) (fun c19 => ?_) (fun c19 => ?_)
    · replace hf := ite_t c19 hf
      refine z_lv (lv2 := [(0, .ref (G.1 + 90)), (3, .int y16), (4, .int y17)]) [0, 1, 2] rfl ?_
      exact hk80 M15 y16 y17  hf
    · replace hf := ite_f c19 hf
      refine z_iload_n C 1 3 dX12_clan_50 rfl rfl ?_
      refine z_iload_n C 1 3 dX12_clan_51 rfl rfl ?_
      refine z_iload C 3 dX12_clan_52 rfl ?_
      refine z_ishr C dX12_clan_54 ?_
      refine z_iconst C 1 dX12_clan_55 (by decide) ?_
      refine z_iand C dX12_clan_56 ?_
      refine z_iconst C 1 dX12_clan_57 (by decide) ?_
      refine z_icmp_ne C 71 dX12_clan_58 (by decide) (fun c23 => ?_) (fun c23 => ?_)
      · replace hf := ite_f c23 hf
        refine z_iconst C 0 dX12_clan_71 (by decide) ?_
        refine z_lv (lv2 := [(0, .ref (G.1 + 90)), (4, .int y17), (5, .int y18)]) [0, 2, 3] rfl ?_
        refine wX12_clan_j72 C hs0 hL _ pp ?_ M15 y17 y18 y16 0 hf
        · intro M35 y36 y37 y38 hf
          exact ih M35 y36 y37 y38  hf
      · replace hf := ite_t c23 hf
        refine z_aload_n C 0 0 dX12_clan_61 rfl rfl ?_
        refine z_getR C ok_X12 (lay_c90 hL) 25 (103) (by decide) rfl (lay_r90_25 hL) q_fl_X12_47 dX12_clan_62 ?_
        refine z_iload C 3 dX12_clan_65 rfl ?_
        replace hf := gd_out hf
        obtain ⟨g39, hf⟩ := hf
        refine z_iald C (lay_c103 hL) (inb_in g39) dX12_clan_67 ?_
        refine z_goto C 72 dX12_clan_68 (by decide) ?_
        refine z_lv (lv2 := [(0, .ref (G.1 + 90)), (4, .int y17), (5, .int y18)]) [0, 2, 3] rfl ?_
        refine wX12_clan_j72 C hs0 hL _ pp ?_ M15 y17 y18 y16 (gI M15 103 (ix y18)) hf
        · intro M40 y41 y42 y43 hf
          exact ih M40 y41 y42 y43  hf
set_option maxHeartbeats 4000000 in
set_option maxRecDepth 100000 in
theorem wX12_clan_l29 (C : CX p s m args meth c cX12_clan 6 (some .int) RX12 G) (hs0 : s.heap.size = G.1 + K.1) (hL : Lay K)   (pp : (Int32 × MM))  : ∀ (n : Nat) (M11 : MM) (y12 : Int32) (y13 : Int32) (hf : fX12_clan_l29 n M11 y12 y13 = some pp), Z p l e (rmo 4 0 0) s m args below meth c 6 G (MQ below (QC G (some (.int pp.1)) K pp.2) args s 0 0 (AG G)) K 0 0 M11 29 [(0, .ref (G.1 + 90)), (3, .int y12), (4, .int y13)] [] := by
  intro n
  induction n with
  | zero => intro M11 y12 y13 hf; exact nomatch (show (none : Option (Int32 × MM)) = some pp from hf)
  | succ n ih =>
    intro M11 y12 y13 hf
    rw [fX12_clan_l29.eq_2] at hf
    refine z_iload C 2 dX12_clan_29 rfl ?_
    refine z_aload_n C 0 0 dX12_clan_31 rfl rfl ?_
    refine z_getI C ok_X12 (lay_c90 hL) 14 (by decide) rfl q_fl_X12_216 dX12_clan_32 ?_
    refine z_icmp_ge C 86 dX12_clan_35 (by decide) (fun c14 => ?_) (fun c14 => ?_)
    · replace hf := ite_t c14 hf
      refine z_iload_n C 1 3 dX12_clan_86 rfl rfl ?_
      cases hf
      exact z_iret C rfl dX12_clan_87
    · replace hf := ite_f c14 hf
      refine z_iconst C 0 dX12_clan_38 (by decide) ?_
      refine z_istore C [(5, .int 0), (0, .ref (G.1 + 90)), (3, .int y12), (4, .int y13)] dX12_clan_39 (by decide) rfl rfl ?_
      refine z_lv (lv2 := [(0, .ref (G.1 + 90)), (3, .int y12), (4, .int y13), (5, .int 0)]) [1, 2, 3, 0] rfl ?_
      refine wX12_clan_l41 C hs0 hL _ pp ?_ FU M11 y12 y13 0 hf
      · intro M44 y45 y46 hf
        refine z_iinc C 2 (y46 + 1) [(4, .int (y46 + 1)), (0, .ref (G.1 + 90)), (3, .int y45)] dX12_clan_80 rfl rfl (by decide) rfl rfl ?_
        refine z_goto C 29 dX12_clan_83 (by decide) ?_
        refine z_lv (lv2 := [(0, .ref (G.1 + 90)), (3, .int y45), (4, .int (y46 + 1))]) [1, 2, 0] rfl ?_
        exact ih M44 y45 (y46 + 1)  hf
set_option maxHeartbeats 4000000 in
set_option maxRecDepth 100000 in
theorem tX12_clan (l : Launch) (G : GG) {K : SK} (hL : Lay K) (M : MM) (x1 : Int32) (x2 : Int32) (pp : (Int32 × MM)) (hf : fX12_clan M x1 x2 = some pp) : Ct l yX12_clan cX12_clan 6 (some .int) 4 0 0 G K M [.ref (G.1 + 90), .int x1, .int x2] (some (.int pp.1)) K pp.2 := by
  refine z_enter (lv := [(0, .ref (G.1 + 90)), (1, .int x1), (2, .int x2)]) (by decide +kernel) (Nat.le_of_ble_eq_true rfl) rfl ?_
  intro p e s m args below meth c C hnm hs0
  replace C : CX p s m args meth c cX12_clan 6 (some .int) RX12 G := C
  unfold fX12_clan at hf
  refine z_aload_n C 0 0 dX12_clan_0 rfl rfl ?_
  refine z_iload_n C 1 1 dX12_clan_1 rfl rfl ?_
  replace hf := bd_out hf
  obtain ⟨p1, e2, hf⟩ := hf
  refine z_cV1 C [] (tX12_isParish l G hL M x1 _ e2) lk_X12_isParish ok_X12 (lay_c90 hL) q_ml_X12_225 rfl ⟨Nat.le_of_ble_eq_true rfl, Nat.le_of_ble_eq_true rfl⟩ rfl (Nat.le_of_ble_eq_true rfl) ⟨Nat.le_refl _, Nat.le_refl _⟩ dX12_clan_2 ?_
  refine z_if_eq C 16 dX12_clan_5 (by decide) (fun c3 => ?_) (fun c3 => ?_)
  · replace hf := ite_t c3 hf
    refine z_iconst C (-1) dX12_clan_16 (by decide) ?_
    cases hf
    exact z_iret C rfl dX12_clan_17
  · replace hf := ite_f c3 hf
    refine z_aload_n C 0 0 dX12_clan_8 rfl rfl ?_
    refine z_iload_n C 2 2 dX12_clan_9 rfl rfl ?_
    replace hf := bd_out hf
    obtain ⟨p4, e5, hf⟩ := hf
    refine z_cV1 C [] (tX12_isShine l G hL p1.2 x2 _ e5) lk_X12_isShine ok_X12 (lay_c90 hL) q_ml_X12_234 rfl ⟨Nat.le_of_ble_eq_true rfl, Nat.le_of_ble_eq_true rfl⟩ rfl (Nat.le_of_ble_eq_true rfl) ⟨Nat.le_refl _, Nat.le_refl _⟩ dX12_clan_10 ?_
    refine z_if_ne C 18 dX12_clan_13 (by decide) (fun c6 => ?_) (fun c6 => ?_)
    · replace hf := ite_f c6 hf
      refine z_aload_n C 0 0 dX12_clan_18 rfl rfl ?_
      replace hf := bd_out hf
      obtain ⟨p7, e8, hf⟩ := hf
      refine z_cV0 C [] (tX12_laysOut l G hL p1.2  _ e8) lk_X12_laysOut ok_X12 (lay_c90 hL) q_ml_X12_258 rfl ⟨Nat.le_of_ble_eq_true rfl, Nat.le_of_ble_eq_true rfl⟩ rfl (Nat.le_of_ble_eq_true rfl) ⟨Nat.le_refl _, Nat.le_refl _⟩ dX12_clan_19 ?_
      refine z_iconst C 1 dX12_clan_22 (by decide) ?_
      refine z_iload_n C 2 2 dX12_clan_23 rfl rfl ?_
      refine z_ishl C dX12_clan_24 ?_
      refine z_topi (fun v9 e10 => ?_)
      replace hf := bnd_out e10 hf
      refine z_istore_n C [(3, .int v9), (0, .ref (G.1 + 90)), (1, .int x1), (2, .int x2)] dX12_clan_25 rfl (by decide) rfl rfl ?_
      refine z_iconst C 0 dX12_clan_26 (by decide) ?_
      refine z_istore C [(4, .int 0), (3, .int v9), (0, .ref (G.1 + 90)), (1, .int x1), (2, .int x2)] dX12_clan_27 (by decide) rfl rfl ?_
      refine z_lv (lv2 := [(0, .ref (G.1 + 90)), (3, .int v9), (4, .int 0)]) [2, 1, 0] rfl ?_
      exact wX12_clan_l29 C hs0 hL pp FU p7 v9 0 hf
    · replace hf := ite_t c6 hf
      refine z_iconst C (-1) dX12_clan_16 (by decide) ?_
      cases hf
      exact z_iret C rfl dX12_clan_17
set_option maxHeartbeats 4000000 in
set_option maxRecDepth 100000 in
theorem wX12_puddle_j62 (C : CX p s m args meth c cX12_puddle 7 (some .int) RX12 G) (hs0 : s.heap.size = G.1 + K.1) (hL : Lay K)  (k24 : MM → Int32 → Int32 → Int32 → Int32 → Option (Int32 × MM)) (pp : (Int32 × MM)) (hk24 : ∀ (M25 : MM) (y26 : Int32) (y27 : Int32) (y28 : Int32) (y29 : Int32), k24 M25 y26 y27 y28 y29 = some pp → Z p l e (rmo 4 0 0) s m args below meth c 7 G (MQ below (QC G (some (.int pp.1)) K pp.2) args s 0 0 (AG G)) K 0 0 M25 24 [(0, .ref (G.1 + 90)), (3, .int y26), (4, .int y27), (5, .int y28), (6, .int y29)] []) (M20 : MM) (y21 : Int32) (y22 : Int32) (hf : fX12_puddle_j62 k24 M20 y21 y22 = some pp) : Z p l e (rmo 4 0 0) s m args below meth c 7 G (MQ below (QC G (some (.int pp.1)) K pp.2) args s 0 0 (AG G)) K 0 0 M20 62 [(0, .ref (G.1 + 90)), (3, .int y21), (6, .int y22)] [] := by
  unfold fX12_puddle_j62 at hf
  refine z_iload C 2 dX12_puddle_62 rfl ?_
  refine z_istore C [(4, .int y22), (0, .ref (G.1 + 90)), (3, .int y21), (6, .int y22)] dX12_puddle_64 (by decide) rfl rfl ?_
  refine z_aload_n C 1 0 dX12_puddle_66 rfl rfl ?_
  refine z_iload C 3 dX12_puddle_67 rfl ?_
  replace hf := bd_out hf
  obtain ⟨p23, e24, hf⟩ := hf
  refine z_cV1 C [] (tX12_countOf l G hL M20 y22 _ e24) lk_X12_countOf ok_X12 (lay_c90 hL) q_ml_X12_276 rfl ⟨Nat.le_of_ble_eq_true rfl, Nat.le_of_ble_eq_true rfl⟩ rfl (Nat.le_of_ble_eq_true rfl) ⟨Nat.le_refl _, Nat.le_refl _⟩ dX12_puddle_69 ?_
  refine z_istore C [(5, .int p23), (4, .int y22), (0, .ref (G.1 + 90)), (3, .int y21), (6, .int y22)] dX12_puddle_72 (by decide) rfl rfl ?_
  refine z_iinc C 4 (y22 + 1) [(6, .int (y22 + 1)), (5, .int p23), (4, .int y22), (0, .ref (G.1 + 90)), (3, .int y21)] dX12_puddle_74 rfl rfl (by decide) rfl rfl ?_
  refine z_goto C 24 dX12_puddle_77 (by decide) ?_
  refine z_lv (lv2 := [(0, .ref (G.1 + 90)), (3, .int y21), (4, .int y22), (5, .int p23), (6, .int (y22 + 1))]) [3, 4, 2, 1, 0] rfl ?_
  exact hk24 M20 y21 y22 p23 (y22 + 1)  hf
set_option maxHeartbeats 4000000 in
set_option maxRecDepth 100000 in
theorem wX12_puddle_l24 (C : CX p s m args meth c cX12_puddle 7 (some .int) RX12 G) (hs0 : s.heap.size = G.1 + K.1) (hL : Lay K)  (k80 : MM → Int32 → Int32 → Int32 → Option (Int32 × MM)) (pp : (Int32 × MM)) (hk80 : ∀ (M12 : MM) (y13 : Int32) (y14 : Int32) (y15 : Int32), k80 M12 y13 y14 y15 = some pp → Z p l e (rmo 4 0 0) s m args below meth c 7 G (MQ below (QC G (some (.int pp.1)) K pp.2) args s 0 0 (AG G)) K 0 0 M12 80 [(3, .int y13), (4, .int y14), (5, .int y15)] []) : ∀ (n : Nat) (M6 : MM) (y7 : Int32) (y8 : Int32) (y9 : Int32) (y10 : Int32) (hf : fX12_puddle_l24 k80 n M6 y7 y8 y9 y10 = some pp), Z p l e (rmo 4 0 0) s m args below meth c 7 G (MQ below (QC G (some (.int pp.1)) K pp.2) args s 0 0 (AG G)) K 0 0 M6 24 [(0, .ref (G.1 + 90)), (3, .int y7), (4, .int y8), (5, .int y9), (6, .int y10)] [] := by
  intro n
  induction n with
  | zero => intro M6 y7 y8 y9 y10 hf; exact nomatch (show (none : Option (Int32 × MM)) = some pp from hf)
  | succ n ih =>
    intro M6 y7 y8 y9 y10 hf
    rw [fX12_puddle_l24.eq_2] at hf
    refine z_iload C 4 dX12_puddle_24 rfl ?_
    refine z_aload_n C 0 0 dX12_puddle_26 rfl rfl ?_
    refine z_getI C ok_X12 (lay_c90 hL) 14 (by decide) rfl q_fl_X12_216 dX12_puddle_27 ?_
    refine z_icmp_ge C 80 dX12_puddle_30 (by decide) (fun c11 => ?_) (fun c11 => ?_)
    · replace hf := ite_t c11 hf
      refine z_lv (lv2 := [(3, .int y7), (4, .int y8), (5, .int y9)]) [1, 2, 3] rfl ?_
      exact hk80 M6 y7 y8 y9  hf
    · replace hf := ite_f c11 hf
      refine z_aload_n C 0 0 dX12_puddle_33 rfl rfl ?_
      refine z_getR C ok_X12 (lay_c90 hL) 20 (99) (by decide) rfl (lay_r90_20 hL) q_fl_X12_35 dX12_puddle_34 ?_
      refine z_iload C 4 dX12_puddle_37 rfl ?_
      refine z_bipush C 9 dX12_puddle_39 (by decide) ?_
      replace hf := gd_out hf
      obtain ⟨g16, hf⟩ := hf
      refine z_iast C (lay_c99 hL) (inb_in g16) dX12_puddle_41 ?_
      refine z_M (fun M17 e18 => ?_)
      replace hf := bnd_out e18 hf
      refine z_iload C 2 dX12_puddle_42 rfl ?_
      refine z_iconst C (-1) dX12_puddle_44 (by decide) ?_
      refine z_icmp_eq C 62 dX12_puddle_45 (by decide) (fun c19 => ?_) (fun c19 => ?_)
      · replace hf := ite_t c19 hf
        refine z_lv (lv2 := [(0, .ref (G.1 + 90)), (3, .int y7), (6, .int y10)]) [0, 1, 4] rfl ?_
        refine wX12_puddle_j62 C hs0 hL _ pp ?_ M17 y7 y10 hf
        · intro M30 y31 y32 y33 y34 hf
          exact ih M30 y31 y32 y33 y34  hf
      · replace hf := ite_f c19 hf
        refine z_aload_n C 0 0 dX12_puddle_48 rfl rfl ?_
        refine z_iload C 4 dX12_puddle_49 rfl ?_
        replace hf := bd_out hf
        obtain ⟨p35, e36, hf⟩ := hf
        refine z_cV1 C [] (tX12_countOf l G hL M17 y10 _ e36) lk_X12_countOf ok_X12 (lay_c90 hL) q_ml_X12_276 rfl ⟨Nat.le_of_ble_eq_true rfl, Nat.le_of_ble_eq_true rfl⟩ rfl (Nat.le_of_ble_eq_true rfl) ⟨Nat.le_refl _, Nat.le_refl _⟩ dX12_puddle_51 ?_
        refine z_iload C 3 dX12_puddle_54 rfl ?_
        refine z_icmp_gt C 62 dX12_puddle_56 (by decide) (fun c37 => ?_) (fun c37 => ?_)
        · replace hf := ite_t c37 hf
          refine z_lv (lv2 := [(0, .ref (G.1 + 90)), (3, .int y7), (6, .int y10)]) [0, 1, 4] rfl ?_
          refine wX12_puddle_j62 C hs0 hL _ pp ?_ M17 y7 y10 hf
          · intro M38 y39 y40 y41 y42 hf
            exact ih M38 y39 y40 y41 y42  hf
        · replace hf := ite_f c37 hf
          refine z_goto C 74 dX12_puddle_59 (by decide) ?_
          refine z_iinc C 4 (y10 + 1) [(6, .int (y10 + 1)), (0, .ref (G.1 + 90)), (3, .int y7), (4, .int y8), (5, .int y9)] dX12_puddle_74 rfl rfl (by decide) rfl rfl ?_
          refine z_goto C 24 dX12_puddle_77 (by decide) ?_
          refine z_lv (lv2 := [(0, .ref (G.1 + 90)), (3, .int y7), (4, .int y8), (5, .int y9), (6, .int (y10 + 1))]) [1, 2, 3, 4, 0] rfl ?_
          exact ih M17 y7 y8 y9 (y10 + 1)  hf
set_option maxHeartbeats 4000000 in
set_option maxRecDepth 100000 in
theorem tX12_puddle (l : Launch) (G : GG) {K : SK} (hL : Lay K) (M : MM) (x1 : Int32) (x2 : Int32) (x3 : Int32) (pp : (Int32 × MM)) (hf : fX12_puddle M x1 x2 x3 = some pp) : Ct l yX12_puddle cX12_puddle 7 (some .int) 4 0 0 G K M [.ref (G.1 + 90), .int x1, .int x2, .int x3] (some (.int pp.1)) K pp.2 := by
  refine z_enter (lv := [(0, .ref (G.1 + 90)), (1, .int x1), (2, .int x2), (3, .int x3)]) (by decide +kernel) (Nat.le_of_ble_eq_true rfl) rfl ?_
  intro p e s m args below meth c C hnm hs0
  replace C : CX p s m args meth c cX12_puddle 7 (some .int) RX12 G := C
  unfold fX12_puddle at hf
  refine z_aload_n C 0 0 dX12_puddle_0 rfl rfl ?_
  refine z_iload_n C 1 1 dX12_puddle_1 rfl rfl ?_
  refine z_iload_n C 2 2 dX12_puddle_2 rfl rfl ?_
  replace hf := bd_out hf
  obtain ⟨p1, e2, hf⟩ := hf
  refine z_cV1 C [] (tX12_areTold l G hL M x1 x2 _ e2) lk_X12_areTold ok_X12 (lay_c90 hL) q_ml_X12_279 rfl ⟨Nat.le_of_ble_eq_true rfl, Nat.le_of_ble_eq_true rfl⟩ rfl (Nat.le_of_ble_eq_true rfl) ⟨Nat.le_refl _, Nat.le_refl _⟩ dX12_puddle_3 ?_
  refine z_if_ne C 11 dX12_puddle_6 (by decide) (fun c3 => ?_) (fun c3 => ?_)
  · replace hf := ite_f c3 hf
    refine z_aload_n C 0 0 dX12_puddle_11 rfl rfl ?_
    replace hf := bd_out hf
    obtain ⟨p4, e5, hf⟩ := hf
    refine z_cV0 C [] (tX12_laysOut l G hL p1.2  _ e5) lk_X12_laysOut ok_X12 (lay_c90 hL) q_ml_X12_258 rfl ⟨Nat.le_of_ble_eq_true rfl, Nat.le_of_ble_eq_true rfl⟩ rfl (Nat.le_of_ble_eq_true rfl) ⟨Nat.le_refl _, Nat.le_refl _⟩ dX12_puddle_12 ?_
    refine z_iconst C (-1) dX12_puddle_15 (by decide) ?_
    refine z_istore C [(4, .int (-1)), (0, .ref (G.1 + 90)), (1, .int x1), (2, .int x2), (3, .int x3)] dX12_puddle_16 (by decide) rfl rfl ?_
    refine z_iconst C 0 dX12_puddle_18 (by decide) ?_
    refine z_istore C [(5, .int 0), (4, .int (-1)), (0, .ref (G.1 + 90)), (1, .int x1), (2, .int x2), (3, .int x3)] dX12_puddle_19 (by decide) rfl rfl ?_
    refine z_iconst C 0 dX12_puddle_21 (by decide) ?_
    refine z_istore C [(6, .int 0), (5, .int 0), (4, .int (-1)), (0, .ref (G.1 + 90)), (1, .int x1), (2, .int x2), (3, .int x3)] dX12_puddle_22 (by decide) rfl rfl ?_
    refine z_lv (lv2 := [(0, .ref (G.1 + 90)), (3, .int x3), (4, .int (-1)), (5, .int 0), (6, .int 0)]) [3, 6, 2, 1, 0] rfl ?_
    refine wX12_puddle_l24 C hs0 hL _ pp ?_ FU p4 x3 (-1) 0 0 hf
    · intro M43 y44 y45 y46 hf
      refine z_iload C 1 dX12_puddle_80 rfl ?_
      refine z_iconst C (-1) dX12_puddle_82 (by decide) ?_
      refine z_icmp_eq C 90 dX12_puddle_83 (by decide) (fun c47 => ?_) (fun c47 => ?_)
      · replace hf := ite_t c47 hf
        refine z_iload C 1 dX12_puddle_90 rfl ?_
        refine z_goto C 97 dX12_puddle_92 (by decide) ?_
        cases hf
        exact z_iret C rfl dX12_puddle_97
      · replace hf := ite_f c47 hf
        refine z_iload_n C 0 3 dX12_puddle_86 rfl rfl ?_
        refine z_if_ne C 95 dX12_puddle_87 (by decide) (fun c48 => ?_) (fun c48 => ?_)
        · replace hf := ite_f c48 hf
          refine z_iload C 2 dX12_puddle_95 rfl ?_
          cases hf
          exact z_iret C rfl dX12_puddle_97
        · replace hf := ite_t c48 hf
          refine z_iload C 1 dX12_puddle_90 rfl ?_
          refine z_goto C 97 dX12_puddle_92 (by decide) ?_
          cases hf
          exact z_iret C rfl dX12_puddle_97
  · replace hf := ite_t c3 hf
    refine z_iconst C (-1) dX12_puddle_9 (by decide) ?_
    cases hf
    exact z_iret C rfl dX12_puddle_10
set_option maxHeartbeats 4000000 in
set_option maxRecDepth 100000 in
theorem wX12_isBlind_j37 (C : CX p s m args meth c cX12_isBlind 4 (some .boolean) RX12 G) (hs0 : s.heap.size = G.1 + K.1) (hL : Lay K) (M : MM) (k4 : Int32 → Int32 → Int32 → Option Int32) (pp : Int32) (hk4 : ∀ (y12 : Int32) (y13 : Int32) (y14 : Int32), k4 y12 y13 y14 = some pp → Z p l e (rmo 0 0 0) s m args below meth c 4 G (MQ below (QC G (some (.int pp)) K M) args s 0 0 (AG G)) K 0 0 M 4 [(0, .ref (G.1 + 90)), (1, .int y12), (2, .int y13), (3, .int y14)] []) (y9 : Int32) (y10 : Int32) (y11 : Int32) (hf : fX12_isBlind_j37 M k4 y9 y10 y11 = some pp) : Z p l e (rmo 0 0 0) s m args below meth c 4 G (MQ below (QC G (some (.int pp)) K M) args s 0 0 (AG G)) K 0 0 M 37 [(0, .ref (G.1 + 90)), (1, .int y9), (3, .int y10)] [.int y11] := by
  unfold fX12_isBlind_j37 at hf
  refine z_istore_n C [(2, .int y11), (0, .ref (G.1 + 90)), (1, .int y9), (3, .int y10)] dX12_isBlind_37 rfl (by decide) rfl rfl ?_
  refine z_iinc C 3 (y10 + 1) [(3, .int (y10 + 1)), (2, .int y11), (0, .ref (G.1 + 90)), (1, .int y9)] dX12_isBlind_38 rfl rfl (by decide) rfl rfl ?_
  refine z_goto C 4 dX12_isBlind_41 (by decide) ?_
  refine z_lv (lv2 := [(0, .ref (G.1 + 90)), (1, .int y9), (2, .int y11), (3, .int (y10 + 1))]) [2, 3, 1, 0] rfl ?_
  exact hk4 y9 y11 (y10 + 1)  hf
set_option maxHeartbeats 4000000 in
set_option maxRecDepth 100000 in
theorem wX12_isBlind_j36 (C : CX p s m args meth c cX12_isBlind 4 (some .boolean) RX12 G) (hs0 : s.heap.size = G.1 + K.1) (hL : Lay K) (M : MM) (k4 : Int32 → Int32 → Int32 → Option Int32) (pp : Int32) (hk4 : ∀ (y18 : Int32) (y19 : Int32) (y20 : Int32), k4 y18 y19 y20 = some pp → Z p l e (rmo 0 0 0) s m args below meth c 4 G (MQ below (QC G (some (.int pp)) K M) args s 0 0 (AG G)) K 0 0 M 4 [(0, .ref (G.1 + 90)), (1, .int y18), (2, .int y19), (3, .int y20)] []) (y7 : Int32) (y8 : Int32) (hf : fX12_isBlind_j36 M k4 y7 y8 = some pp) : Z p l e (rmo 0 0 0) s m args below meth c 4 G (MQ below (QC G (some (.int pp)) K M) args s 0 0 (AG G)) K 0 0 M 36 [(0, .ref (G.1 + 90)), (1, .int y7), (3, .int y8)] [] := by
  unfold fX12_isBlind_j36 at hf
  refine z_iconst C 0 dX12_isBlind_36 (by decide) ?_
  refine wX12_isBlind_j37 C hs0 hL M _ pp ?_ y7 y8 0 hf
  · intro y15 y16 y17 hf
    exact hk4 y15 y16 y17  hf
set_option maxHeartbeats 4000000 in
set_option maxRecDepth 100000 in
theorem wX12_isBlind_l4 (C : CX p s m args meth c cX12_isBlind 4 (some .boolean) RX12 G) (hs0 : s.heap.size = G.1 + K.1) (hL : Lay K) (M : MM)  (pp : Int32)  : ∀ (n : Nat) (y1 : Int32) (y2 : Int32) (y3 : Int32) (hf : fX12_isBlind_l4 M n y1 y2 y3 = some pp), Z p l e (rmo 0 0 0) s m args below meth c 4 G (MQ below (QC G (some (.int pp)) K M) args s 0 0 (AG G)) K 0 0 M 4 [(0, .ref (G.1 + 90)), (1, .int y1), (2, .int y2), (3, .int y3)] [] := by
  intro n
  induction n with
  | zero => intro y1 y2 y3 hf; exact nomatch (show (none : Option Int32) = some pp from hf)
  | succ n ih =>
    intro y1 y2 y3 hf
    rw [fX12_isBlind_l4.eq_2] at hf
    refine z_iload_n C 3 3 dX12_isBlind_4 rfl rfl ?_
    refine z_aload_n C 0 0 dX12_isBlind_5 rfl rfl ?_
    refine z_getI C ok_X12 (lay_c90 hL) 14 (by decide) rfl q_fl_X12_216 dX12_isBlind_6 ?_
    refine z_icmp_ge C 44 dX12_isBlind_9 (by decide) (fun c4 => ?_) (fun c4 => ?_)
    · replace hf := ite_t c4 hf
      refine z_iload_n C 2 2 dX12_isBlind_44 rfl rfl ?_
      replace hf := gd_out hf
      obtain ⟨g5, hf⟩ := hf
      cases hf
      exact z_zret C rfl (isb_n g5) dX12_isBlind_45
    · replace hf := ite_f c4 hf
      refine z_iload_n C 2 2 dX12_isBlind_12 rfl rfl ?_
      refine z_if_eq C 36 dX12_isBlind_13 (by decide) (fun c6 => ?_) (fun c6 => ?_)
      · replace hf := ite_t c6 hf
        refine z_lv (lv2 := [(0, .ref (G.1 + 90)), (1, .int y1), (3, .int y3)]) [0, 1, 3] rfl ?_
        refine wX12_isBlind_j36 C hs0 hL M _ pp ?_ y1 y3 hf
        · intro y21 y22 y23 hf
          exact ih y21 y22 y23  hf
      · replace hf := ite_f c6 hf
        refine z_aload_n C 0 0 dX12_isBlind_16 rfl rfl ?_
        refine z_getR C ok_X12 (lay_c90 hL) 24 (102) (by decide) rfl (lay_r90_24 hL) q_fl_X12_44 dX12_isBlind_17 ?_
        refine z_bipush C 8 dX12_isBlind_20 (by decide) ?_
        refine z_iload_n C 3 3 dX12_isBlind_22 rfl rfl ?_
        refine z_imul C dX12_isBlind_23 ?_
        refine z_iload_n C 1 1 dX12_isBlind_24 rfl rfl ?_
        refine z_iadd C dX12_isBlind_25 ?_
        replace hf := gd_out hf
        obtain ⟨g24, hf⟩ := hf
        refine z_iald C (lay_c102 hL) (inb_in g24) dX12_isBlind_26 ?_
        refine z_bipush C 99 dX12_isBlind_27 (by decide) ?_
        refine z_icmp_ne C 36 dX12_isBlind_29 (by decide) (fun c25 => ?_) (fun c25 => ?_)
        · replace hf := ite_f c25 hf
          refine z_lv (lv2 := [(0, .ref (G.1 + 90)), (1, .int y1), (3, .int y3)]) [0, 1, 3] rfl ?_
          refine wX12_isBlind_j36 C hs0 hL M _ pp ?_ y1 y3 hf
          · intro y26 y27 y28 hf
            exact ih y26 y27 y28  hf
        · replace hf := ite_t c25 hf
          refine z_iconst C 1 dX12_isBlind_32 (by decide) ?_
          refine z_goto C 37 dX12_isBlind_33 (by decide) ?_
          refine z_lv (lv2 := [(0, .ref (G.1 + 90)), (1, .int y1), (3, .int y3)]) [0, 1, 3] rfl ?_
          refine wX12_isBlind_j37 C hs0 hL M _ pp ?_ y1 y3 1 hf
          · intro y29 y30 y31 hf
            exact ih y29 y30 y31  hf
set_option maxHeartbeats 4000000 in
set_option maxRecDepth 100000 in
theorem tX12_isBlind (l : Launch) (G : GG) {K : SK} (hL : Lay K) (M : MM) (x1 : Int32) (pp : Int32) (hf : fX12_isBlind M x1 = some pp) : Ct l yX12_isBlind cX12_isBlind 4 (some .boolean) 0 0 0 G K M [.ref (G.1 + 90), .int x1] (some (.int pp)) K M := by
  refine z_enter (lv := [(0, .ref (G.1 + 90)), (1, .int x1)]) (by decide +kernel) (Nat.le_of_ble_eq_true rfl) rfl ?_
  intro p e s m args below meth c C hnm hs0
  replace C : CX p s m args meth c cX12_isBlind 4 (some .boolean) RX12 G := C
  unfold fX12_isBlind at hf
  refine z_iconst C 1 dX12_isBlind_0 (by decide) ?_
  refine z_istore_n C [(2, .int 1), (0, .ref (G.1 + 90)), (1, .int x1)] dX12_isBlind_1 rfl (by decide) rfl rfl ?_
  refine z_iconst C 0 dX12_isBlind_2 (by decide) ?_
  refine z_istore_n C [(3, .int 0), (2, .int 1), (0, .ref (G.1 + 90)), (1, .int x1)] dX12_isBlind_3 rfl (by decide) rfl rfl ?_
  refine z_lv (lv2 := [(0, .ref (G.1 + 90)), (1, .int x1), (2, .int 1), (3, .int 0)]) [2, 3, 1, 0] rfl ?_
  exact wX12_isBlind_l4 C hs0 hL M pp FU x1 1 0 hf
set_option maxHeartbeats 4000000 in
set_option maxRecDepth 100000 in
theorem wX12_isLone_j37 (C : CX p s m args meth c cX12_isLone 4 (some .boolean) RX12 G) (hs0 : s.heap.size = G.1 + K.1) (hL : Lay K) (M : MM) (k4 : Int32 → Int32 → Int32 → Option Int32) (pp : Int32) (hk4 : ∀ (y12 : Int32) (y13 : Int32) (y14 : Int32), k4 y12 y13 y14 = some pp → Z p l e (rmo 0 0 0) s m args below meth c 4 G (MQ below (QC G (some (.int pp)) K M) args s 0 0 (AG G)) K 0 0 M 4 [(0, .ref (G.1 + 90)), (1, .int y12), (2, .int y13), (3, .int y14)] []) (y9 : Int32) (y10 : Int32) (y11 : Int32) (hf : fX12_isLone_j37 M k4 y9 y10 y11 = some pp) : Z p l e (rmo 0 0 0) s m args below meth c 4 G (MQ below (QC G (some (.int pp)) K M) args s 0 0 (AG G)) K 0 0 M 37 [(0, .ref (G.1 + 90)), (1, .int y9), (3, .int y10)] [.int y11] := by
  unfold fX12_isLone_j37 at hf
  refine z_istore_n C [(2, .int y11), (0, .ref (G.1 + 90)), (1, .int y9), (3, .int y10)] dX12_isLone_37 rfl (by decide) rfl rfl ?_
  refine z_iinc C 3 (y10 + 1) [(3, .int (y10 + 1)), (2, .int y11), (0, .ref (G.1 + 90)), (1, .int y9)] dX12_isLone_38 rfl rfl (by decide) rfl rfl ?_
  refine z_goto C 4 dX12_isLone_41 (by decide) ?_
  refine z_lv (lv2 := [(0, .ref (G.1 + 90)), (1, .int y9), (2, .int y11), (3, .int (y10 + 1))]) [2, 3, 1, 0] rfl ?_
  exact hk4 y9 y11 (y10 + 1)  hf
set_option maxHeartbeats 4000000 in
set_option maxRecDepth 100000 in
theorem wX12_isLone_j36 (C : CX p s m args meth c cX12_isLone 4 (some .boolean) RX12 G) (hs0 : s.heap.size = G.1 + K.1) (hL : Lay K) (M : MM) (k4 : Int32 → Int32 → Int32 → Option Int32) (pp : Int32) (hk4 : ∀ (y18 : Int32) (y19 : Int32) (y20 : Int32), k4 y18 y19 y20 = some pp → Z p l e (rmo 0 0 0) s m args below meth c 4 G (MQ below (QC G (some (.int pp)) K M) args s 0 0 (AG G)) K 0 0 M 4 [(0, .ref (G.1 + 90)), (1, .int y18), (2, .int y19), (3, .int y20)] []) (y7 : Int32) (y8 : Int32) (hf : fX12_isLone_j36 M k4 y7 y8 = some pp) : Z p l e (rmo 0 0 0) s m args below meth c 4 G (MQ below (QC G (some (.int pp)) K M) args s 0 0 (AG G)) K 0 0 M 36 [(0, .ref (G.1 + 90)), (1, .int y7), (3, .int y8)] [] := by
  unfold fX12_isLone_j36 at hf
  refine z_iconst C 0 dX12_isLone_36 (by decide) ?_
  refine wX12_isLone_j37 C hs0 hL M _ pp ?_ y7 y8 0 hf
  · intro y15 y16 y17 hf
    exact hk4 y15 y16 y17  hf
set_option maxHeartbeats 4000000 in
set_option maxRecDepth 100000 in
theorem wX12_isLone_l4 (C : CX p s m args meth c cX12_isLone 4 (some .boolean) RX12 G) (hs0 : s.heap.size = G.1 + K.1) (hL : Lay K) (M : MM)  (pp : Int32)  : ∀ (n : Nat) (y1 : Int32) (y2 : Int32) (y3 : Int32) (hf : fX12_isLone_l4 M n y1 y2 y3 = some pp), Z p l e (rmo 0 0 0) s m args below meth c 4 G (MQ below (QC G (some (.int pp)) K M) args s 0 0 (AG G)) K 0 0 M 4 [(0, .ref (G.1 + 90)), (1, .int y1), (2, .int y2), (3, .int y3)] [] := by
  intro n
  induction n with
  | zero => intro y1 y2 y3 hf; exact nomatch (show (none : Option Int32) = some pp from hf)
  | succ n ih =>
    intro y1 y2 y3 hf
    rw [fX12_isLone_l4.eq_2] at hf
    refine z_iload_n C 3 3 dX12_isLone_4 rfl rfl ?_
    refine z_aload_n C 0 0 dX12_isLone_5 rfl rfl ?_
    refine z_getI C ok_X12 (lay_c90 hL) 13 (by decide) rfl q_fl_X12_213 dX12_isLone_6 ?_
    refine z_icmp_ge C 44 dX12_isLone_9 (by decide) (fun c4 => ?_) (fun c4 => ?_)
    · replace hf := ite_t c4 hf
      refine z_iload_n C 2 2 dX12_isLone_44 rfl rfl ?_
      replace hf := gd_out hf
      obtain ⟨g5, hf⟩ := hf
      cases hf
      exact z_zret C rfl (isb_n g5) dX12_isLone_45
    · replace hf := ite_f c4 hf
      refine z_iload_n C 2 2 dX12_isLone_12 rfl rfl ?_
      refine z_if_eq C 36 dX12_isLone_13 (by decide) (fun c6 => ?_) (fun c6 => ?_)
      · replace hf := ite_t c6 hf
        refine z_lv (lv2 := [(0, .ref (G.1 + 90)), (1, .int y1), (3, .int y3)]) [0, 1, 3] rfl ?_
        refine wX12_isLone_j36 C hs0 hL M _ pp ?_ y1 y3 hf
        · intro y21 y22 y23 hf
          exact ih y21 y22 y23  hf
      · replace hf := ite_f c6 hf
        refine z_aload_n C 0 0 dX12_isLone_16 rfl rfl ?_
        refine z_getR C ok_X12 (lay_c90 hL) 24 (102) (by decide) rfl (lay_r90_24 hL) q_fl_X12_44 dX12_isLone_17 ?_
        refine z_bipush C 8 dX12_isLone_20 (by decide) ?_
        refine z_iload_n C 1 1 dX12_isLone_22 rfl rfl ?_
        refine z_imul C dX12_isLone_23 ?_
        refine z_iload_n C 3 3 dX12_isLone_24 rfl rfl ?_
        refine z_iadd C dX12_isLone_25 ?_
        replace hf := gd_out hf
        obtain ⟨g24, hf⟩ := hf
        refine z_iald C (lay_c102 hL) (inb_in g24) dX12_isLone_26 ?_
        refine z_bipush C 99 dX12_isLone_27 (by decide) ?_
        refine z_icmp_ne C 36 dX12_isLone_29 (by decide) (fun c25 => ?_) (fun c25 => ?_)
        · replace hf := ite_f c25 hf
          refine z_lv (lv2 := [(0, .ref (G.1 + 90)), (1, .int y1), (3, .int y3)]) [0, 1, 3] rfl ?_
          refine wX12_isLone_j36 C hs0 hL M _ pp ?_ y1 y3 hf
          · intro y26 y27 y28 hf
            exact ih y26 y27 y28  hf
        · replace hf := ite_t c25 hf
          refine z_iconst C 1 dX12_isLone_32 (by decide) ?_
          refine z_goto C 37 dX12_isLone_33 (by decide) ?_
          refine z_lv (lv2 := [(0, .ref (G.1 + 90)), (1, .int y1), (3, .int y3)]) [0, 1, 3] rfl ?_
          refine wX12_isLone_j37 C hs0 hL M _ pp ?_ y1 y3 1 hf
          · intro y29 y30 y31 hf
            exact ih y29 y30 y31  hf
set_option maxHeartbeats 4000000 in
set_option maxRecDepth 100000 in
theorem tX12_isLone (l : Launch) (G : GG) {K : SK} (hL : Lay K) (M : MM) (x1 : Int32) (pp : Int32) (hf : fX12_isLone M x1 = some pp) : Ct l yX12_isLone cX12_isLone 4 (some .boolean) 0 0 0 G K M [.ref (G.1 + 90), .int x1] (some (.int pp)) K M := by
  refine z_enter (lv := [(0, .ref (G.1 + 90)), (1, .int x1)]) (by decide +kernel) (Nat.le_of_ble_eq_true rfl) rfl ?_
  intro p e s m args below meth c C hnm hs0
  replace C : CX p s m args meth c cX12_isLone 4 (some .boolean) RX12 G := C
  unfold fX12_isLone at hf
  refine z_iconst C 1 dX12_isLone_0 (by decide) ?_
  refine z_istore_n C [(2, .int 1), (0, .ref (G.1 + 90)), (1, .int x1)] dX12_isLone_1 rfl (by decide) rfl rfl ?_
  refine z_iconst C 0 dX12_isLone_2 (by decide) ?_
  refine z_istore_n C [(3, .int 0), (2, .int 1), (0, .ref (G.1 + 90)), (1, .int x1)] dX12_isLone_3 rfl (by decide) rfl rfl ?_
  refine z_lv (lv2 := [(0, .ref (G.1 + 90)), (1, .int x1), (2, .int 1), (3, .int 0)]) [2, 3, 1, 0] rfl ?_
  exact wX12_isLone_l4 C hs0 hL M pp FU x1 1 0 hf
set_option maxHeartbeats 4000000 in
set_option maxRecDepth 100000 in
theorem wX12_glances_l14 (C : CX p s m args meth c cX12_glances 4 (some .int) RX12 G) (hs0 : s.heap.size = G.1 + K.1) (hL : Lay K) (M : MM) (k47 : Int32 → Int32 → Option Int32) (pp : Int32) (hk47 : ∀ (y8 : Int32) (y9 : Int32), k47 y8 y9 = some pp → Z p l e (rmo 0 0 0) s m args below meth c 4 G (MQ below (QC G (some (.int pp)) K M) args s 0 0 (AG G)) K 0 0 M 47 [(0, .ref (G.1 + 90)), (1, .int y8), (2, .int y9)] []) : ∀ (n : Nat) (y4 : Int32) (y5 : Int32) (y6 : Int32) (hf : fX12_glances_l14 M k47 n y4 y5 y6 = some pp), Z p l e (rmo 0 0 0) s m args below meth c 4 G (MQ below (QC G (some (.int pp)) K M) args s 0 0 (AG G)) K 0 0 M 14 [(0, .ref (G.1 + 90)), (1, .int y4), (2, .int y5), (3, .int y6)] [] := by
  intro n
  induction n with
  | zero => intro y4 y5 y6 hf; exact nomatch (show (none : Option Int32) = some pp from hf)
  | succ n ih =>
    intro y4 y5 y6 hf
    rw [fX12_glances_l14.eq_2] at hf
    refine z_iload_n C 3 3 dX12_glances_14 rfl rfl ?_
    refine z_iload_n C 2 2 dX12_glances_15 rfl rfl ?_
    refine z_icmp_ge C 47 dX12_glances_16 (by decide) (fun c7 => ?_) (fun c7 => ?_)
    · replace hf := ite_t c7 hf
      refine z_lv (lv2 := [(0, .ref (G.1 + 90)), (1, .int y4), (2, .int y5)]) [0, 1, 2] rfl ?_
      exact hk47 y4 y5  hf
    · replace hf := ite_f c7 hf
      refine z_iload_n C 1 1 dX12_glances_19 rfl rfl ?_
      refine z_aload_n C 0 0 dX12_glances_20 rfl rfl ?_
      refine z_getR C ok_X12 (lay_c90 hL) 25 (103) (by decide) rfl (lay_r90_25 hL) q_fl_X12_47 dX12_glances_21 ?_
      refine z_iload_n C 2 2 dX12_glances_24 rfl rfl ?_
      replace hf := gd_out hf
      obtain ⟨g10, hf⟩ := hf
      refine z_iald C (lay_c103 hL) (inb_in g10) dX12_glances_25 ?_
      refine z_iload_n C 3 3 dX12_glances_26 rfl rfl ?_
      refine z_ishr C dX12_glances_27 ?_
      refine z_aload_n C 0 0 dX12_glances_28 rfl rfl ?_
      refine z_getR C ok_X12 (lay_c90 hL) 25 (103) (by decide) rfl (lay_r90_25 hL) q_fl_X12_47 dX12_glances_29 ?_
      refine z_iload_n C 3 3 dX12_glances_32 rfl rfl ?_
      replace hf := gd_out hf
      obtain ⟨g11, hf⟩ := hf
      refine z_iald C (lay_c103 hL) (inb_in g11) dX12_glances_33 ?_
      refine z_iload_n C 2 2 dX12_glances_34 rfl rfl ?_
      refine z_ishr C dX12_glances_35 ?_
      refine z_iand C dX12_glances_36 ?_
      refine z_iconst C 1 dX12_glances_37 (by decide) ?_
      refine z_iand C dX12_glances_38 ?_
      refine z_iadd C dX12_glances_39 ?_
      refine z_topi (fun v12 e13 => ?_)
      replace hf := bnd_out e13 hf
      refine z_istore_n C [(1, .int v12), (0, .ref (G.1 + 90)), (2, .int y5), (3, .int y6)] dX12_glances_40 rfl (by decide) rfl rfl ?_
      refine z_iinc C 3 (y6 + 1) [(3, .int (y6 + 1)), (1, .int v12), (0, .ref (G.1 + 90)), (2, .int y5)] dX12_glances_41 rfl rfl (by decide) rfl rfl ?_
      refine z_goto C 14 dX12_glances_44 (by decide) ?_
      refine z_lv (lv2 := [(0, .ref (G.1 + 90)), (1, .int v12), (2, .int y5), (3, .int (y6 + 1))]) [2, 1, 3, 0] rfl ?_
      exact ih v12 y5 (y6 + 1)  hf
set_option maxHeartbeats 4000000 in
set_option maxRecDepth 100000 in
theorem wX12_glances_l4 (C : CX p s m args meth c cX12_glances 4 (some .int) RX12 G) (hs0 : s.heap.size = G.1 + K.1) (hL : Lay K) (M : MM)  (pp : Int32)  : ∀ (n : Nat) (y1 : Int32) (y2 : Int32) (hf : fX12_glances_l4 M n y1 y2 = some pp), Z p l e (rmo 0 0 0) s m args below meth c 4 G (MQ below (QC G (some (.int pp)) K M) args s 0 0 (AG G)) K 0 0 M 4 [(0, .ref (G.1 + 90)), (1, .int y1), (2, .int y2)] [] := by
  intro n
  induction n with
  | zero => intro y1 y2 hf; exact nomatch (show (none : Option Int32) = some pp from hf)
  | succ n ih =>
    intro y1 y2 hf
    rw [fX12_glances_l4.eq_2] at hf
    refine z_iload_n C 2 2 dX12_glances_4 rfl rfl ?_
    refine z_aload_n C 0 0 dX12_glances_5 rfl rfl ?_
    refine z_getI C ok_X12 (lay_c90 hL) 14 (by decide) rfl q_fl_X12_216 dX12_glances_6 ?_
    refine z_icmp_ge C 53 dX12_glances_9 (by decide) (fun c3 => ?_) (fun c3 => ?_)
    · replace hf := ite_t c3 hf
      refine z_iload_n C 1 1 dX12_glances_53 rfl rfl ?_
      cases hf
      exact z_iret C rfl dX12_glances_54
    · replace hf := ite_f c3 hf
      refine z_iconst C 0 dX12_glances_12 (by decide) ?_
      refine z_istore_n C [(3, .int 0), (0, .ref (G.1 + 90)), (1, .int y1), (2, .int y2)] dX12_glances_13 rfl (by decide) rfl rfl ?_
      refine z_lv (lv2 := [(0, .ref (G.1 + 90)), (1, .int y1), (2, .int y2), (3, .int 0)]) [1, 2, 3, 0] rfl ?_
      refine wX12_glances_l14 C hs0 hL M _ pp ?_ FU y1 y2 0 hf
      · intro y14 y15 hf
        refine z_iinc C 2 (y15 + 1) [(2, .int (y15 + 1)), (0, .ref (G.1 + 90)), (1, .int y14)] dX12_glances_47 rfl rfl (by decide) rfl rfl ?_
        refine z_goto C 4 dX12_glances_50 (by decide) ?_
        refine z_lv (lv2 := [(0, .ref (G.1 + 90)), (1, .int y14), (2, .int (y15 + 1))]) [1, 2, 0] rfl ?_
        exact ih y14 (y15 + 1)  hf
set_option maxHeartbeats 4000000 in
set_option maxRecDepth 100000 in
theorem tX12_glances (l : Launch) (G : GG) {K : SK} (hL : Lay K) (M : MM)  (pp : Int32) (hf : fX12_glances M = some pp) : Ct l yX12_glances cX12_glances 4 (some .int) 0 0 0 G K M [.ref (G.1 + 90)] (some (.int pp)) K M := by
  refine z_enter (lv := [(0, .ref (G.1 + 90))]) (by decide +kernel) (Nat.le_of_ble_eq_true rfl) rfl ?_
  intro p e s m args below meth c C hnm hs0
  replace C : CX p s m args meth c cX12_glances 4 (some .int) RX12 G := C
  unfold fX12_glances at hf
  refine z_iconst C 0 dX12_glances_0 (by decide) ?_
  refine z_istore_n C [(1, .int 0), (0, .ref (G.1 + 90))] dX12_glances_1 rfl (by decide) rfl rfl ?_
  refine z_iconst C 0 dX12_glances_2 (by decide) ?_
  refine z_istore_n C [(2, .int 0), (1, .int 0), (0, .ref (G.1 + 90))] dX12_glances_3 rfl (by decide) rfl rfl ?_
  refine z_lv (lv2 := [(0, .ref (G.1 + 90)), (1, .int 0), (2, .int 0)]) [2, 1, 0] rfl ?_
  exact wX12_glances_l4 C hs0 hL M pp FU 0 0 hf
set_option maxHeartbeats 4000000 in
set_option maxRecDepth 100000 in
theorem wX12_deep_l4 (C : CX p s m args meth c cX12_deep 3 (some .int) RX12 G) (hs0 : s.heap.size = G.1 + K.1) (hL : Lay K) (M : MM)  (pp : Int32)  : ∀ (n : Nat) (y1 : Int32) (y2 : Int32) (hf : fX12_deep_l4 M n y1 y2 = some pp), Z p l e (rmo 0 0 0) s m args below meth c 3 G (MQ below (QC G (some (.int pp)) K M) args s 0 0 (AG G)) K 0 0 M 4 [(0, .ref (G.1 + 90)), (1, .int y1), (2, .int y2)] [] := by
  intro n
  induction n with
  | zero => intro y1 y2 hf; exact nomatch (show (none : Option Int32) = some pp from hf)
  | succ n ih =>
    intro y1 y2 hf
    rw [fX12_deep_l4.eq_2] at hf
    refine z_iload_n C 2 2 dX12_deep_4 rfl rfl ?_
    refine z_bipush C 8 dX12_deep_5 (by decide) ?_
    refine z_aload_n C 0 0 dX12_deep_7 rfl rfl ?_
    refine z_getI C ok_X12 (lay_c90 hL) 14 (by decide) rfl q_fl_X12_216 dX12_deep_8 ?_
    refine z_imul C dX12_deep_11 ?_
    refine z_icmp_ge C 60 dX12_deep_12 (by decide) (fun c3 => ?_) (fun c3 => ?_)
    · replace hf := ite_t c3 hf
      refine z_iload_n C 1 1 dX12_deep_60 rfl rfl ?_
      cases hf
      exact z_iret C rfl dX12_deep_61
    · replace hf := ite_f c3 hf
      refine z_iload_n C 2 2 dX12_deep_15 rfl rfl ?_
      refine z_bipush C 8 dX12_deep_16 (by decide) ?_
      refine z_irem C (by decide) dX12_deep_18 ?_
      refine z_aload_n C 0 0 dX12_deep_19 rfl rfl ?_
      refine z_getI C ok_X12 (lay_c90 hL) 13 (by decide) rfl q_fl_X12_213 dX12_deep_20 ?_
      refine z_icmp_ge C 54 dX12_deep_23 (by decide) (fun c4 => ?_) (fun c4 => ?_)
      · replace hf := ite_t c4 hf
        refine z_iinc C 2 (y2 + 1) [(2, .int (y2 + 1)), (0, .ref (G.1 + 90)), (1, .int y1)] dX12_deep_54 rfl rfl (by decide) rfl rfl ?_
        refine z_goto C 4 dX12_deep_57 (by decide) ?_
        refine z_lv (lv2 := [(0, .ref (G.1 + 90)), (1, .int y1), (2, .int (y2 + 1))]) [1, 2, 0] rfl ?_
        exact ih y1 (y2 + 1)  hf
      · replace hf := ite_f c4 hf
        refine z_aload_n C 0 0 dX12_deep_26 rfl rfl ?_
        refine z_getR C ok_X12 (lay_c90 hL) 24 (102) (by decide) rfl (lay_r90_24 hL) q_fl_X12_44 dX12_deep_27 ?_
        refine z_iload_n C 2 2 dX12_deep_30 rfl rfl ?_
        replace hf := gd_out hf
        obtain ⟨g5, hf⟩ := hf
        refine z_iald C (lay_c102 hL) (inb_in g5) dX12_deep_31 ?_
        refine z_bipush C 99 dX12_deep_32 (by decide) ?_
        refine z_icmp_eq C 54 dX12_deep_34 (by decide) (fun c6 => ?_) (fun c6 => ?_)
        · replace hf := ite_t c6 hf
          refine z_iinc C 2 (y2 + 1) [(2, .int (y2 + 1)), (0, .ref (G.1 + 90)), (1, .int y1)] dX12_deep_54 rfl rfl (by decide) rfl rfl ?_
          refine z_goto C 4 dX12_deep_57 (by decide) ?_
          refine z_lv (lv2 := [(0, .ref (G.1 + 90)), (1, .int y1), (2, .int (y2 + 1))]) [1, 2, 0] rfl ?_
          exact ih y1 (y2 + 1)  hf
        · replace hf := ite_f c6 hf
          refine z_aload_n C 0 0 dX12_deep_37 rfl rfl ?_
          refine z_getR C ok_X12 (lay_c90 hL) 24 (102) (by decide) rfl (lay_r90_24 hL) q_fl_X12_44 dX12_deep_38 ?_
          refine z_iload_n C 2 2 dX12_deep_41 rfl rfl ?_
          replace hf := gd_out hf
          obtain ⟨g7, hf⟩ := hf
          refine z_iald C (lay_c102 hL) (inb_in g7) dX12_deep_42 ?_
          refine z_iload_n C 1 1 dX12_deep_43 rfl rfl ?_
          refine z_icmp_le C 54 dX12_deep_44 (by decide) (fun c8 => ?_) (fun c8 => ?_)
          · replace hf := ite_t c8 hf
            refine z_iinc C 2 (y2 + 1) [(2, .int (y2 + 1)), (0, .ref (G.1 + 90)), (1, .int y1)] dX12_deep_54 rfl rfl (by decide) rfl rfl ?_
            refine z_goto C 4 dX12_deep_57 (by decide) ?_
            refine z_lv (lv2 := [(0, .ref (G.1 + 90)), (1, .int y1), (2, .int (y2 + 1))]) [1, 2, 0] rfl ?_
            exact ih y1 (y2 + 1)  hf
          · replace hf := ite_f c8 hf
            refine z_aload_n C 0 0 dX12_deep_47 rfl rfl ?_
            refine z_getR C ok_X12 (lay_c90 hL) 24 (102) (by decide) rfl (lay_r90_24 hL) q_fl_X12_44 dX12_deep_48 ?_
            refine z_iload_n C 2 2 dX12_deep_51 rfl rfl ?_
            replace hf := gd_out hf
            obtain ⟨g9, hf⟩ := hf
            refine z_iald C (lay_c102 hL) (inb_in g9) dX12_deep_52 ?_
            refine z_topi (fun v10 e11 => ?_)
            replace hf := bnd_out e11 hf
            refine z_istore_n C [(1, .int v10), (0, .ref (G.1 + 90)), (2, .int y2)] dX12_deep_53 rfl (by decide) rfl rfl ?_
            refine z_iinc C 2 (y2 + 1) [(2, .int (y2 + 1)), (1, .int v10), (0, .ref (G.1 + 90))] dX12_deep_54 rfl rfl (by decide) rfl rfl ?_
            refine z_goto C 4 dX12_deep_57 (by decide) ?_
            refine z_lv (lv2 := [(0, .ref (G.1 + 90)), (1, .int v10), (2, .int (y2 + 1))]) [2, 1, 0] rfl ?_
            exact ih v10 (y2 + 1)  hf
set_option maxHeartbeats 4000000 in
set_option maxRecDepth 100000 in
theorem tX12_deep (l : Launch) (G : GG) {K : SK} (hL : Lay K) (M : MM)  (pp : Int32) (hf : fX12_deep M = some pp) : Ct l yX12_deep cX12_deep 3 (some .int) 0 0 0 G K M [.ref (G.1 + 90)] (some (.int pp)) K M := by
  refine z_enter (lv := [(0, .ref (G.1 + 90))]) (by decide +kernel) (Nat.le_of_ble_eq_true rfl) rfl ?_
  intro p e s m args below meth c C hnm hs0
  replace C : CX p s m args meth c cX12_deep 3 (some .int) RX12 G := C
  unfold fX12_deep at hf
  refine z_iconst C (-1) dX12_deep_0 (by decide) ?_
  refine z_istore_n C [(1, .int (-1)), (0, .ref (G.1 + 90))] dX12_deep_1 rfl (by decide) rfl rfl ?_
  refine z_iconst C 0 dX12_deep_2 (by decide) ?_
  refine z_istore_n C [(2, .int 0), (1, .int (-1)), (0, .ref (G.1 + 90))] dX12_deep_3 rfl (by decide) rfl rfl ?_
  refine z_lv (lv2 := [(0, .ref (G.1 + 90)), (1, .int (-1)), (2, .int 0)]) [2, 1, 0] rfl ?_
  exact wX12_deep_l4 C hs0 hL M pp FU (-1) 0 hf
set_option maxHeartbeats 4000000 in
set_option maxRecDepth 100000 in
theorem wX12_alone_j78 (C : CX p s m args meth c cX12_alone 5 (some .int) RX12 G) (hs0 : s.heap.size = G.1 + K.1) (hL : Lay K)  (k51 : MM → Int32 → Int32 → Option (Int32 × MM)) (pp : (Int32 × MM)) (hk51 : ∀ (M20 : MM) (y21 : Int32) (y22 : Int32), k51 M20 y21 y22 = some pp → Z p l e (rmo 4 0 0) s m args below meth c 5 G (MQ below (QC G (some (.int pp.1)) K pp.2) args s 0 0 (AG G)) K 0 0 M20 51 [(0, .ref (G.1 + 90)), (3, .int y21), (4, .int y22)] []) (M14 : MM) (y15 : Int32) (y16 : Int32) (y17 : Int32) (hf : fX12_alone_j78 k51 M14 y15 y16 y17 = some pp) : Z p l e (rmo 4 0 0) s m args below meth c 5 G (MQ below (QC G (some (.int pp.1)) K pp.2) args s 0 0 (AG G)) K 0 0 M14 78 [(0, .ref (G.1 + 90)), (4, .int y15)] [.int y17, .int y16] := by
  unfold fX12_alone_j78 at hf
  refine z_ior C dX12_alone_78 ?_
  refine z_topi (fun v18 e19 => ?_)
  replace hf := bnd_out e19 hf
  refine z_istore_n C [(3, .int v18), (0, .ref (G.1 + 90)), (4, .int y15)] dX12_alone_79 rfl (by decide) rfl rfl ?_
  refine z_iinc C 2 (y15 + 1) [(4, .int (y15 + 1)), (3, .int v18), (0, .ref (G.1 + 90))] dX12_alone_80 rfl rfl (by decide) rfl rfl ?_
  refine z_goto C 51 dX12_alone_83 (by decide) ?_
  refine z_lv (lv2 := [(0, .ref (G.1 + 90)), (3, .int v18), (4, .int (y15 + 1))]) [2, 1, 0] rfl ?_
  exact hk51 M14 v18 (y15 + 1)  hf
set_option maxHeartbeats 4000000 in
set_option maxRecDepth 100000 in
theorem wX12_alone_l51 (C : CX p s m args meth c cX12_alone 5 (some .int) RX12 G) (hs0 : s.heap.size = G.1 + K.1) (hL : Lay K)   (pp : (Int32 × MM))  : ∀ (n : Nat) (M7 : MM) (y8 : Int32) (y9 : Int32) (hf : fX12_alone_l51 n M7 y8 y9 = some pp), Z p l e (rmo 4 0 0) s m args below meth c 5 G (MQ below (QC G (some (.int pp.1)) K pp.2) args s 0 0 (AG G)) K 0 0 M7 51 [(0, .ref (G.1 + 90)), (3, .int y8), (4, .int y9)] [] := by
  intro n
  induction n with
  | zero => intro M7 y8 y9 hf; exact nomatch (show (none : Option (Int32 × MM)) = some pp from hf)
  | succ n ih =>
    intro M7 y8 y9 hf
    rw [fX12_alone_l51.eq_2] at hf
    refine z_iload C 2 dX12_alone_51 rfl ?_
    refine z_aload_n C 0 0 dX12_alone_53 rfl rfl ?_
    refine z_getI C ok_X12 (lay_c90 hL) 13 (by decide) rfl q_fl_X12_213 dX12_alone_54 ?_
    refine z_icmp_ge C 86 dX12_alone_57 (by decide) (fun c10 => ?_) (fun c10 => ?_)
    · replace hf := ite_t c10 hf
      refine z_iload_n C 1 3 dX12_alone_86 rfl rfl ?_
      cases hf
      exact z_iret C rfl dX12_alone_87
    · replace hf := ite_f c10 hf
      refine z_iload_n C 1 3 dX12_alone_60 rfl rfl ?_
      refine z_aload_n C 0 0 dX12_alone_61 rfl rfl ?_
      refine z_iload C 2 dX12_alone_62 rfl ?_
      replace hf := bd_out hf
      obtain ⟨p11, e12, hf⟩ := hf
      refine z_cV1 C [.int y8] (tX12_isBlind l G hL M7 y9 _ e12) lk_X12_isBlind ok_X12 (lay_c90 hL) q_ml_X12_366 rfl ⟨Nat.le_of_ble_eq_true rfl, Nat.le_of_ble_eq_true rfl⟩ rfl (Nat.le_of_ble_eq_true rfl) ⟨Nat.le_refl _, Nat.le_refl _⟩ dX12_alone_64 ?_
      refine z_if_eq C 77 dX12_alone_67 (by decide) (fun c13 => ?_) (fun c13 => ?_)
      · replace hf := ite_t c13 hf
        refine z_iconst C 0 dX12_alone_77 (by decide) ?_
        refine z_lv (lv2 := [(0, .ref (G.1 + 90)), (4, .int y9)]) [0, 2] rfl ?_
        refine wX12_alone_j78 C hs0 hL _ pp ?_ M7 y9 y8 0 hf
        · intro M23 y24 y25 hf
          exact ih M23 y24 y25  hf
      · replace hf := ite_f c13 hf
        refine z_iconst C 1 dX12_alone_70 (by decide) ?_
        refine z_iload C 2 dX12_alone_71 rfl ?_
        refine z_ishl C dX12_alone_73 ?_
        refine z_goto C 78 dX12_alone_74 (by decide) ?_
        refine z_lv (lv2 := [(0, .ref (G.1 + 90)), (4, .int y9)]) [0, 2] rfl ?_
        refine wX12_alone_j78 C hs0 hL _ pp ?_ M7 y9 y8 (jshl 1 y9) hf
        · intro M26 y27 y28 hf
          exact ih M26 y27 y28  hf
set_option maxHeartbeats 4000000 in
set_option maxRecDepth 100000 in
theorem wX12_alone_j118 (C : CX p s m args meth c cX12_alone 5 (some .int) RX12 G) (hs0 : s.heap.size = G.1 + K.1) (hL : Lay K)  (k91 : MM → Int32 → Int32 → Option (Int32 × MM)) (pp : (Int32 × MM)) (hk91 : ∀ (M43 : MM) (y44 : Int32) (y45 : Int32), k91 M43 y44 y45 = some pp → Z p l e (rmo 4 0 0) s m args below meth c 5 G (MQ below (QC G (some (.int pp.1)) K pp.2) args s 0 0 (AG G)) K 0 0 M43 91 [(0, .ref (G.1 + 90)), (3, .int y44), (4, .int y45)] []) (M37 : MM) (y38 : Int32) (y39 : Int32) (y40 : Int32) (hf : fX12_alone_j118 k91 M37 y38 y39 y40 = some pp) : Z p l e (rmo 4 0 0) s m args below meth c 5 G (MQ below (QC G (some (.int pp.1)) K pp.2) args s 0 0 (AG G)) K 0 0 M37 118 [(0, .ref (G.1 + 90)), (4, .int y38)] [.int y40, .int y39] := by
  unfold fX12_alone_j118 at hf
  refine z_ior C dX12_alone_118 ?_
  refine z_topi (fun v41 e42 => ?_)
  replace hf := bnd_out e42 hf
  refine z_istore_n C [(3, .int v41), (0, .ref (G.1 + 90)), (4, .int y38)] dX12_alone_119 rfl (by decide) rfl rfl ?_
  refine z_iinc C 2 (y38 + 1) [(4, .int (y38 + 1)), (3, .int v41), (0, .ref (G.1 + 90))] dX12_alone_120 rfl rfl (by decide) rfl rfl ?_
  refine z_goto C 91 dX12_alone_123 (by decide) ?_
  refine z_lv (lv2 := [(0, .ref (G.1 + 90)), (3, .int v41), (4, .int (y38 + 1))]) [2, 1, 0] rfl ?_
  exact hk91 M37 v41 (y38 + 1)  hf
set_option maxHeartbeats 4000000 in
set_option maxRecDepth 100000 in
theorem wX12_alone_l91 (C : CX p s m args meth c cX12_alone 5 (some .int) RX12 G) (hs0 : s.heap.size = G.1 + K.1) (hL : Lay K)   (pp : (Int32 × MM))  : ∀ (n : Nat) (M30 : MM) (y31 : Int32) (y32 : Int32) (hf : fX12_alone_l91 n M30 y31 y32 = some pp), Z p l e (rmo 4 0 0) s m args below meth c 5 G (MQ below (QC G (some (.int pp.1)) K pp.2) args s 0 0 (AG G)) K 0 0 M30 91 [(0, .ref (G.1 + 90)), (3, .int y31), (4, .int y32)] [] := by
  intro n
  induction n with
  | zero => intro M30 y31 y32 hf; exact nomatch (show (none : Option (Int32 × MM)) = some pp from hf)
  | succ n ih =>
    intro M30 y31 y32 hf
    rw [fX12_alone_l91.eq_2] at hf
    refine z_iload C 2 dX12_alone_91 rfl ?_
    refine z_aload_n C 0 0 dX12_alone_93 rfl rfl ?_
    refine z_getI C ok_X12 (lay_c90 hL) 14 (by decide) rfl q_fl_X12_216 dX12_alone_94 ?_
    refine z_icmp_ge C 126 dX12_alone_97 (by decide) (fun c33 => ?_) (fun c33 => ?_)
    · replace hf := ite_t c33 hf
      refine z_iload_n C 1 3 dX12_alone_126 rfl rfl ?_
      cases hf
      exact z_iret C rfl dX12_alone_127
    · replace hf := ite_f c33 hf
      refine z_iload_n C 1 3 dX12_alone_100 rfl rfl ?_
      refine z_aload_n C 0 0 dX12_alone_101 rfl rfl ?_
      refine z_iload C 2 dX12_alone_102 rfl ?_
      replace hf := bd_out hf
      obtain ⟨p34, e35, hf⟩ := hf
      refine z_cV1 C [.int y31] (tX12_isLone l G hL M30 y32 _ e35) lk_X12_isLone ok_X12 (lay_c90 hL) q_ml_X12_369 rfl ⟨Nat.le_of_ble_eq_true rfl, Nat.le_of_ble_eq_true rfl⟩ rfl (Nat.le_of_ble_eq_true rfl) ⟨Nat.le_refl _, Nat.le_refl _⟩ dX12_alone_104 ?_
      refine z_if_eq C 117 dX12_alone_107 (by decide) (fun c36 => ?_) (fun c36 => ?_)
      · replace hf := ite_t c36 hf
        refine z_iconst C 0 dX12_alone_117 (by decide) ?_
        refine z_lv (lv2 := [(0, .ref (G.1 + 90)), (4, .int y32)]) [0, 2] rfl ?_
        refine wX12_alone_j118 C hs0 hL _ pp ?_ M30 y32 y31 0 hf
        · intro M46 y47 y48 hf
          exact ih M46 y47 y48  hf
      · replace hf := ite_f c36 hf
        refine z_iconst C 1 dX12_alone_110 (by decide) ?_
        refine z_iload C 2 dX12_alone_111 rfl ?_
        refine z_ishl C dX12_alone_113 ?_
        refine z_goto C 118 dX12_alone_114 (by decide) ?_
        refine z_lv (lv2 := [(0, .ref (G.1 + 90)), (4, .int y32)]) [0, 2] rfl ?_
        refine wX12_alone_j118 C hs0 hL _ pp ?_ M30 y32 y31 (jshl 1 y32) hf
        · intro M49 y50 y51 hf
          exact ih M49 y50 y51  hf
set_option maxHeartbeats 4000000 in
set_option maxRecDepth 100000 in
theorem tX12_alone (l : Launch) (G : GG) {K : SK} (hL : Lay K) (M : MM) (x1 : Int32) (x2 : Int32) (pp : (Int32 × MM)) (hf : fX12_alone M x1 x2 = some pp) : Ct l yX12_alone cX12_alone 5 (some .int) 4 0 0 G K M [.ref (G.1 + 90), .int x1, .int x2] (some (.int pp.1)) K pp.2 := by
  refine z_enter (lv := [(0, .ref (G.1 + 90)), (1, .int x1), (2, .int x2)]) (by decide +kernel) (Nat.le_of_ble_eq_true rfl) rfl ?_
  intro p e s m args below meth c C hnm hs0
  replace C : CX p s m args meth c cX12_alone 5 (some .int) RX12 G := C
  unfold fX12_alone at hf
  refine z_aload_n C 0 0 dX12_alone_0 rfl rfl ?_
  refine z_iload_n C 1 1 dX12_alone_1 rfl rfl ?_
  replace hf := bd_out hf
  obtain ⟨p1, e2, hf⟩ := hf
  refine z_cV1 C [] (tX12_isParish l G hL M x1 _ e2) lk_X12_isParish ok_X12 (lay_c90 hL) q_ml_X12_225 rfl ⟨Nat.le_of_ble_eq_true rfl, Nat.le_of_ble_eq_true rfl⟩ rfl (Nat.le_of_ble_eq_true rfl) ⟨Nat.le_refl _, Nat.le_refl _⟩ dX12_alone_2 ?_
  refine z_if_ne C 11 dX12_alone_5 (by decide) (fun c3 => ?_) (fun c3 => ?_)
  · replace hf := ite_f c3 hf
    refine z_aload_n C 0 0 dX12_alone_11 rfl rfl ?_
    replace hf := bd_out hf
    obtain ⟨p4, e5, hf⟩ := hf
    refine z_cV0 C [] (tX12_laysOut l G hL p1.2  _ e5) lk_X12_laysOut ok_X12 (lay_c90 hL) q_ml_X12_258 rfl ⟨Nat.le_of_ble_eq_true rfl, Nat.le_of_ble_eq_true rfl⟩ rfl (Nat.le_of_ble_eq_true rfl) ⟨Nat.le_refl _, Nat.le_refl _⟩ dX12_alone_12 ?_
    refine z_iconst C 0 dX12_alone_15 (by decide) ?_
    refine z_istore_n C [(3, .int 0), (0, .ref (G.1 + 90)), (1, .int x1), (2, .int x2)] dX12_alone_16 rfl (by decide) rfl rfl ?_
    refine z_iload_n C 3 2 dX12_alone_17 rfl rfl ?_
    by_cases c6 : x2 = 0
    · replace hf := ite_t c6 hf
      refine z_tableIn C 48 dX12_alone_18 (by rw [c6]; decide) (by rw [c6]; decide) (by rw [c6]; rfl) (by decide) ?_
      refine z_iconst C 0 dX12_alone_48 (by decide) ?_
      refine z_istore C [(4, .int 0), (3, .int 0), (0, .ref (G.1 + 90)), (1, .int x1), (2, .int x2)] dX12_alone_49 (by decide) rfl rfl ?_
      refine z_lv (lv2 := [(0, .ref (G.1 + 90)), (3, .int 0), (4, .int 0)]) [2, 1, 0] rfl ?_
      exact wX12_alone_l51 C hs0 hL pp FU p4 0 0 hf
    · replace hf := ite_f c6 hf
      by_cases c29 : x2 = 1
      · replace hf := ite_t c29 hf
        refine z_tableIn C 88 dX12_alone_18 (by rw [c29]; decide) (by rw [c29]; decide) (by rw [c29]; rfl) (by decide) ?_
        refine z_iconst C 0 dX12_alone_88 (by decide) ?_
        refine z_istore C [(4, .int 0), (3, .int 0), (0, .ref (G.1 + 90)), (1, .int x1), (2, .int x2)] dX12_alone_89 (by decide) rfl rfl ?_
        refine z_lv (lv2 := [(0, .ref (G.1 + 90)), (3, .int 0), (4, .int 0)]) [2, 1, 0] rfl ?_
        exact wX12_alone_l91 C hs0 hL pp FU p4 0 0 hf
      · replace hf := ite_f c29 hf
        by_cases c52 : x2 = 2
        · replace hf := ite_t c52 hf
          refine z_tableIn C 128 dX12_alone_18 (by rw [c52]; decide) (by rw [c52]; decide) (by rw [c52]; rfl) (by decide) ?_
          refine z_aload_n C 1 0 dX12_alone_128 rfl rfl ?_
          replace hf := bd_out hf
          obtain ⟨p53, e54, hf⟩ := hf
          refine z_cV1 C [] (tX12_glances l G hL p4  _ e54) lk_X12_glances ok_X12 (lay_c90 hL) q_ml_X12_372 rfl ⟨Nat.le_of_ble_eq_true rfl, Nat.le_of_ble_eq_true rfl⟩ rfl (Nat.le_of_ble_eq_true rfl) ⟨Nat.le_refl _, Nat.le_refl _⟩ dX12_alone_129 ?_
          cases hf
          exact z_iret C rfl dX12_alone_132
        · replace hf := ite_f c52 hf
          by_cases c55 : x2 = 3
          · replace hf := ite_t c55 hf
            refine z_tableIn C 133 dX12_alone_18 (by rw [c55]; decide) (by rw [c55]; decide) (by rw [c55]; rfl) (by decide) ?_
            refine z_aload_n C 1 0 dX12_alone_133 rfl rfl ?_
            replace hf := bd_out hf
            obtain ⟨p56, e57, hf⟩ := hf
            refine z_cV1 C [] (tX12_deep l G hL p4  _ e57) lk_X12_deep ok_X12 (lay_c90 hL) q_ml_X12_375 rfl ⟨Nat.le_of_ble_eq_true rfl, Nat.le_of_ble_eq_true rfl⟩ rfl (Nat.le_of_ble_eq_true rfl) ⟨Nat.le_refl _, Nat.le_refl _⟩ dX12_alone_134 ?_
            cases hf
            exact z_iret C rfl dX12_alone_137
          · replace hf := ite_f c55 hf
            have ic6 : (x2).toInt ≠ 0 := fun q => c6 (Int32.toInt_inj.mp (q.trans (by decide)))
            have ic29 : (x2).toInt ≠ 1 := fun q => c29 (Int32.toInt_inj.mp (q.trans (by decide)))
            have ic52 : (x2).toInt ≠ 2 := fun q => c52 (Int32.toInt_inj.mp (q.trans (by decide)))
            have ic55 : (x2).toInt ≠ 3 := fun q => c55 (Int32.toInt_inj.mp (q.trans (by decide)))
            refine z_tableOut C 138 dX12_alone_18 (by omega) (by decide) ?_
            refine z_bipush C (-2) dX12_alone_138 (by decide) ?_
            cases hf
            exact z_iret C rfl dX12_alone_140
  · replace hf := ite_t c3 hf
    refine z_bipush C (-2) dX12_alone_8 (by decide) ?_
    cases hf
    exact z_iret C rfl dX12_alone_10
set_option maxHeartbeats 4000000 in
set_option maxRecDepth 100000 in
theorem wX12_barred_j82 (C : CX p s m args meth c cX12_barred 8 (some .int) RX12 G) (hs0 : s.heap.size = G.1 + K.1) (hL : Lay K)  (k20 : MM → Int32 → Int32 → Int32 → Int32 → Option (Int32 × MM)) (pp : (Int32 × MM)) (hk20 : ∀ (M34 : MM) (y35 : Int32) (y36 : Int32) (y37 : Int32) (y38 : Int32), k20 M34 y35 y36 y37 y38 = some pp → Z p l e (rmo 5 0 0) s m args below meth c 8 G (MQ below (QC G (some (.int pp.1)) K pp.2) args s 0 0 (AG G)) K 0 0 M34 20 [(0, .ref (G.1 + 90)), (3, .int y35), (4, .int y36), (5, .int y37), (6, .int y38)] []) (M30 : MM) (y31 : Int32) (y32 : Int32) (y33 : Int32) (hf : fX12_barred_j82 k20 M30 y31 y32 y33 = some pp) : Z p l e (rmo 5 0 0) s m args below meth c 8 G (MQ below (QC G (some (.int pp.1)) K pp.2) args s 0 0 (AG G)) K 0 0 M30 82 [(0, .ref (G.1 + 90)), (3, .int y31), (6, .int y32), (7, .int y33)] [] := by
  unfold fX12_barred_j82 at hf
  refine z_iload C 2 dX12_barred_82 rfl ?_
  refine z_istore C [(4, .int y32), (0, .ref (G.1 + 90)), (3, .int y31), (6, .int y32), (7, .int y33)] dX12_barred_84 (by decide) rfl rfl ?_
  refine z_iload C 4 dX12_barred_86 rfl ?_
  refine z_istore C [(5, .int y33), (4, .int y32), (0, .ref (G.1 + 90)), (3, .int y31), (6, .int y32), (7, .int y33)] dX12_barred_88 (by decide) rfl rfl ?_
  refine z_iinc C 4 (y32 + 1) [(6, .int (y32 + 1)), (5, .int y33), (4, .int y32), (0, .ref (G.1 + 90)), (3, .int y31), (7, .int y33)] dX12_barred_90 rfl rfl (by decide) rfl rfl ?_
  refine z_goto C 20 dX12_barred_93 (by decide) ?_
  refine z_lv (lv2 := [(0, .ref (G.1 + 90)), (3, .int y31), (4, .int y32), (5, .int y33), (6, .int (y32 + 1))]) [3, 4, 2, 1, 0] rfl ?_
  exact hk20 M30 y31 y32 y33 (y32 + 1)  hf
set_option maxHeartbeats 4000000 in
set_option maxRecDepth 100000 in
theorem wX12_barred_l20 (C : CX p s m args meth c cX12_barred 8 (some .int) RX12 G) (hs0 : s.heap.size = G.1 + K.1) (hL : Lay K)  (k96 : MM → Int32 → Int32 → Int32 → Option (Int32 × MM)) (pp : (Int32 × MM)) (hk96 : ∀ (M12 : MM) (y13 : Int32) (y14 : Int32) (y15 : Int32), k96 M12 y13 y14 y15 = some pp → Z p l e (rmo 5 0 0) s m args below meth c 8 G (MQ below (QC G (some (.int pp.1)) K pp.2) args s 0 0 (AG G)) K 0 0 M12 96 [(3, .int y13), (4, .int y14), (5, .int y15)] []) : ∀ (n : Nat) (M4 : MM) (y5 : Int32) (y6 : Int32) (y7 : Int32) (y8 : Int32) (hf : fX12_barred_l20 k96 n M4 y5 y6 y7 y8 = some pp), Z p l e (rmo 5 0 0) s m args below meth c 8 G (MQ below (QC G (some (.int pp.1)) K pp.2) args s 0 0 (AG G)) K 0 0 M4 20 [(0, .ref (G.1 + 90)), (3, .int y5), (4, .int y6), (5, .int y7), (6, .int y8)] [] := by
  intro n
  induction n with
  | zero => intro M4 y5 y6 y7 y8 hf; exact nomatch (show (none : Option (Int32 × MM)) = some pp from hf)
  | succ n ih =>
    intro M4 y5 y6 y7 y8 hf
    rw [fX12_barred_l20.eq_2] at hf
    refine z_aload_n C 0 0 dX12_barred_20 rfl rfl ?_
    refine z_iload C 4 dX12_barred_21 rfl ?_
    replace hf := bd_out hf
    obtain ⟨p9, e10, hf⟩ := hf
    refine z_cV1 C [] (tX12_isSquare l G hL M4 y8 _ e10) lk_X12_isSquare ok_X12 (lay_c90 hL) q_ml_X12_237 rfl ⟨Nat.le_of_ble_eq_true rfl, Nat.le_of_ble_eq_true rfl⟩ rfl (Nat.le_of_ble_eq_true rfl) ⟨Nat.le_refl _, Nat.le_refl _⟩ dX12_barred_23 ?_
    refine z_if_eq C 96 dX12_barred_26 (by decide) (fun c11 => ?_) (fun c11 => ?_)
    · replace hf := ite_t c11 hf
      refine z_lv (lv2 := [(3, .int y5), (4, .int y6), (5, .int y7)]) [1, 2, 3] rfl ?_
      exact hk96 M4 y5 y6 y7  hf
    · replace hf := ite_f c11 hf
      refine z_aload_n C 0 0 dX12_barred_29 rfl rfl ?_
      refine z_iconst C (-1) dX12_barred_30 (by decide) ?_
      refine z_putI C ok_X12 (lay_c90 hL) 23 (by decide) rfl rfl rfl rfl q_fl_X12_210 dX12_barred_31 ?_
      refine z_M (fun M16 e17 => ?_)
      replace hf := bnd_out e17 hf
      refine z_aload_n C 0 0 dX12_barred_34 rfl rfl ?_
      refine z_aload_n C 0 0 dX12_barred_35 rfl rfl ?_
      refine z_iload C 4 dX12_barred_36 rfl ?_
      replace hf := bd_out hf
      obtain ⟨p18, e19, hf⟩ := hf
      refine z_cV1 C [.ref (G.1 + 90)] (tX12_inside l G hL M16 y8 _ e19) lk_X12_inside ok_X12 (lay_c90 hL) q_ml_X12_240 rfl ⟨Nat.le_of_ble_eq_true rfl, Nat.le_of_ble_eq_true rfl⟩ rfl (Nat.le_of_ble_eq_true rfl) ⟨Nat.le_refl _, Nat.le_refl _⟩ dX12_barred_38 ?_
      replace hf := bd_out hf
      obtain ⟨p20, e21, hf⟩ := hf
      refine z_cV1 C [] (tX12_on l G hL M16 p18 _ e21) lk_X12_on ok_X12 (lay_c90 hL) q_ml_X12_243 rfl ⟨Nat.le_of_ble_eq_true rfl, Nat.le_of_ble_eq_true rfl⟩ rfl (Nat.le_of_ble_eq_true rfl) ⟨Nat.le_refl _, Nat.le_refl _⟩ dX12_barred_41 ?_
      refine z_if_eq C 50 dX12_barred_44 (by decide) (fun c22 => ?_) (fun c22 => ?_)
      · replace hf := ite_t c22 hf
        refine z_aload_n C 0 0 dX12_barred_50 rfl rfl ?_
        refine z_aload_n C 0 0 dX12_barred_51 rfl rfl ?_
        refine z_iload C 4 dX12_barred_52 rfl ?_
        replace hf := bd_out hf
        obtain ⟨p23, e24, hf⟩ := hf
        refine z_cV1 C [.ref (G.1 + 90)] (tX12_inside l G hL M16 y8 _ e24) lk_X12_inside ok_X12 (lay_c90 hL) q_ml_X12_240 rfl ⟨Nat.le_of_ble_eq_true rfl, Nat.le_of_ble_eq_true rfl⟩ rfl (Nat.le_of_ble_eq_true rfl) ⟨Nat.le_refl _, Nat.le_refl _⟩ dX12_barred_54 ?_
        refine z_putI C ok_X12 (lay_c90 hL) 23 (by decide) rfl rfl rfl rfl q_fl_X12_210 dX12_barred_57 ?_
        refine z_M (fun M25 e26 => ?_)
        replace hf := bnd_out e26 hf
        refine z_aload_n C 0 0 dX12_barred_60 rfl rfl ?_
        replace hf := bd_out hf
        obtain ⟨p27, e28, hf⟩ := hf
        refine z_cV1 C [] (tX12_sum l G hL M25  _ e28) lk_X12_sum ok_X12 (lay_c90 hL) q_ml_X12_282 rfl ⟨Nat.le_of_ble_eq_true rfl, Nat.le_of_ble_eq_true rfl⟩ rfl (Nat.le_of_ble_eq_true rfl) ⟨Nat.le_refl _, Nat.le_refl _⟩ dX12_barred_61 ?_
        refine z_istore C [(7, .int p27.1), (0, .ref (G.1 + 90)), (3, .int y5), (4, .int y6), (5, .int y7), (6, .int y8)] dX12_barred_64 (by decide) rfl rfl ?_
        refine z_iload C 3 dX12_barred_66 rfl ?_
        refine z_iconst C (-1) dX12_barred_68 (by decide) ?_
        refine z_icmp_eq C 82 dX12_barred_69 (by decide) (fun c29 => ?_) (fun c29 => ?_)
        · replace hf := ite_t c29 hf
          refine z_lv (lv2 := [(0, .ref (G.1 + 90)), (3, .int y5), (6, .int y8), (7, .int p27.1)]) [1, 2, 5, 0] rfl ?_
          refine wX12_barred_j82 C hs0 hL _ pp ?_ p27.2 y5 y8 p27.1 hf
          · intro M39 y40 y41 y42 y43 hf
            exact ih M39 y40 y41 y42 y43  hf
        · replace hf := ite_f c29 hf
          refine z_iload C 0 dX12_barred_72 rfl ?_
          refine z_iload C 4 dX12_barred_74 rfl ?_
          refine z_icmp_lt C 82 dX12_barred_76 (by decide) (fun c44 => ?_) (fun c44 => ?_)
          · replace hf := ite_t c44 hf
            refine z_lv (lv2 := [(0, .ref (G.1 + 90)), (3, .int y5), (6, .int y8), (7, .int p27.1)]) [1, 2, 5, 0] rfl ?_
            refine wX12_barred_j82 C hs0 hL _ pp ?_ p27.2 y5 y8 p27.1 hf
            · intro M45 y46 y47 y48 y49 hf
              exact ih M45 y46 y47 y48 y49  hf
          · replace hf := ite_f c44 hf
            refine z_goto C 90 dX12_barred_79 (by decide) ?_
            refine z_iinc C 5 (y8 + 1) [(6, .int (y8 + 1)), (7, .int p27.1), (0, .ref (G.1 + 90)), (3, .int y5), (4, .int y6), (5, .int y7)] dX12_barred_90 rfl rfl (by decide) rfl rfl ?_
            refine z_goto C 20 dX12_barred_93 (by decide) ?_
            refine z_lv (lv2 := [(0, .ref (G.1 + 90)), (3, .int y5), (4, .int y6), (5, .int y7), (6, .int (y8 + 1))]) [2, 3, 4, 5, 0] rfl ?_
            exact ih p27.2 y5 y6 y7 (y8 + 1)  hf
      · replace hf := ite_f c22 hf
        refine z_goto C 90 dX12_barred_47 (by decide) ?_
        refine z_iinc C 4 (y8 + 1) [(6, .int (y8 + 1)), (0, .ref (G.1 + 90)), (3, .int y5), (4, .int y6), (5, .int y7)] dX12_barred_90 rfl rfl (by decide) rfl rfl ?_
        refine z_goto C 20 dX12_barred_93 (by decide) ?_
        refine z_lv (lv2 := [(0, .ref (G.1 + 90)), (3, .int y5), (4, .int y6), (5, .int y7), (6, .int (y8 + 1))]) [1, 2, 3, 4, 0] rfl ?_
        exact ih M16 y5 y6 y7 (y8 + 1)  hf
set_option maxHeartbeats 4000000 in
set_option maxRecDepth 100000 in
theorem tX12_barred (l : Launch) (G : GG) {K : SK} (hL : Lay K) (M : MM) (x1 : Int32) (x2 : Int32) (x3 : Int32) (pp : (Int32 × MM)) (hf : fX12_barred M x1 x2 x3 = some pp) : Ct l yX12_barred cX12_barred 8 (some .int) 5 0 0 G K M [.ref (G.1 + 90), .int x1, .int x2, .int x3] (some (.int pp.1)) K pp.2 := by
  refine z_enter (lv := [(0, .ref (G.1 + 90)), (1, .int x1), (2, .int x2), (3, .int x3)]) (by decide +kernel) (Nat.le_of_ble_eq_true rfl) rfl ?_
  intro p e s m args below meth c C hnm hs0
  replace C : CX p s m args meth c cX12_barred 8 (some .int) RX12 G := C
  unfold fX12_barred at hf
  refine z_aload_n C 0 0 dX12_barred_0 rfl rfl ?_
  refine z_iload_n C 1 1 dX12_barred_1 rfl rfl ?_
  refine z_iload_n C 2 2 dX12_barred_2 rfl rfl ?_
  replace hf := bd_out hf
  obtain ⟨p1, e2, hf⟩ := hf
  refine z_cV1 C [] (tX12_areTold l G hL M x1 x2 _ e2) lk_X12_areTold ok_X12 (lay_c90 hL) q_ml_X12_279 rfl ⟨Nat.le_of_ble_eq_true rfl, Nat.le_of_ble_eq_true rfl⟩ rfl (Nat.le_of_ble_eq_true rfl) ⟨Nat.le_refl _, Nat.le_refl _⟩ dX12_barred_3 ?_
  refine z_if_ne C 11 dX12_barred_6 (by decide) (fun c3 => ?_) (fun c3 => ?_)
  · replace hf := ite_f c3 hf
    refine z_iconst C (-1) dX12_barred_11 (by decide) ?_
    refine z_istore C [(4, .int (-1)), (0, .ref (G.1 + 90)), (1, .int x1), (2, .int x2), (3, .int x3)] dX12_barred_12 (by decide) rfl rfl ?_
    refine z_iconst C 0 dX12_barred_14 (by decide) ?_
    refine z_istore C [(5, .int 0), (4, .int (-1)), (0, .ref (G.1 + 90)), (1, .int x1), (2, .int x2), (3, .int x3)] dX12_barred_15 (by decide) rfl rfl ?_
    refine z_iconst C 0 dX12_barred_17 (by decide) ?_
    refine z_istore C [(6, .int 0), (5, .int 0), (4, .int (-1)), (0, .ref (G.1 + 90)), (1, .int x1), (2, .int x2), (3, .int x3)] dX12_barred_18 (by decide) rfl rfl ?_
    refine z_lv (lv2 := [(0, .ref (G.1 + 90)), (3, .int x3), (4, .int (-1)), (5, .int 0), (6, .int 0)]) [3, 6, 2, 1, 0] rfl ?_
    refine wX12_barred_l20 C hs0 hL _ pp ?_ FU p1.2 x3 (-1) 0 0 hf
    · intro M50 y51 y52 y53 hf
      refine z_iload C 1 dX12_barred_96 rfl ?_
      refine z_iconst C (-1) dX12_barred_98 (by decide) ?_
      refine z_icmp_eq C 106 dX12_barred_99 (by decide) (fun c54 => ?_) (fun c54 => ?_)
      · replace hf := ite_t c54 hf
        refine z_iload C 1 dX12_barred_106 rfl ?_
        refine z_goto C 113 dX12_barred_108 (by decide) ?_
        cases hf
        exact z_iret C rfl dX12_barred_113
      · replace hf := ite_f c54 hf
        refine z_iload_n C 0 3 dX12_barred_102 rfl rfl ?_
        refine z_if_ne C 111 dX12_barred_103 (by decide) (fun c55 => ?_) (fun c55 => ?_)
        · replace hf := ite_f c55 hf
          refine z_iload C 2 dX12_barred_111 rfl ?_
          cases hf
          exact z_iret C rfl dX12_barred_113
        · replace hf := ite_t c55 hf
          refine z_iload C 1 dX12_barred_106 rfl ?_
          refine z_goto C 113 dX12_barred_108 (by decide) ?_
          cases hf
          exact z_iret C rfl dX12_barred_113
  · replace hf := ite_t c3 hf
    refine z_iconst C (-1) dX12_barred_9 (by decide) ?_
    cases hf
    exact z_iret C rfl dX12_barred_10
set_option maxHeartbeats 4000000 in
set_option maxRecDepth 100000 in
theorem wX12_knownIn_j27 (C : CX p s m args meth c cX12_knownIn 4 (some .int) RX12 G) (hs0 : s.heap.size = G.1 + K.1) (hL : Lay K) (M : MM) (k4 : Int32 → Int32 → Int32 → Option Int32) (pp : Int32) (hk4 : ∀ (y14 : Int32) (y15 : Int32) (y16 : Int32), k4 y14 y15 y16 = some pp → Z p l e (rmo 1 0 0) s m args below meth c 4 G (MQ below (QC G (some (.int pp)) K M) args s 0 0 (AG G)) K 0 0 M 4 [(0, .ref (G.1 + 90)), (1, .int y14), (2, .int y15), (3, .int y16)] []) (y8 : Int32) (y9 : Int32) (y10 : Int32) (y11 : Int32) (hf : fX12_knownIn_j27 M k4 y8 y9 y10 y11 = some pp) : Z p l e (rmo 1 0 0) s m args below meth c 4 G (MQ below (QC G (some (.int pp)) K M) args s 0 0 (AG G)) K 0 0 M 27 [(0, .ref (G.1 + 90)), (1, .int y8), (3, .int y9)] [.int y11, .int y10] := by
  unfold fX12_knownIn_j27 at hf
  refine z_iadd C dX12_knownIn_27 ?_
  refine z_topi (fun v12 e13 => ?_)
  replace hf := bnd_out e13 hf
  refine z_istore_n C [(2, .int v12), (0, .ref (G.1 + 90)), (1, .int y8), (3, .int y9)] dX12_knownIn_28 rfl (by decide) rfl rfl ?_
  refine z_iinc C 3 (y9 + 1) [(3, .int (y9 + 1)), (2, .int v12), (0, .ref (G.1 + 90)), (1, .int y8)] dX12_knownIn_29 rfl rfl (by decide) rfl rfl ?_
  refine z_goto C 4 dX12_knownIn_32 (by decide) ?_
  refine z_lv (lv2 := [(0, .ref (G.1 + 90)), (1, .int y8), (2, .int v12), (3, .int (y9 + 1))]) [2, 3, 1, 0] rfl ?_
  exact hk4 y8 v12 (y9 + 1)  hf
set_option maxHeartbeats 4000000 in
set_option maxRecDepth 100000 in
theorem wX12_knownIn_l4 (C : CX p s m args meth c cX12_knownIn 4 (some .int) RX12 G) (hs0 : s.heap.size = G.1 + K.1) (hL : Lay K) (M : MM)  (pp : Int32)  : ∀ (n : Nat) (y1 : Int32) (y2 : Int32) (y3 : Int32) (hf : fX12_knownIn_l4 M n y1 y2 y3 = some pp), Z p l e (rmo 1 0 0) s m args below meth c 4 G (MQ below (QC G (some (.int pp)) K M) args s 0 0 (AG G)) K 0 0 M 4 [(0, .ref (G.1 + 90)), (1, .int y1), (2, .int y2), (3, .int y3)] [] := by
  intro n
  induction n with
  | zero => intro y1 y2 y3 hf; exact nomatch (show (none : Option Int32) = some pp from hf)
  | succ n ih =>
    intro y1 y2 y3 hf
    rw [fX12_knownIn_l4.eq_2] at hf
    refine z_iload_n C 3 3 dX12_knownIn_4 rfl rfl ?_
    refine z_aload_n C 0 0 dX12_knownIn_5 rfl rfl ?_
    refine z_getI C ok_X12 (lay_c90 hL) 14 (by decide) rfl q_fl_X12_216 dX12_knownIn_6 ?_
    refine z_icmp_ge C 35 dX12_knownIn_9 (by decide) (fun c4 => ?_) (fun c4 => ?_)
    · replace hf := ite_t c4 hf
      refine z_iload_n C 2 2 dX12_knownIn_35 rfl rfl ?_
      cases hf
      exact z_iret C rfl dX12_knownIn_36
    · replace hf := ite_f c4 hf
      refine z_iload_n C 2 2 dX12_knownIn_12 rfl rfl ?_
      refine z_aload_n C 0 0 dX12_knownIn_13 rfl rfl ?_
      refine z_iload_n C 3 3 dX12_knownIn_14 rfl rfl ?_
      refine z_iload_n C 1 1 dX12_knownIn_15 rfl rfl ?_
      replace hf := bd_out hf
      obtain ⟨p5, e6, hf⟩ := hf
      refine z_cV1 C [.int y2] (tX12_isNear l G hL M y3 y1 _ e6) lk_X12_isNear ok_X12 (lay_c90 hL) q_ml_X12_273 rfl ⟨Nat.le_of_ble_eq_true rfl, Nat.le_of_ble_eq_true rfl⟩ rfl (Nat.le_of_ble_eq_true rfl) ⟨Nat.le_refl _, Nat.le_refl _⟩ dX12_knownIn_16 ?_
      refine z_if_eq C 26 dX12_knownIn_19 (by decide) (fun c7 => ?_) (fun c7 => ?_)
      · replace hf := ite_t c7 hf
        refine z_iconst C 0 dX12_knownIn_26 (by decide) ?_
        refine z_lv (lv2 := [(0, .ref (G.1 + 90)), (1, .int y1), (3, .int y3)]) [0, 1, 3] rfl ?_
        refine wX12_knownIn_j27 C hs0 hL M _ pp ?_ y1 y3 y2 0 hf
        · intro y17 y18 y19 hf
          exact ih y17 y18 y19  hf
      · replace hf := ite_f c7 hf
        refine z_iconst C 1 dX12_knownIn_22 (by decide) ?_
        refine z_goto C 27 dX12_knownIn_23 (by decide) ?_
        refine z_lv (lv2 := [(0, .ref (G.1 + 90)), (1, .int y1), (3, .int y3)]) [0, 1, 3] rfl ?_
        refine wX12_knownIn_j27 C hs0 hL M _ pp ?_ y1 y3 y2 1 hf
        · intro y20 y21 y22 hf
          exact ih y20 y21 y22  hf
set_option maxHeartbeats 4000000 in
set_option maxRecDepth 100000 in
theorem tX12_knownIn (l : Launch) (G : GG) {K : SK} (hL : Lay K) (M : MM) (x1 : Int32) (pp : Int32) (hf : fX12_knownIn M x1 = some pp) : Ct l yX12_knownIn cX12_knownIn 4 (some .int) 1 0 0 G K M [.ref (G.1 + 90), .int x1] (some (.int pp)) K M := by
  refine z_enter (lv := [(0, .ref (G.1 + 90)), (1, .int x1)]) (by decide +kernel) (Nat.le_of_ble_eq_true rfl) rfl ?_
  intro p e s m args below meth c C hnm hs0
  replace C : CX p s m args meth c cX12_knownIn 4 (some .int) RX12 G := C
  unfold fX12_knownIn at hf
  refine z_iconst C 0 dX12_knownIn_0 (by decide) ?_
  refine z_istore_n C [(2, .int 0), (0, .ref (G.1 + 90)), (1, .int x1)] dX12_knownIn_1 rfl (by decide) rfl rfl ?_
  refine z_iconst C 0 dX12_knownIn_2 (by decide) ?_
  refine z_istore_n C [(3, .int 0), (2, .int 0), (0, .ref (G.1 + 90)), (1, .int x1)] dX12_knownIn_3 rfl (by decide) rfl rfl ?_
  refine z_lv (lv2 := [(0, .ref (G.1 + 90)), (1, .int x1), (2, .int 0), (3, .int 0)]) [2, 3, 1, 0] rfl ?_
  exact wX12_knownIn_l4 C hs0 hL M pp FU x1 0 0 hf
set_option maxHeartbeats 4000000 in
set_option maxRecDepth 100000 in
theorem wX12_known_j87 (C : CX p s m args meth c cX12_known 6 (some .int) RX12 G) (hs0 : s.heap.size = G.1 + K.1) (hL : Lay K)  (k56 : MM → Int32 → Int32 → Option (Int32 × MM)) (pp : (Int32 × MM)) (hk56 : ∀ (M25 : MM) (y26 : Int32) (y27 : Int32), k56 M25 y26 y27 = some pp → Z p l e (rmo 4 0 0) s m args below meth c 6 G (MQ below (QC G (some (.int pp.1)) K pp.2) args s 0 0 (AG G)) K 0 0 M25 56 [(0, .ref (G.1 + 90)), (4, .int y26), (5, .int y27)] []) (M22 : MM) (y23 : Int32) (y24 : Int32) (hf : fX12_known_j87 k56 M22 y23 y24 = some pp) : Z p l e (rmo 4 0 0) s m args below meth c 6 G (MQ below (QC G (some (.int pp.1)) K pp.2) args s 0 0 (AG G)) K 0 0 M22 87 [(0, .ref (G.1 + 90)), (5, .int y23)] [.int y24] := by
  unfold fX12_known_j87 at hf
  refine z_istore C [(4, .int y24), (0, .ref (G.1 + 90)), (5, .int y23)] dX12_known_87 (by decide) rfl rfl ?_
  refine z_iinc C 2 (y23 + 1) [(5, .int (y23 + 1)), (4, .int y24), (0, .ref (G.1 + 90))] dX12_known_89 rfl rfl (by decide) rfl rfl ?_
  refine z_goto C 56 dX12_known_92 (by decide) ?_
  refine z_lv (lv2 := [(0, .ref (G.1 + 90)), (4, .int y24), (5, .int (y23 + 1))]) [2, 1, 0] rfl ?_
  exact hk56 M22 y24 (y23 + 1)  hf
set_option maxHeartbeats 4000000 in
set_option maxRecDepth 100000 in
theorem wX12_known_l56 (C : CX p s m args meth c cX12_known 6 (some .int) RX12 G) (hs0 : s.heap.size = G.1 + K.1) (hL : Lay K)   (pp : (Int32 × MM))  : ∀ (n : Nat) (M13 : MM) (y14 : Int32) (y15 : Int32) (hf : fX12_known_l56 n M13 y14 y15 = some pp), Z p l e (rmo 4 0 0) s m args below meth c 6 G (MQ below (QC G (some (.int pp.1)) K pp.2) args s 0 0 (AG G)) K 0 0 M13 56 [(0, .ref (G.1 + 90)), (4, .int y14), (5, .int y15)] [] := by
  intro n
  induction n with
  | zero => intro M13 y14 y15 hf; exact nomatch (show (none : Option (Int32 × MM)) = some pp from hf)
  | succ n ih =>
    intro M13 y14 y15 hf
    rw [fX12_known_l56.eq_2] at hf
    refine z_iload C 2 dX12_known_56 rfl ?_
    refine z_aload_n C 0 0 dX12_known_58 rfl rfl ?_
    refine z_getI C ok_X12 (lay_c90 hL) 13 (by decide) rfl q_fl_X12_213 dX12_known_59 ?_
    refine z_icmp_ge C 95 dX12_known_62 (by decide) (fun c16 => ?_) (fun c16 => ?_)
    · replace hf := ite_t c16 hf
      refine z_iload C 1 dX12_known_95 rfl ?_
      cases hf
      exact z_iret C rfl dX12_known_97
    · replace hf := ite_f c16 hf
      refine z_aload_n C 0 0 dX12_known_65 rfl rfl ?_
      refine z_iload C 2 dX12_known_66 rfl ?_
      replace hf := bd_out hf
      obtain ⟨p17, e18, hf⟩ := hf
      refine z_cV1 C [] (tX12_knownIn l G hL M13 y15 _ e18) lk_X12_knownIn ok_X12 (lay_c90 hL) q_ml_X12_378 rfl ⟨Nat.le_of_ble_eq_true rfl, Nat.le_of_ble_eq_true rfl⟩ rfl (Nat.le_of_ble_eq_true rfl) ⟨Nat.le_refl _, Nat.le_refl _⟩ dX12_known_68 ?_
      refine z_aload_n C 0 0 dX12_known_71 rfl rfl ?_
      refine z_iload C 1 dX12_known_72 rfl ?_
      replace hf := bd_out hf
      obtain ⟨p19, e20, hf⟩ := hf
      refine z_cV1 C [.int p17] (tX12_knownIn l G hL M13 y14 _ e20) lk_X12_knownIn ok_X12 (lay_c90 hL) q_ml_X12_378 rfl ⟨Nat.le_of_ble_eq_true rfl, Nat.le_of_ble_eq_true rfl⟩ rfl (Nat.le_of_ble_eq_true rfl) ⟨Nat.le_refl _, Nat.le_refl _⟩ dX12_known_74 ?_
      refine z_icmp_le C 85 dX12_known_77 (by decide) (fun c21 => ?_) (fun c21 => ?_)
      · replace hf := ite_t c21 hf
        refine z_iload C 1 dX12_known_85 rfl ?_
        refine z_lv (lv2 := [(0, .ref (G.1 + 90)), (5, .int y15)]) [0, 2] rfl ?_
        refine wX12_known_j87 C hs0 hL _ pp ?_ M13 y15 y14 hf
        · intro M28 y29 y30 hf
          exact ih M28 y29 y30  hf
      · replace hf := ite_f c21 hf
        refine z_iload C 2 dX12_known_80 rfl ?_
        refine z_goto C 87 dX12_known_82 (by decide) ?_
        refine z_lv (lv2 := [(0, .ref (G.1 + 90)), (5, .int y15)]) [0, 2] rfl ?_
        refine wX12_known_j87 C hs0 hL _ pp ?_ M13 y15 y15 hf
        · intro M31 y32 y33 hf
          exact ih M31 y32 y33  hf
set_option maxHeartbeats 4000000 in
set_option maxRecDepth 100000 in
theorem wX12_known_j51 (C : CX p s m args meth c cX12_known 6 (some .int) RX12 G) (hs0 : s.heap.size = G.1 + K.1) (hL : Lay K)   (pp : (Int32 × MM))  (M11 : MM) (y12 : Int32) (hf : fX12_known_j51 M11 y12 = some pp) : Z p l e (rmo 4 0 0) s m args below meth c 6 G (MQ below (QC G (some (.int pp.1)) K pp.2) args s 0 0 (AG G)) K 0 0 M11 51 [(0, .ref (G.1 + 90))] [.int y12] := by
  unfold fX12_known_j51 at hf
  refine z_istore C [(4, .int y12), (0, .ref (G.1 + 90))] dX12_known_51 (by decide) rfl rfl ?_
  refine z_iconst C 1 dX12_known_53 (by decide) ?_
  refine z_istore C [(5, .int 1), (4, .int y12), (0, .ref (G.1 + 90))] dX12_known_54 (by decide) rfl rfl ?_
  refine z_lv (lv2 := [(0, .ref (G.1 + 90)), (4, .int y12), (5, .int 1)]) [2, 1, 0] rfl ?_
  exact wX12_known_l56 C hs0 hL pp FU M11 y12 1 hf
set_option maxHeartbeats 4000000 in
set_option maxRecDepth 100000 in
theorem wX12_known_j24 (C : CX p s m args meth c cX12_known 6 (some .int) RX12 G) (hs0 : s.heap.size = G.1 + K.1) (hL : Lay K)   (pp : (Int32 × MM))  (M5 : MM) (y6 : Int32) (hf : fX12_known_j24 M5 y6 = some pp) : Z p l e (rmo 4 0 0) s m args below meth c 6 G (MQ below (QC G (some (.int pp.1)) K pp.2) args s 0 0 (AG G)) K 0 0 M5 24 [(0, .ref (G.1 + 90)), (3, .int y6)] [] := by
  unfold fX12_known_j24 at hf
  refine z_aload_n C 0 0 dX12_known_24 rfl rfl ?_
  replace hf := bd_out hf
  obtain ⟨p7, e8, hf⟩ := hf
  refine z_cV0 C [] (tX12_laysOut l G hL M5  _ e8) lk_X12_laysOut ok_X12 (lay_c90 hL) q_ml_X12_258 rfl ⟨Nat.le_of_ble_eq_true rfl, Nat.le_of_ble_eq_true rfl⟩ rfl (Nat.le_of_ble_eq_true rfl) ⟨Nat.le_refl _, Nat.le_refl _⟩ dX12_known_25 ?_
  refine z_iload_n C 1 3 dX12_known_28 rfl rfl ?_
  refine z_iconst C (-1) dX12_known_29 (by decide) ?_
  refine z_icmp_eq C 39 dX12_known_30 (by decide) (fun c9 => ?_) (fun c9 => ?_)
  · replace hf := ite_t c9 hf
    refine z_aload_n C 0 0 dX12_known_39 rfl rfl ?_
    refine z_getI C ok_X12 (lay_c90 hL) 13 (by decide) rfl q_fl_X12_213 dX12_known_40 ?_
    refine z_if_ne C 50 dX12_known_43 (by decide) (fun c10 => ?_) (fun c10 => ?_)
    · replace hf := ite_f c10 hf
      refine z_iconst C 0 dX12_known_50 (by decide) ?_
      refine z_lv (lv2 := [(0, .ref (G.1 + 90))]) [0] rfl ?_
      exact wX12_known_j51 C hs0 hL pp p7 0 hf
    · replace hf := ite_t c10 hf
      refine z_iconst C (-1) dX12_known_46 (by decide) ?_
      refine z_goto C 51 dX12_known_47 (by decide) ?_
      refine z_lv (lv2 := [(0, .ref (G.1 + 90))]) [0] rfl ?_
      exact wX12_known_j51 C hs0 hL pp p7 (-1) hf
  · replace hf := ite_f c9 hf
    refine z_aload_n C 0 0 dX12_known_33 rfl rfl ?_
    refine z_iload_n C 1 3 dX12_known_34 rfl rfl ?_
    replace hf := bd_out hf
    obtain ⟨p34, e35, hf⟩ := hf
    refine z_cV1 C [] (tX12_knownIn l G hL p7 y6 _ e35) lk_X12_knownIn ok_X12 (lay_c90 hL) q_ml_X12_378 rfl ⟨Nat.le_of_ble_eq_true rfl, Nat.le_of_ble_eq_true rfl⟩ rfl (Nat.le_of_ble_eq_true rfl) ⟨Nat.le_refl _, Nat.le_refl _⟩ dX12_known_35 ?_
    cases hf
    exact z_iret C rfl dX12_known_38
set_option maxHeartbeats 4000000 in
set_option maxRecDepth 100000 in
theorem tX12_known (l : Launch) (G : GG) {K : SK} (hL : Lay K) (M : MM) (x1 : Int32) (x2 : Int32) (x3 : Int32) (pp : (Int32 × MM)) (hf : fX12_known M x1 x2 x3 = some pp) : Ct l yX12_known cX12_known 6 (some .int) 4 0 0 G K M [.ref (G.1 + 90), .int x1, .int x2, .int x3] (some (.int pp.1)) K pp.2 := by
  refine z_enter (lv := [(0, .ref (G.1 + 90)), (1, .int x1), (2, .int x2), (3, .int x3)]) (by decide +kernel) (Nat.le_of_ble_eq_true rfl) rfl ?_
  intro p e s m args below meth c C hnm hs0
  replace C : CX p s m args meth c cX12_known 6 (some .int) RX12 G := C
  unfold fX12_known at hf
  refine z_aload_n C 0 0 dX12_known_0 rfl rfl ?_
  refine z_iload_n C 1 1 dX12_known_1 rfl rfl ?_
  refine z_iload_n C 2 2 dX12_known_2 rfl rfl ?_
  replace hf := bd_out hf
  obtain ⟨p1, e2, hf⟩ := hf
  refine z_cV1 C [] (tX12_areTold l G hL M x1 x2 _ e2) lk_X12_areTold ok_X12 (lay_c90 hL) q_ml_X12_279 rfl ⟨Nat.le_of_ble_eq_true rfl, Nat.le_of_ble_eq_true rfl⟩ rfl (Nat.le_of_ble_eq_true rfl) ⟨Nat.le_refl _, Nat.le_refl _⟩ dX12_known_3 ?_
  refine z_if_eq C 22 dX12_known_6 (by decide) (fun c3 => ?_) (fun c3 => ?_)
  · replace hf := ite_t c3 hf
    refine z_iconst C (-1) dX12_known_22 (by decide) ?_
    cases hf
    exact z_iret C rfl dX12_known_23
  · replace hf := ite_f c3 hf
    refine z_iload_n C 3 3 dX12_known_9 rfl rfl ?_
    refine z_iconst C (-1) dX12_known_10 (by decide) ?_
    refine z_icmp_eq C 24 dX12_known_11 (by decide) (fun c4 => ?_) (fun c4 => ?_)
    · replace hf := ite_t c4 hf
      refine z_lv (lv2 := [(0, .ref (G.1 + 90)), (3, .int x3)]) [0, 3] rfl ?_
      exact wX12_known_j24 C hs0 hL pp p1.2 x3 hf
    · replace hf := ite_f c4 hf
      refine z_aload_n C 0 0 dX12_known_14 rfl rfl ?_
      refine z_iload_n C 3 3 dX12_known_15 rfl rfl ?_
      replace hf := bd_out hf
      obtain ⟨p36, e37, hf⟩ := hf
      refine z_cV1 C [] (tX12_isPerson l G hL p1.2 x3 _ e37) lk_X12_isPerson ok_X12 (lay_c90 hL) q_ml_X12_228 rfl ⟨Nat.le_of_ble_eq_true rfl, Nat.le_of_ble_eq_true rfl⟩ rfl (Nat.le_of_ble_eq_true rfl) ⟨Nat.le_refl _, Nat.le_refl _⟩ dX12_known_16 ?_
      refine z_if_ne C 24 dX12_known_19 (by decide) (fun c38 => ?_) (fun c38 => ?_)
      · replace hf := ite_f c38 hf
        refine z_lv (lv2 := [(0, .ref (G.1 + 90)), (3, .int x3)]) [0, 3] rfl ?_
        exact wX12_known_j24 C hs0 hL pp p1.2 x3 hf
      · replace hf := ite_t c38 hf
        refine z_iconst C (-1) dX12_known_22 (by decide) ?_
        cases hf
        exact z_iret C rfl dX12_known_23
set_option maxHeartbeats 4000000 in
set_option maxRecDepth 100000 in
theorem tX12_below (l : Launch) (G : GG) {K : SK} (hL : Lay K) (M : MM) (x1 : Int32) (pp : (Int32 × MM)) (hf : fX12_below M x1 = some pp) : Ct l yX12_below cX12_below 2 (some .int) 0 0 0 G K M [.ref (G.1 + 90), .int x1] (some (.int pp.1)) K pp.2 := by
  refine z_enter (lv := [(0, .ref (G.1 + 90)), (1, .int x1)]) (by decide +kernel) (Nat.le_of_ble_eq_true rfl) rfl ?_
  intro p e s m args below meth c C hnm hs0
  replace C : CX p s m args meth c cX12_below 2 (some .int) RX12 G := C
  unfold fX12_below at hf
  refine z_aload_n C 0 0 dX12_below_0 rfl rfl ?_
  refine z_aload_n C 0 0 dX12_below_1 rfl rfl ?_
  refine z_getI C ok_X12 (lay_c90 hL) 43 (by decide) rfl q_fl_X12_381 dX12_below_2 ?_
  refine z_ldcw C 1103515245 q_ct_X12_384 dX12_below_5 ?_
  refine z_imul C dX12_below_8 ?_
  refine z_sipush C 12345 dX12_below_9 (by decide) ?_
  refine z_iadd C dX12_below_12 ?_
  refine z_putI C ok_X12 (lay_c90 hL) 43 (by decide) rfl rfl rfl rfl q_fl_X12_381 dX12_below_13 ?_
  refine z_M (fun M1 e2 => ?_)
  replace hf := bnd_out e2 hf
  refine z_aload_n C 0 0 dX12_below_16 rfl rfl ?_
  refine z_getI C ok_X12 (lay_c90 hL) 43 (by decide) rfl q_fl_X12_381 dX12_below_17 ?_
  refine z_bipush C 16 dX12_below_20 (by decide) ?_
  refine z_iushr C dX12_below_22 ?_
  refine z_iload_n C 1 1 dX12_below_23 rfl rfl ?_
  replace hf := gd_out hf
  obtain ⟨g3, hf⟩ := hf
  refine z_irem C (nz_ne g3) dX12_below_24 ?_
  cases hf
  exact z_iret C rfl dX12_below_25
set_option maxHeartbeats 4000000 in
set_option maxRecDepth 100000 in
theorem wX12_draws_j63 (C : CX p s m args meth c cX12_draws 6 none RX12 G) (hs0 : s.heap.size = G.1 + K.1) (hL : Lay K)   (pp : MM)  (M14 : MM) (y15 : Int32) (y16 : Int32) (y17 : Int32) (hf : fX12_draws_j63 M14 y15 y16 y17 = some pp) : Z p l e (rmo 6 0 0) s m args below meth c 6 G (MQ below (QC G none K pp) args s 0 0 (AG G)) K 0 0 M14 63 [(0, .ref (G.1 + 90)), (3, .int y15), (4, .int y16)] [.int y17] := by
  unfold fX12_draws_j63 at hf
  refine z_istore C [(5, .int y17), (0, .ref (G.1 + 90)), (3, .int y15), (4, .int y16)] dX12_draws_63 (by decide) rfl rfl ?_
  refine z_aload_n C 1 0 dX12_draws_65 rfl rfl ?_
  refine z_iload C 0 dX12_draws_66 rfl ?_
  refine z_iload_n C 2 3 dX12_draws_68 rfl rfl ?_
  refine z_iload C 3 dX12_draws_69 rfl ?_
  replace hf := bd_out hf
  obtain ⟨p18, e19, hf⟩ := hf
  refine z_cV1 C [] (tX12_can l G hL M14 y17 y15 y16 _ e19) lk_X12_can ok_X12 (lay_c90 hL) q_ml_X12_315 rfl ⟨Nat.le_of_ble_eq_true rfl, Nat.le_of_ble_eq_true rfl⟩ rfl (Nat.le_of_ble_eq_true rfl) ⟨Nat.le_refl _, Nat.le_refl _⟩ dX12_draws_71 ?_
  refine z_if_eq C 86 dX12_draws_74 (by decide) (fun c20 => ?_) (fun c20 => ?_)
  · replace hf := ite_t c20 hf
    cases hf
    exact z_vret C rfl dX12_draws_86
  · replace hf := ite_f c20 hf
    refine z_aload_n C 1 0 dX12_draws_77 rfl rfl ?_
    refine z_iload C 0 dX12_draws_78 rfl ?_
    refine z_iload_n C 2 3 dX12_draws_80 rfl rfl ?_
    refine z_iload C 3 dX12_draws_81 rfl ?_
    replace hf := bd_out hf
    obtain ⟨p21, e22, hf⟩ := hf
    refine z_cV0 C [] (tX12_does l G hL M14 y17 y15 y16 _ e22) lk_X12_does ok_X12 (lay_c90 hL) q_ml_X12_318 rfl ⟨Nat.le_of_ble_eq_true rfl, Nat.le_of_ble_eq_true rfl⟩ rfl (Nat.le_of_ble_eq_true rfl) ⟨Nat.le_refl _, Nat.le_refl _⟩ dX12_draws_83 ?_
    cases hf
    exact z_vret C rfl dX12_draws_86
set_option maxHeartbeats 4000000 in
set_option maxRecDepth 100000 in
theorem wX12_draws_j22 (C : CX p s m args meth c cX12_draws 6 none RX12 G) (hs0 : s.heap.size = G.1 + K.1) (hL : Lay K)   (pp : MM)  (M4 : MM) (y5 : Int32) (y6 : Int32) (hf : fX12_draws_j22 M4 y5 y6 = some pp) : Z p l e (rmo 6 0 0) s m args below meth c 6 G (MQ below (QC G none K pp) args s 0 0 (AG G)) K 0 0 M4 22 [(0, .ref (G.1 + 90)), (1, .int y5)] [.int y6] := by
  unfold fX12_draws_j22 at hf
  refine z_istore_n C [(2, .int y6), (0, .ref (G.1 + 90)), (1, .int y5)] dX12_draws_22 rfl (by decide) rfl rfl ?_
  refine z_iload_n C 2 1 dX12_draws_23 rfl rfl ?_
  refine z_iconst C 3 dX12_draws_24 (by decide) ?_
  refine z_icmp_ne C 35 dX12_draws_25 (by decide) (fun c7 => ?_) (fun c7 => ?_)
  · replace hf := ite_f c7 hf
    refine z_iload_n C 0 2 dX12_draws_35 rfl rfl ?_
    refine z_if_le C 86 dX12_draws_36 (by decide) (fun c8 => ?_) (fun c8 => ?_)
    · replace hf := ite_t c8 hf
      cases hf
      exact z_vret C rfl dX12_draws_86
    · replace hf := ite_f c8 hf
      refine z_aload_n C 1 0 dX12_draws_39 rfl rfl ?_
      refine z_iload_n C 0 2 dX12_draws_40 rfl rfl ?_
      replace hf := bd_out hf
      obtain ⟨p9, e10, hf⟩ := hf
      refine z_cV1 C [] (tX12_below l G hL M4 y6 _ e10) lk_X12_below ok_X12 (lay_c90 hL) q_ml_X12_385 rfl ⟨Nat.le_of_ble_eq_true rfl, Nat.le_of_ble_eq_true rfl⟩ rfl (Nat.le_of_ble_eq_true rfl) ⟨Nat.le_refl _, Nat.le_refl _⟩ dX12_draws_41 ?_
      refine z_istore_n C [(3, .int p9.1), (2, .int y6), (0, .ref (G.1 + 90)), (1, .int y5)] dX12_draws_44 rfl (by decide) rfl rfl ?_
      refine z_aload_n C 2 0 dX12_draws_45 rfl rfl ?_
      refine z_bipush C 8 dX12_draws_46 (by decide) ?_
      replace hf := bd_out hf
      obtain ⟨p11, e12, hf⟩ := hf
      refine z_cV1 C [] (tX12_below l G hL p9.2 8 _ e12) lk_X12_below ok_X12 (lay_c90 hL) q_ml_X12_385 rfl ⟨Nat.le_of_ble_eq_true rfl, Nat.le_of_ble_eq_true rfl⟩ rfl (Nat.le_of_ble_eq_true rfl) ⟨Nat.le_refl _, Nat.le_refl _⟩ dX12_draws_48 ?_
      refine z_istore C [(4, .int p11.1), (3, .int p9.1), (2, .int y6), (0, .ref (G.1 + 90)), (1, .int y5)] dX12_draws_51 (by decide) rfl rfl ?_
      refine z_iload_n C 4 1 dX12_draws_53 rfl rfl ?_
      refine z_iconst C 2 dX12_draws_54 (by decide) ?_
      refine z_icmp_ge C 62 dX12_draws_55 (by decide) (fun c13 => ?_) (fun c13 => ?_)
      · replace hf := ite_t c13 hf
        refine z_iconst C 1 dX12_draws_62 (by decide) ?_
        refine z_lv (lv2 := [(0, .ref (G.1 + 90)), (3, .int p9.1), (4, .int p11.1)]) [3, 1, 0] rfl ?_
        exact wX12_draws_j63 C hs0 hL pp p11.2 p9.1 p11.1 1 hf
      · replace hf := ite_f c13 hf
        refine z_iconst C 0 dX12_draws_58 (by decide) ?_
        refine z_goto C 63 dX12_draws_59 (by decide) ?_
        refine z_lv (lv2 := [(0, .ref (G.1 + 90)), (3, .int p9.1), (4, .int p11.1)]) [3, 1, 0] rfl ?_
        exact wX12_draws_j63 C hs0 hL pp p11.2 p9.1 p11.1 0 hf
  · replace hf := ite_t c7 hf
    refine z_aload_n C 1 0 dX12_draws_28 rfl rfl ?_
    replace hf := bd_out hf
    obtain ⟨p23, e24, hf⟩ := hf
    refine z_cV0 C [] (tX12_counts l G hL M4  _ e24) lk_X12_counts ok_X12 (lay_c90 hL) q_ml_X12_309 rfl ⟨Nat.le_of_ble_eq_true rfl, Nat.le_of_ble_eq_true rfl⟩ rfl (Nat.le_of_ble_eq_true rfl) ⟨Nat.le_refl _, Nat.le_refl _⟩ dX12_draws_29 ?_
    refine z_goto C 86 dX12_draws_32 (by decide) ?_
    cases hf
    exact z_vret C rfl dX12_draws_86
set_option maxHeartbeats 4000000 in
set_option maxRecDepth 100000 in
theorem tX12_draws (l : Launch) (G : GG) {K : SK} (hL : Lay K) (M : MM)  (pp : MM) (hf : fX12_draws M = some pp) : Ct l yX12_draws cX12_draws 6 none 6 0 0 G K M [.ref (G.1 + 90)] none K pp := by
  refine z_enter (lv := [(0, .ref (G.1 + 90))]) (by decide +kernel) (Nat.le_of_ble_eq_true rfl) rfl ?_
  intro p e s m args below meth c C hnm hs0
  replace C : CX p s m args meth c cX12_draws 6 none RX12 G := C
  unfold fX12_draws at hf
  refine z_aload_n C 0 0 dX12_draws_0 rfl rfl ?_
  refine z_iconst C 4 dX12_draws_1 (by decide) ?_
  replace hf := bd_out hf
  obtain ⟨p1, e2, hf⟩ := hf
  refine z_cV1 C [] (tX12_below l G hL M 4 _ e2) lk_X12_below ok_X12 (lay_c90 hL) q_ml_X12_385 rfl ⟨Nat.le_of_ble_eq_true rfl, Nat.le_of_ble_eq_true rfl⟩ rfl (Nat.le_of_ble_eq_true rfl) ⟨Nat.le_refl _, Nat.le_refl _⟩ dX12_draws_2 ?_
  refine z_istore_n C [(1, .int p1.1), (0, .ref (G.1 + 90))] dX12_draws_5 rfl (by decide) rfl rfl ?_
  refine z_iload_n C 0 1 dX12_draws_6 rfl rfl ?_
  refine z_iconst C 2 dX12_draws_7 (by decide) ?_
  refine z_icmp_ge C 18 dX12_draws_8 (by decide) (fun c3 => ?_) (fun c3 => ?_)
  · replace hf := ite_t c3 hf
    refine z_aload_n C 1 0 dX12_draws_18 rfl rfl ?_
    refine z_getI C ok_X12 (lay_c90 hL) 14 (by decide) rfl q_fl_X12_216 dX12_draws_19 ?_
    refine z_lv (lv2 := [(0, .ref (G.1 + 90)), (1, .int p1.1)]) [1, 0] rfl ?_
    exact wX12_draws_j22 C hs0 hL pp p1.2 p1.1 (gI p1.2 90 14) hf
  · replace hf := ite_f c3 hf
    refine z_aload_n C 1 0 dX12_draws_11 rfl rfl ?_
    refine z_getI C ok_X12 (lay_c90 hL) 13 (by decide) rfl q_fl_X12_213 dX12_draws_12 ?_
    refine z_goto C 22 dX12_draws_15 (by decide) ?_
    refine z_lv (lv2 := [(0, .ref (G.1 + 90)), (1, .int p1.1)]) [1, 0] rfl ?_
    exact wX12_draws_j22 C hs0 hL pp p1.2 p1.1 (gI p1.2 90 13) hf
set_option maxHeartbeats 4000000 in
set_option maxRecDepth 100000 in
theorem wX12_drawn_l47 (C : CX p s m args meth c cX12_drawn 7 (some .int) RX12 G) (hs0 : s.heap.size = G.1 + K.1) (hL : Lay K)  (k64 : MM → Int32 → Option (Int32 × MM)) (pp : (Int32 × MM)) (hk64 : ∀ (M15 : MM) (y16 : Int32), k64 M15 y16 = some pp → Z p l e (rmo 7 0 0) s m args below meth c 7 G (MQ below (QC G (some (.int pp.1)) K pp.2) args s 0 0 (AG G)) K 0 0 M15 64 [(0, .ref (G.1 + 90)), (5, .int y16)] []) : ∀ (n : Nat) (M10 : MM) (y11 : Int32) (y12 : Int32) (y13 : Int32) (hf : fX12_drawn_l47 k64 n M10 y11 y12 y13 = some pp), Z p l e (rmo 7 0 0) s m args below meth c 7 G (MQ below (QC G (some (.int pp.1)) K pp.2) args s 0 0 (AG G)) K 0 0 M10 47 [(0, .ref (G.1 + 90)), (4, .int y11), (5, .int y12), (6, .int y13)] [] := by
  intro n
  induction n with
  | zero => intro M10 y11 y12 y13 hf; exact nomatch (show (none : Option (Int32 × MM)) = some pp from hf)
  | succ n ih =>
    intro M10 y11 y12 y13 hf
    rw [fX12_drawn_l47.eq_2] at hf
    refine z_iload C 3 dX12_drawn_47 rfl ?_
    refine z_iload C 1 dX12_drawn_49 rfl ?_
    refine z_icmp_ge C 64 dX12_drawn_51 (by decide) (fun c14 => ?_) (fun c14 => ?_)
    · replace hf := ite_t c14 hf
      refine z_lv (lv2 := [(0, .ref (G.1 + 90)), (5, .int y12)]) [0, 2] rfl ?_
      exact hk64 M10 y12  hf
    · replace hf := ite_f c14 hf
      refine z_aload_n C 0 0 dX12_drawn_54 rfl rfl ?_
      replace hf := bd_out hf
      obtain ⟨p17, e18, hf⟩ := hf
      refine z_cV0 C [] (tX12_draws l G hL M10  _ e18) lk_X12_draws ok_X12 (lay_c90 hL) q_ml_X12_388 rfl ⟨Nat.le_of_ble_eq_true rfl, Nat.le_of_ble_eq_true rfl⟩ rfl (Nat.le_of_ble_eq_true rfl) ⟨Nat.le_refl _, Nat.le_refl _⟩ dX12_drawn_55 ?_
      refine z_iinc C 3 (y13 + 1) [(6, .int (y13 + 1)), (0, .ref (G.1 + 90)), (4, .int y11), (5, .int y12)] dX12_drawn_58 rfl rfl (by decide) rfl rfl ?_
      refine z_goto C 47 dX12_drawn_61 (by decide) ?_
      refine z_lv (lv2 := [(0, .ref (G.1 + 90)), (4, .int y11), (5, .int y12), (6, .int (y13 + 1))]) [1, 2, 3, 0] rfl ?_
      exact ih p17 y11 y12 (y13 + 1)  hf
set_option maxHeartbeats 4000000 in
set_option maxRecDepth 100000 in
theorem tX12_drawn (l : Launch) (G : GG) {K : SK} (hL : Lay K) (M : MM) (x1 : Int32) (x2 : Int32) (x3 : Int32) (x4 : Int32) (x5 : Int32) (pp : (Int32 × MM)) (hf : fX12_drawn M x1 x2 x3 x4 x5 = some pp) : Ct l yX12_drawn cX12_drawn 7 (some .int) 7 0 0 G K M [.ref (G.1 + 90), .int x1, .int x2, .int x3, .int x4, .int x5] (some (.int pp.1)) K pp.2 := by
  refine z_enter (lv := [(0, .ref (G.1 + 90)), (1, .int x1), (2, .int x2), (3, .int x3), (4, .int x4), (5, .int x5)]) (by decide +kernel) (Nat.le_of_ble_eq_true rfl) rfl ?_
  intro p e s m args below meth c C hnm hs0
  replace C : CX p s m args meth c cX12_drawn 7 (some .int) RX12 G := C
  unfold fX12_drawn at hf
  refine z_aload_n C 0 0 dX12_drawn_0 rfl rfl ?_
  refine z_iload_n C 1 1 dX12_drawn_1 rfl rfl ?_
  refine z_iload_n C 2 2 dX12_drawn_2 rfl rfl ?_
  replace hf := bd_out hf
  obtain ⟨p1, e2, hf⟩ := hf
  refine z_cV1 C [] (tX12_areTold l G hL M x1 x2 _ e2) lk_X12_areTold ok_X12 (lay_c90 hL) q_ml_X12_279 rfl ⟨Nat.le_of_ble_eq_true rfl, Nat.le_of_ble_eq_true rfl⟩ rfl (Nat.le_of_ble_eq_true rfl) ⟨Nat.le_refl _, Nat.le_refl _⟩ dX12_drawn_3 ?_
  refine z_if_eq C 32 dX12_drawn_6 (by decide) (fun c3 => ?_) (fun c3 => ?_)
  · replace hf := ite_t c3 hf
    refine z_bipush C (-2) dX12_drawn_32 (by decide) ?_
    cases hf
    exact z_iret C rfl dX12_drawn_34
  · replace hf := ite_f c3 hf
    refine z_iload C 4 dX12_drawn_9 rfl ?_
    refine z_iconst C 0 dX12_drawn_11 (by decide) ?_
    refine z_bipush C 40 dX12_drawn_12 (by decide) ?_
    refine z_cS1 C [] (tX12_isIn l G hL p1.2 x4 0 40) lk_X12_isIn q_ml_X12_141 rfl ⟨Nat.le_of_ble_eq_true rfl, Nat.le_of_ble_eq_true rfl⟩ rfl (Nat.le_of_ble_eq_true rfl) ⟨Nat.le_refl _, Nat.le_refl _⟩ dX12_drawn_14 ?_
    refine z_if_eq C 32 dX12_drawn_17 (by decide) (fun c4 => ?_) (fun c4 => ?_)
    · replace hf := ite_t c4 hf
      refine z_bipush C (-2) dX12_drawn_32 (by decide) ?_
      cases hf
      exact z_iret C rfl dX12_drawn_34
    · replace hf := ite_f c4 hf
      refine z_iload C 5 dX12_drawn_20 rfl ?_
      refine z_bipush C 50 dX12_drawn_22 (by decide) ?_
      refine z_bipush C 59 dX12_drawn_24 (by decide) ?_
      refine z_cS1 C [] (tX12_isIn l G hL p1.2 x5 50 59) lk_X12_isIn q_ml_X12_141 rfl ⟨Nat.le_of_ble_eq_true rfl, Nat.le_of_ble_eq_true rfl⟩ rfl (Nat.le_of_ble_eq_true rfl) ⟨Nat.le_refl _, Nat.le_refl _⟩ dX12_drawn_26 ?_
      refine z_if_eq C 35 dX12_drawn_29 (by decide) (fun c5 => ?_) (fun c5 => ?_)
      · replace hf := ite_t c5 hf
        refine z_aload_n C 0 0 dX12_drawn_35 rfl rfl ?_
        refine z_iload_n C 3 3 dX12_drawn_36 rfl rfl ?_
        refine z_putI C ok_X12 (lay_c90 hL) 43 (by decide) rfl rfl rfl rfl q_fl_X12_381 dX12_drawn_37 ?_
        refine z_M (fun M6 e7 => ?_)
        replace hf := bnd_out e7 hf
        refine z_aload_n C 0 0 dX12_drawn_40 rfl rfl ?_
        replace hf := bd_out hf
        obtain ⟨p8, e9, hf⟩ := hf
        refine z_cV0 C [] (tX12_begins l G hL M6  _ e9) lk_X12_begins ok_X12 (lay_c90 hL) q_ml_X12_312 rfl ⟨Nat.le_of_ble_eq_true rfl, Nat.le_of_ble_eq_true rfl⟩ rfl (Nat.le_of_ble_eq_true rfl) ⟨Nat.le_refl _, Nat.le_refl _⟩ dX12_drawn_41 ?_
        refine z_iconst C 0 dX12_drawn_44 (by decide) ?_
        refine z_istore C [(6, .int 0), (0, .ref (G.1 + 90)), (1, .int x1), (2, .int x2), (3, .int x3), (4, .int x4), (5, .int x5)] dX12_drawn_45 (by decide) rfl rfl ?_
        refine z_lv (lv2 := [(0, .ref (G.1 + 90)), (4, .int x4), (5, .int x5), (6, .int 0)]) [1, 5, 6, 0] rfl ?_
        refine wX12_drawn_l47 C hs0 hL _ pp ?_ FU p8 x4 x5 0 hf
        · intro M19 y20 hf
          refine z_aload_n C 0 0 dX12_drawn_64 rfl rfl ?_
          refine z_iload C 1 dX12_drawn_65 rfl ?_
          replace hf := bd_out hf
          obtain ⟨p21, e22, hf⟩ := hf
          refine z_cV1 C [] (tX12_nowOf l G hL M19 y20 _ e22) lk_X12_nowOf ok_X12 (lay_c90 hL) q_ml_X12_325 rfl ⟨Nat.le_of_ble_eq_true rfl, Nat.le_of_ble_eq_true rfl⟩ rfl (Nat.le_of_ble_eq_true rfl) ⟨Nat.le_refl _, Nat.le_refl _⟩ dX12_drawn_67 ?_
          cases hf
          exact z_iret C rfl dX12_drawn_70
      · replace hf := ite_f c5 hf
        refine z_bipush C (-2) dX12_drawn_32 (by decide) ?_
        cases hf
        exact z_iret C rfl dX12_drawn_34
set_option maxHeartbeats 4000000 in
set_option maxRecDepth 100000 in
theorem tX12_count (l : Launch) (G : GG) {K : SK} (hL : Lay K) (M : MM) (x1 : Int32) (pp : Int32) (hf : fX12_count M x1 = some pp) : Ct l yX12_count cX12_count 2 (some .int) 1 0 0 G K M [.ref (G.1 + 90), .int x1] (some (.int pp)) K M := by
  refine z_enter (lv := [(0, .ref (G.1 + 90)), (1, .int x1)]) (by decide +kernel) (Nat.le_of_ble_eq_true rfl) rfl ?_
  intro p e s m args below meth c C hnm hs0
  replace C : CX p s m args meth c cX12_count 2 (some .int) RX12 G := C
  unfold fX12_count at hf
  refine z_iload_n C 1 1 dX12_count_0 rfl rfl ?_
  refine z_iconst C 0 dX12_count_1 (by decide) ?_
  refine z_iconst C 3 dX12_count_2 (by decide) ?_
  refine z_cS1 C [] (tX12_isIn l G hL M x1 0 3) lk_X12_isIn q_ml_X12_141 rfl ⟨Nat.le_of_ble_eq_true rfl, Nat.le_of_ble_eq_true rfl⟩ rfl (Nat.le_of_ble_eq_true rfl) ⟨Nat.le_refl _, Nat.le_refl _⟩ dX12_count_3 ?_
  refine z_if_eq C 18 dX12_count_6 (by decide) (fun c1 => ?_) (fun c1 => ?_)
  · replace hf := ite_t c1 hf
    refine z_bipush C (-2) dX12_count_18 (by decide) ?_
    cases hf
    exact z_iret C rfl dX12_count_20
  · replace hf := ite_f c1 hf
    refine z_aload_n C 0 0 dX12_count_9 rfl rfl ?_
    refine z_getR C ok_X12 (lay_c90 hL) 0 (91) (by decide) rfl (lay_r90_0 hL) q_fl_X12_7 dX12_count_10 ?_
    refine z_iload_n C 1 1 dX12_count_13 rfl rfl ?_
    replace hf := gd_out hf
    obtain ⟨g2, hf⟩ := hf
    refine z_iald C (lay_c91 hL) (inb_in g2) dX12_count_14 ?_
    refine z_goto C 20 dX12_count_15 (by decide) ?_
    cases hf
    exact z_iret C rfl dX12_count_20
set_option maxHeartbeats 4000000 in
set_option maxRecDepth 100000 in
theorem wX12_image_l20 (C : CX p s m args meth c cX12_image 3 (some .boolean) RX12 G) (hs0 : s.heap.size = G.1 + K.1) (hL : Lay K)   (pp : (Int32 × MM))  : ∀ (n : Nat) (M5 : MM) (y6 : Int32) (y7 : Int32) (hf : fX12_image_l20 n M5 y6 y7 = some pp), Z p l e (rmo 1 0 0) s m args below meth c 3 G (MQ below (QC G (some (.int pp.1)) K pp.2) args s 0 0 (AG G)) K 0 0 M5 20 [(0, .ref (G.1 + 90)), (1, .int y6), (2, .int y7)] [] := by
  intro n
  induction n with
  | zero => intro M5 y6 y7 hf; exact nomatch (show (none : Option (Int32 × MM)) = some pp from hf)
  | succ n ih =>
    intro M5 y6 y7 hf
    rw [fX12_image_l20.eq_2] at hf
    refine z_iload_n C 2 2 dX12_image_20 rfl rfl ?_
    refine z_sipush C 1130 dX12_image_21 (by decide) ?_
    refine z_icmp_ge C 53 dX12_image_24 (by decide) (fun c8 => ?_) (fun c8 => ?_)
    · replace hf := ite_t c8 hf
      refine z_iconst C 1 dX12_image_53 (by decide) ?_
      cases hf
      exact z_zret C rfl nb1 dX12_image_54
    · replace hf := ite_f c8 hf
      refine z_aload_n C 0 0 dX12_image_27 rfl rfl ?_
      refine z_getR C ok_X12 (lay_c90 hL) 0 (91) (by decide) rfl (lay_r90_0 hL) q_fl_X12_7 dX12_image_28 ?_
      refine z_sipush C 1130 dX12_image_31 (by decide) ?_
      refine z_iload_n C 1 1 dX12_image_34 rfl rfl ?_
      refine z_iconst C 1 dX12_image_35 (by decide) ?_
      refine z_iadd C dX12_image_36 ?_
      refine z_imul C dX12_image_37 ?_
      refine z_iload_n C 2 2 dX12_image_38 rfl rfl ?_
      refine z_iadd C dX12_image_39 ?_
      refine z_aload_n C 0 0 dX12_image_40 rfl rfl ?_
      refine z_getR C ok_X12 (lay_c90 hL) 0 (91) (by decide) rfl (lay_r90_0 hL) q_fl_X12_7 dX12_image_41 ?_
      refine z_iload_n C 2 2 dX12_image_44 rfl rfl ?_
      replace hf := gd_out hf
      obtain ⟨g9, hf⟩ := hf
      refine z_iald C (lay_c91 hL) (inb_in g9) dX12_image_45 ?_
      replace hf := gd_out hf
      obtain ⟨g10, hf⟩ := hf
      refine z_iast C (lay_c91 hL) (inb_in g10) dX12_image_46 ?_
      refine z_M (fun M11 e12 => ?_)
      replace hf := bnd_out e12 hf
      refine z_iinc C 2 (y7 + 1) [(2, .int (y7 + 1)), (0, .ref (G.1 + 90)), (1, .int y6)] dX12_image_47 rfl rfl (by decide) rfl rfl ?_
      refine z_goto C 20 dX12_image_50 (by decide) ?_
      refine z_lv (lv2 := [(0, .ref (G.1 + 90)), (1, .int y6), (2, .int (y7 + 1))]) [1, 2, 0] rfl ?_
      exact ih M11 y6 (y7 + 1)  hf
set_option maxHeartbeats 4000000 in
set_option maxRecDepth 100000 in
theorem tX12_image (l : Launch) (G : GG) {K : SK} (hL : Lay K) (M : MM) (x1 : Int32) (pp : (Int32 × MM)) (hf : fX12_image M x1 = some pp) : Ct l yX12_image cX12_image 3 (some .boolean) 1 0 0 G K M [.ref (G.1 + 90), .int x1] (some (.int pp.1)) K pp.2 := by
  refine z_enter (lv := [(0, .ref (G.1 + 90)), (1, .int x1)]) (by decide +kernel) (Nat.le_of_ble_eq_true rfl) rfl ?_
  intro p e s m args below meth c C hnm hs0
  replace C : CX p s m args meth c cX12_image 3 (some .boolean) RX12 G := C
  unfold fX12_image at hf
  refine z_iload_n C 1 1 dX12_image_0 rfl rfl ?_
  refine z_iconst C 0 dX12_image_1 (by decide) ?_
  refine z_iconst C 2 dX12_image_2 (by decide) ?_
  refine z_cS1 C [] (tX12_isIn l G hL M x1 0 2) lk_X12_isIn q_ml_X12_141 rfl ⟨Nat.le_of_ble_eq_true rfl, Nat.le_of_ble_eq_true rfl⟩ rfl (Nat.le_of_ble_eq_true rfl) ⟨Nat.le_refl _, Nat.le_refl _⟩ dX12_image_3 ?_
  refine z_if_ne C 11 dX12_image_6 (by decide) (fun c1 => ?_) (fun c1 => ?_)
  · replace hf := ite_f c1 hf
    refine z_aload_n C 0 0 dX12_image_11 rfl rfl ?_
    refine z_getR C ok_X12 (lay_c90 hL) 1 (92) (by decide) rfl (lay_r90_1 hL) q_fl_X12_13 dX12_image_12 ?_
    refine z_iload_n C 1 1 dX12_image_15 rfl rfl ?_
    refine z_iconst C 1 dX12_image_16 (by decide) ?_
    replace hf := gd_out hf
    obtain ⟨g2, hf⟩ := hf
    refine z_zast C (lay_c92 hL) (inb_in g2) dX12_image_17 ?_
    refine z_M (fun M3 e4 => ?_)
    replace hf := bnd_out e4 hf
    refine z_iconst C 0 dX12_image_18 (by decide) ?_
    refine z_istore_n C [(2, .int 0), (0, .ref (G.1 + 90)), (1, .int x1)] dX12_image_19 rfl (by decide) rfl rfl ?_
    refine z_lv (lv2 := [(0, .ref (G.1 + 90)), (1, .int x1), (2, .int 0)]) [1, 2, 0] rfl ?_
    exact wX12_image_l20 C hs0 hL pp FU M3 x1 0 hf
  · replace hf := ite_t c1 hf
    refine z_iconst C 0 dX12_image_9 (by decide) ?_
    cases hf
    exact z_zret C rfl nb0 dX12_image_10
set_option maxHeartbeats 4000000 in
set_option maxRecDepth 100000 in
theorem wX12_again_l22 (C : CX p s m args meth c cX12_again 3 (some .boolean) RX12 G) (hs0 : s.heap.size = G.1 + K.1) (hL : Lay K)   (pp : (Int32 × MM))  : ∀ (n : Nat) (M4 : MM) (y5 : Int32) (y6 : Int32) (hf : fX12_again_l22 n M4 y5 y6 = some pp), Z p l e (rmo 1 0 0) s m args below meth c 3 G (MQ below (QC G (some (.int pp.1)) K pp.2) args s 0 0 (AG G)) K 0 0 M4 22 [(0, .ref (G.1 + 90)), (1, .int y5), (2, .int y6)] [] := by
  intro n
  induction n with
  | zero => intro M4 y5 y6 hf; exact nomatch (show (none : Option (Int32 × MM)) = some pp from hf)
  | succ n ih =>
    intro M4 y5 y6 hf
    rw [fX12_again_l22.eq_2] at hf
    refine z_iload_n C 2 2 dX12_again_22 rfl rfl ?_
    refine z_sipush C 1130 dX12_again_23 (by decide) ?_
    refine z_icmp_ge C 55 dX12_again_26 (by decide) (fun c7 => ?_) (fun c7 => ?_)
    · replace hf := ite_t c7 hf
      refine z_iconst C 1 dX12_again_55 (by decide) ?_
      cases hf
      exact z_zret C rfl nb1 dX12_again_56
    · replace hf := ite_f c7 hf
      refine z_aload_n C 0 0 dX12_again_29 rfl rfl ?_
      refine z_getR C ok_X12 (lay_c90 hL) 0 (91) (by decide) rfl (lay_r90_0 hL) q_fl_X12_7 dX12_again_30 ?_
      refine z_iload_n C 2 2 dX12_again_33 rfl rfl ?_
      refine z_aload_n C 0 0 dX12_again_34 rfl rfl ?_
      refine z_getR C ok_X12 (lay_c90 hL) 0 (91) (by decide) rfl (lay_r90_0 hL) q_fl_X12_7 dX12_again_35 ?_
      refine z_sipush C 1130 dX12_again_38 (by decide) ?_
      refine z_iload_n C 1 1 dX12_again_41 rfl rfl ?_
      refine z_iconst C 1 dX12_again_42 (by decide) ?_
      refine z_iadd C dX12_again_43 ?_
      refine z_imul C dX12_again_44 ?_
      refine z_iload_n C 2 2 dX12_again_45 rfl rfl ?_
      refine z_iadd C dX12_again_46 ?_
      replace hf := gd_out hf
      obtain ⟨g8, hf⟩ := hf
      refine z_iald C (lay_c91 hL) (inb_in g8) dX12_again_47 ?_
      replace hf := gd_out hf
      obtain ⟨g9, hf⟩ := hf
      refine z_iast C (lay_c91 hL) (inb_in g9) dX12_again_48 ?_
      refine z_M (fun M10 e11 => ?_)
      replace hf := bnd_out e11 hf
      refine z_iinc C 2 (y6 + 1) [(2, .int (y6 + 1)), (0, .ref (G.1 + 90)), (1, .int y5)] dX12_again_49 rfl rfl (by decide) rfl rfl ?_
      refine z_goto C 22 dX12_again_52 (by decide) ?_
      refine z_lv (lv2 := [(0, .ref (G.1 + 90)), (1, .int y5), (2, .int (y6 + 1))]) [1, 2, 0] rfl ?_
      exact ih M10 y5 (y6 + 1)  hf
set_option maxHeartbeats 4000000 in
set_option maxRecDepth 100000 in
theorem tX12_again (l : Launch) (G : GG) {K : SK} (hL : Lay K) (M : MM) (x1 : Int32) (pp : (Int32 × MM)) (hf : fX12_again M x1 = some pp) : Ct l yX12_again cX12_again 3 (some .boolean) 1 0 0 G K M [.ref (G.1 + 90), .int x1] (some (.int pp.1)) K pp.2 := by
  refine z_enter (lv := [(0, .ref (G.1 + 90)), (1, .int x1)]) (by decide +kernel) (Nat.le_of_ble_eq_true rfl) rfl ?_
  intro p e s m args below meth c C hnm hs0
  replace C : CX p s m args meth c cX12_again 3 (some .boolean) RX12 G := C
  unfold fX12_again at hf
  refine z_iload_n C 1 1 dX12_again_0 rfl rfl ?_
  refine z_iconst C 0 dX12_again_1 (by decide) ?_
  refine z_iconst C 2 dX12_again_2 (by decide) ?_
  refine z_cS1 C [] (tX12_isIn l G hL M x1 0 2) lk_X12_isIn q_ml_X12_141 rfl ⟨Nat.le_of_ble_eq_true rfl, Nat.le_of_ble_eq_true rfl⟩ rfl (Nat.le_of_ble_eq_true rfl) ⟨Nat.le_refl _, Nat.le_refl _⟩ dX12_again_3 ?_
  refine z_if_eq C 18 dX12_again_6 (by decide) (fun c1 => ?_) (fun c1 => ?_)
  · replace hf := ite_t c1 hf
    refine z_iconst C 0 dX12_again_18 (by decide) ?_
    cases hf
    exact z_zret C rfl nb0 dX12_again_19
  · replace hf := ite_f c1 hf
    refine z_aload_n C 0 0 dX12_again_9 rfl rfl ?_
    refine z_getR C ok_X12 (lay_c90 hL) 1 (92) (by decide) rfl (lay_r90_1 hL) q_fl_X12_13 dX12_again_10 ?_
    refine z_iload_n C 1 1 dX12_again_13 rfl rfl ?_
    replace hf := gd_out hf
    obtain ⟨g2, hf⟩ := hf
    refine z_zald C (lay_c92 hL) (inb_in g2) dX12_again_14 ?_
    refine z_if_ne C 20 dX12_again_15 (by decide) (fun c3 => ?_) (fun c3 => ?_)
    · replace hf := ite_f c3 hf
      refine z_iconst C 0 dX12_again_20 (by decide) ?_
      refine z_istore_n C [(2, .int 0), (0, .ref (G.1 + 90)), (1, .int x1)] dX12_again_21 rfl (by decide) rfl rfl ?_
      refine z_lv (lv2 := [(0, .ref (G.1 + 90)), (1, .int x1), (2, .int 0)]) [1, 2, 0] rfl ?_
      exact wX12_again_l22 C hs0 hL pp FU M x1 0 hf
    · replace hf := ite_t c3 hf
      refine z_iconst C 0 dX12_again_18 (by decide) ?_
      cases hf
      exact z_zret C rfl nb0 dX12_again_19
end
