theorem dX7_mark_0 : decode cX7_mark 0 = .ok (.aload_n 0, 1) := by decide +kernel
theorem dX7_mark_1 : decode cX7_mark 1 = .ok (.getfield 60, 3) := by decide +kernel
theorem dX7_mark_4 : decode cX7_mark 4 = .ok (.ifCond .ne 7, 3) := by decide +kernel
theorem dX7_mark_7 : decode cX7_mark 7 = .ok (.iload_n 1, 1) := by decide +kernel
theorem dX7_mark_8 : decode cX7_mark 8 = .ok (.ifCond .ne 4, 3) := by decide +kernel
theorem dX7_mark_11 : decode cX7_mark 11 = .ok (.return_, 1) := by decide +kernel
theorem dX7_mark_12 : decode cX7_mark 12 = .ok (.aload_n 0, 1) := by decide +kernel
theorem dX7_mark_13 : decode cX7_mark 13 = .ok (.iload_n 1, 1) := by decide +kernel
theorem dX7_mark_14 : decode cX7_mark 14 = .ok (.putfield 60, 3) := by decide +kernel
theorem dX7_mark_17 : decode cX7_mark 17 = .ok (.aload_n 0, 1) := by decide +kernel
theorem dX7_mark_18 : decode cX7_mark 18 = .ok (.iload_n 2, 1) := by decide +kernel
theorem dX7_mark_19 : decode cX7_mark 19 = .ok (.putfield 63, 3) := by decide +kernel
theorem dX7_mark_22 : decode cX7_mark 22 = .ok (.return_, 1) := by decide +kernel
theorem dX7_isDigit_0 : decode cX7_isDigit 0 = .ok (.aload_n 0, 1) := by decide +kernel
theorem dX7_isDigit_1 : decode cX7_isDigit 1 = .ok (.getfield 43, 3) := by decide +kernel
theorem dX7_isDigit_4 : decode cX7_isDigit 4 = .ok (.iload_n 1, 1) := by decide +kernel
theorem dX7_isDigit_5 : decode cX7_isDigit 5 = .ok (.baload, 1) := by decide +kernel
theorem dX7_isDigit_6 : decode cX7_isDigit 6 = .ok (.bipush 48, 2) := by decide +kernel
theorem dX7_isDigit_8 : decode cX7_isDigit 8 = .ok (.if_icmp .lt 18, 3) := by decide +kernel
theorem dX7_isDigit_11 : decode cX7_isDigit 11 = .ok (.aload_n 0, 1) := by decide +kernel
theorem dX7_isDigit_12 : decode cX7_isDigit 12 = .ok (.getfield 43, 3) := by decide +kernel
theorem dX7_isDigit_15 : decode cX7_isDigit 15 = .ok (.iload_n 1, 1) := by decide +kernel
theorem dX7_isDigit_16 : decode cX7_isDigit 16 = .ok (.baload, 1) := by decide +kernel
theorem dX7_isDigit_17 : decode cX7_isDigit 17 = .ok (.bipush 57, 2) := by decide +kernel
theorem dX7_isDigit_19 : decode cX7_isDigit 19 = .ok (.if_icmp .gt 7, 3) := by decide +kernel
theorem dX7_isDigit_22 : decode cX7_isDigit 22 = .ok (.iconst 1, 1) := by decide +kernel
theorem dX7_isDigit_23 : decode cX7_isDigit 23 = .ok (.goto 4, 3) := by decide +kernel
theorem dX7_isDigit_26 : decode cX7_isDigit 26 = .ok (.iconst 0, 1) := by decide +kernel
theorem dX7_isDigit_27 : decode cX7_isDigit 27 = .ok (.ireturn, 1) := by decide +kernel
theorem dX7_isLetter_0 : decode cX7_isLetter 0 = .ok (.aload_n 0, 1) := by decide +kernel
theorem dX7_isLetter_1 : decode cX7_isLetter 1 = .ok (.getfield 43, 3) := by decide +kernel
theorem dX7_isLetter_4 : decode cX7_isLetter 4 = .ok (.iload_n 1, 1) := by decide +kernel
theorem dX7_isLetter_5 : decode cX7_isLetter 5 = .ok (.baload, 1) := by decide +kernel
theorem dX7_isLetter_6 : decode cX7_isLetter 6 = .ok (.bipush 97, 2) := by decide +kernel
theorem dX7_isLetter_8 : decode cX7_isLetter 8 = .ok (.if_icmp .lt 18, 3) := by decide +kernel
theorem dX7_isLetter_11 : decode cX7_isLetter 11 = .ok (.aload_n 0, 1) := by decide +kernel
theorem dX7_isLetter_12 : decode cX7_isLetter 12 = .ok (.getfield 43, 3) := by decide +kernel
theorem dX7_isLetter_15 : decode cX7_isLetter 15 = .ok (.iload_n 1, 1) := by decide +kernel
theorem dX7_isLetter_16 : decode cX7_isLetter 16 = .ok (.baload, 1) := by decide +kernel
theorem dX7_isLetter_17 : decode cX7_isLetter 17 = .ok (.bipush 122, 2) := by decide +kernel
theorem dX7_isLetter_19 : decode cX7_isLetter 19 = .ok (.if_icmp .gt 7, 3) := by decide +kernel
theorem dX7_isLetter_22 : decode cX7_isLetter 22 = .ok (.iconst 1, 1) := by decide +kernel
theorem dX7_isLetter_23 : decode cX7_isLetter 23 = .ok (.goto 4, 3) := by decide +kernel
theorem dX7_isLetter_26 : decode cX7_isLetter 26 = .ok (.iconst 0, 1) := by decide +kernel
theorem dX7_isLetter_27 : decode cX7_isLetter 27 = .ok (.ireturn, 1) := by decide +kernel
theorem dX7_nextToken_0 : decode cX7_nextToken 0 = .ok (.aload_n 0, 1) := by decide +kernel
theorem dX7_nextToken_1 : decode cX7_nextToken 1 = .ok (.getfield 57, 3) := by decide +kernel
theorem dX7_nextToken_4 : decode cX7_nextToken 4 = .ok (.istore_n 1, 1) := by decide +kernel
theorem dX7_nextToken_5 : decode cX7_nextToken 5 = .ok (.iload_n 1, 1) := by decide +kernel
theorem dX7_nextToken_6 : decode cX7_nextToken 6 = .ok (.aload_n 0, 1) := by decide +kernel
theorem dX7_nextToken_7 : decode cX7_nextToken 7 = .ok (.getfield 53, 3) := by decide +kernel
theorem dX7_nextToken_10 : decode cX7_nextToken 10 = .ok (.if_icmp .ge 31, 3) := by decide +kernel
theorem dX7_nextToken_13 : decode cX7_nextToken 13 = .ok (.aload_n 0, 1) := by decide +kernel
theorem dX7_nextToken_14 : decode cX7_nextToken 14 = .ok (.getfield 43, 3) := by decide +kernel
theorem dX7_nextToken_17 : decode cX7_nextToken 17 = .ok (.iload_n 1, 1) := by decide +kernel
theorem dX7_nextToken_18 : decode cX7_nextToken 18 = .ok (.baload, 1) := by decide +kernel
theorem dX7_nextToken_19 : decode cX7_nextToken 19 = .ok (.bipush 10, 2) := by decide +kernel
theorem dX7_nextToken_21 : decode cX7_nextToken 21 = .ok (.if_icmp .eq 14, 3) := by decide +kernel
theorem dX7_nextToken_24 : decode cX7_nextToken 24 = .ok (.aload_n 0, 1) := by decide +kernel
theorem dX7_nextToken_25 : decode cX7_nextToken 25 = .ok (.getfield 43, 3) := by decide +kernel
theorem dX7_nextToken_28 : decode cX7_nextToken 28 = .ok (.iload_n 1, 1) := by decide +kernel
theorem dX7_nextToken_29 : decode cX7_nextToken 29 = .ok (.baload, 1) := by decide +kernel
theorem dX7_nextToken_30 : decode cX7_nextToken 30 = .ok (.bipush 32, 2) := by decide +kernel
theorem dX7_nextToken_32 : decode cX7_nextToken 32 = .ok (.if_icmp .ne 9, 3) := by decide +kernel
theorem dX7_nextToken_35 : decode cX7_nextToken 35 = .ok (.iinc 1 1, 3) := by decide +kernel
theorem dX7_nextToken_38 : decode cX7_nextToken 38 = .ok (.goto (-33), 3) := by decide +kernel
theorem dX7_nextToken_41 : decode cX7_nextToken 41 = .ok (.aload_n 0, 1) := by decide +kernel
theorem dX7_nextToken_42 : decode cX7_nextToken 42 = .ok (.iload_n 1, 1) := by decide +kernel
theorem dX7_nextToken_43 : decode cX7_nextToken 43 = .ok (.putfield 103, 3) := by decide +kernel
theorem dX7_nextToken_46 : decode cX7_nextToken 46 = .ok (.iload_n 1, 1) := by decide +kernel
theorem dX7_nextToken_47 : decode cX7_nextToken 47 = .ok (.aload_n 0, 1) := by decide +kernel
theorem dX7_nextToken_48 : decode cX7_nextToken 48 = .ok (.getfield 53, 3) := by decide +kernel
theorem dX7_nextToken_51 : decode cX7_nextToken 51 = .ok (.if_icmp .lt 11, 3) := by decide +kernel
theorem dX7_nextToken_54 : decode cX7_nextToken 54 = .ok (.aload_n 0, 1) := by decide +kernel
theorem dX7_nextToken_55 : decode cX7_nextToken 55 = .ok (.iconst 0, 1) := by decide +kernel
theorem dX7_nextToken_56 : decode cX7_nextToken 56 = .ok (.putfield 77, 3) := by decide +kernel
theorem dX7_nextToken_59 : decode cX7_nextToken 59 = .ok (.goto 116, 3) := by decide +kernel
theorem dX7_nextToken_62 : decode cX7_nextToken 62 = .ok (.aload_n 0, 1) := by decide +kernel
theorem dX7_nextToken_63 : decode cX7_nextToken 63 = .ok (.iload_n 1, 1) := by decide +kernel
theorem dX7_nextToken_64 : decode cX7_nextToken 64 = .ok (.invokevirtual 238, 3) := by decide +kernel
theorem dX7_nextToken_67 : decode cX7_nextToken 67 = .ok (.ifCond .eq 33, 3) := by decide +kernel
theorem dX7_nextToken_70 : decode cX7_nextToken 70 = .ok (.iload_n 1, 1) := by decide +kernel
theorem dX7_nextToken_71 : decode cX7_nextToken 71 = .ok (.aload_n 0, 1) := by decide +kernel
theorem dX7_nextToken_72 : decode cX7_nextToken 72 = .ok (.getfield 53, 3) := by decide +kernel
theorem dX7_nextToken_75 : decode cX7_nextToken 75 = .ok (.if_icmp .ge 17, 3) := by decide +kernel
theorem dX7_nextToken_78 : decode cX7_nextToken 78 = .ok (.aload_n 0, 1) := by decide +kernel
theorem dX7_nextToken_79 : decode cX7_nextToken 79 = .ok (.iload_n 1, 1) := by decide +kernel
theorem dX7_nextToken_80 : decode cX7_nextToken 80 = .ok (.invokevirtual 238, 3) := by decide +kernel
theorem dX7_nextToken_83 : decode cX7_nextToken 83 = .ok (.ifCond .eq 9, 3) := by decide +kernel
theorem dX7_nextToken_86 : decode cX7_nextToken 86 = .ok (.iinc 1 1, 3) := by decide +kernel
theorem dX7_nextToken_89 : decode cX7_nextToken 89 = .ok (.goto (-19), 3) := by decide +kernel
theorem dX7_nextToken_92 : decode cX7_nextToken 92 = .ok (.aload_n 0, 1) := by decide +kernel
theorem dX7_nextToken_93 : decode cX7_nextToken 93 = .ok (.iconst 1, 1) := by decide +kernel
theorem dX7_nextToken_94 : decode cX7_nextToken 94 = .ok (.putfield 77, 3) := by decide +kernel
theorem dX7_nextToken_97 : decode cX7_nextToken 97 = .ok (.goto 78, 3) := by decide +kernel
theorem dX7_nextToken_100 : decode cX7_nextToken 100 = .ok (.aload_n 0, 1) := by decide +kernel
theorem dX7_nextToken_101 : decode cX7_nextToken 101 = .ok (.iload_n 1, 1) := by decide +kernel
theorem dX7_nextToken_102 : decode cX7_nextToken 102 = .ok (.invokevirtual 241, 3) := by decide +kernel
theorem dX7_nextToken_105 : decode cX7_nextToken 105 = .ok (.ifCond .eq 47, 3) := by decide +kernel
theorem dX7_nextToken_108 : decode cX7_nextToken 108 = .ok (.iload_n 1, 1) := by decide +kernel
theorem dX7_nextToken_109 : decode cX7_nextToken 109 = .ok (.aload_n 0, 1) := by decide +kernel
theorem dX7_nextToken_110 : decode cX7_nextToken 110 = .ok (.getfield 53, 3) := by decide +kernel
theorem dX7_nextToken_113 : decode cX7_nextToken 113 = .ok (.if_icmp .ge 17, 3) := by decide +kernel
theorem dX7_nextToken_116 : decode cX7_nextToken 116 = .ok (.aload_n 0, 1) := by decide +kernel
theorem dX7_nextToken_117 : decode cX7_nextToken 117 = .ok (.iload_n 1, 1) := by decide +kernel
theorem dX7_nextToken_118 : decode cX7_nextToken 118 = .ok (.invokevirtual 241, 3) := by decide +kernel
theorem dX7_nextToken_121 : decode cX7_nextToken 121 = .ok (.ifCond .eq 9, 3) := by decide +kernel
theorem dX7_nextToken_124 : decode cX7_nextToken 124 = .ok (.iinc 1 1, 3) := by decide +kernel
theorem dX7_nextToken_127 : decode cX7_nextToken 127 = .ok (.goto (-19), 3) := by decide +kernel
theorem dX7_nextToken_130 : decode cX7_nextToken 130 = .ok (.aload_n 0, 1) := by decide +kernel
theorem dX7_nextToken_131 : decode cX7_nextToken 131 = .ok (.iload_n 1, 1) := by decide +kernel
theorem dX7_nextToken_132 : decode cX7_nextToken 132 = .ok (.aload_n 0, 1) := by decide +kernel
theorem dX7_nextToken_133 : decode cX7_nextToken 133 = .ok (.getfield 103, 3) := by decide +kernel
theorem dX7_nextToken_136 : decode cX7_nextToken 136 = .ok (.isub, 1) := by decide +kernel
theorem dX7_nextToken_137 : decode cX7_nextToken 137 = .ok (.iconst 2, 1) := by decide +kernel
theorem dX7_nextToken_138 : decode cX7_nextToken 138 = .ok (.if_icmp .gt 7, 3) := by decide +kernel
theorem dX7_nextToken_141 : decode cX7_nextToken 141 = .ok (.iconst 2, 1) := by decide +kernel
theorem dX7_nextToken_142 : decode cX7_nextToken 142 = .ok (.goto 4, 3) := by decide +kernel
theorem dX7_nextToken_145 : decode cX7_nextToken 145 = .ok (.iconst 4, 1) := by decide +kernel
theorem dX7_nextToken_146 : decode cX7_nextToken 146 = .ok (.putfield 77, 3) := by decide +kernel
theorem dX7_nextToken_149 : decode cX7_nextToken 149 = .ok (.goto 26, 3) := by decide +kernel
theorem dX7_nextToken_152 : decode cX7_nextToken 152 = .ok (.aload_n 0, 1) := by decide +kernel
theorem dX7_nextToken_153 : decode cX7_nextToken 153 = .ok (.aload_n 0, 1) := by decide +kernel
theorem dX7_nextToken_154 : decode cX7_nextToken 154 = .ok (.getfield 43, 3) := by decide +kernel
theorem dX7_nextToken_157 : decode cX7_nextToken 157 = .ok (.iload_n 1, 1) := by decide +kernel
theorem dX7_nextToken_158 : decode cX7_nextToken 158 = .ok (.baload, 1) := by decide +kernel
theorem dX7_nextToken_159 : decode cX7_nextToken 159 = .ok (.bipush 59, 2) := by decide +kernel
theorem dX7_nextToken_161 : decode cX7_nextToken 161 = .ok (.if_icmp .ne 7, 3) := by decide +kernel
theorem dX7_nextToken_164 : decode cX7_nextToken 164 = .ok (.iconst 3, 1) := by decide +kernel
theorem dX7_nextToken_165 : decode cX7_nextToken 165 = .ok (.goto 4, 3) := by decide +kernel
theorem dX7_nextToken_168 : decode cX7_nextToken 168 = .ok (.iconst 4, 1) := by decide +kernel
theorem dX7_nextToken_169 : decode cX7_nextToken 169 = .ok (.putfield 77, 3) := by decide +kernel
theorem dX7_nextToken_172 : decode cX7_nextToken 172 = .ok (.iinc 1 1, 3) := by decide +kernel
theorem dX7_nextToken_175 : decode cX7_nextToken 175 = .ok (.aload_n 0, 1) := by decide +kernel
theorem dX7_nextToken_176 : decode cX7_nextToken 176 = .ok (.iload_n 1, 1) := by decide +kernel
theorem dX7_nextToken_177 : decode cX7_nextToken 177 = .ok (.putfield 57, 3) := by decide +kernel
theorem dX7_nextToken_180 : decode cX7_nextToken 180 = .ok (.return_, 1) := by decide +kernel
theorem dX7_isFull_0 : decode cX7_isFull 0 = .ok (.iload_n 1, 1) := by decide +kernel
theorem dX7_isFull_1 : decode cX7_isFull 1 = .ok (.iconst 2, 1) := by decide +kernel
theorem dX7_isFull_2 : decode cX7_isFull 2 = .ok (.if_icmp .ne 21, 3) := by decide +kernel
theorem dX7_isFull_5 : decode cX7_isFull 5 = .ok (.aload_n 0, 1) := by decide +kernel
theorem dX7_isFull_6 : decode cX7_isFull 6 = .ok (.getfield 12, 3) := by decide +kernel
theorem dX7_isFull_9 : decode cX7_isFull 9 = .ok (.getfield 127, 3) := by decide +kernel
theorem dX7_isFull_12 : decode cX7_isFull 12 = .ok (.bipush 8, 2) := by decide +kernel
theorem dX7_isFull_14 : decode cX7_isFull 14 = .ok (.if_icmp .lt 7, 3) := by decide +kernel
theorem dX7_isFull_17 : decode cX7_isFull 17 = .ok (.iconst 1, 1) := by decide +kernel
theorem dX7_isFull_18 : decode cX7_isFull 18 = .ok (.goto 4, 3) := by decide +kernel
theorem dX7_isFull_21 : decode cX7_isFull 21 = .ok (.iconst 0, 1) := by decide +kernel
theorem dX7_isFull_22 : decode cX7_isFull 22 = .ok (.ireturn, 1) := by decide +kernel
theorem dX7_isFull_23 : decode cX7_isFull 23 = .ok (.iload_n 1, 1) := by decide +kernel
theorem dX7_isFull_24 : decode cX7_isFull 24 = .ok (.iconst 3, 1) := by decide +kernel
theorem dX7_isFull_25 : decode cX7_isFull 25 = .ok (.if_icmp .lt 27, 3) := by decide +kernel
theorem dX7_isFull_28 : decode cX7_isFull 28 = .ok (.iload_n 1, 1) := by decide +kernel
theorem dX7_isFull_29 : decode cX7_isFull 29 = .ok (.bipush 6, 2) := by decide +kernel
theorem dX7_isFull_31 : decode cX7_isFull 31 = .ok (.if_icmp .gt 21, 3) := by decide +kernel
theorem dX7_isFull_34 : decode cX7_isFull 34 = .ok (.aload_n 0, 1) := by decide +kernel
theorem dX7_isFull_35 : decode cX7_isFull 35 = .ok (.getfield 12, 3) := by decide +kernel
theorem dX7_isFull_38 : decode cX7_isFull 38 = .ok (.getfield 130, 3) := by decide +kernel
theorem dX7_isFull_41 : decode cX7_isFull 41 = .ok (.bipush 8, 2) := by decide +kernel
theorem dX7_isFull_43 : decode cX7_isFull 43 = .ok (.if_icmp .lt 7, 3) := by decide +kernel
theorem dX7_isFull_46 : decode cX7_isFull 46 = .ok (.iconst 1, 1) := by decide +kernel
theorem dX7_isFull_47 : decode cX7_isFull 47 = .ok (.goto 4, 3) := by decide +kernel
theorem dX7_isFull_50 : decode cX7_isFull 50 = .ok (.iconst 0, 1) := by decide +kernel
theorem dX7_isFull_51 : decode cX7_isFull 51 = .ok (.ireturn, 1) := by decide +kernel
theorem dX7_isFull_52 : decode cX7_isFull 52 = .ok (.iload_n 1, 1) := by decide +kernel
theorem dX7_isFull_53 : decode cX7_isFull 53 = .ok (.bipush 13, 2) := by decide +kernel
theorem dX7_isFull_55 : decode cX7_isFull 55 = .ok (.if_icmp .lt 25, 3) := by decide +kernel
theorem dX7_isFull_58 : decode cX7_isFull 58 = .ok (.iload_n 1, 1) := by decide +kernel
theorem dX7_isFull_59 : decode cX7_isFull 59 = .ok (.bipush 18, 2) := by decide +kernel
theorem dX7_isFull_61 : decode cX7_isFull 61 = .ok (.if_icmp .ge 19, 3) := by decide +kernel
theorem dX7_isFull_64 : decode cX7_isFull 64 = .ok (.aload_n 0, 1) := by decide +kernel
theorem dX7_isFull_65 : decode cX7_isFull 65 = .ok (.getfield 28, 3) := by decide +kernel
theorem dX7_isFull_68 : decode cX7_isFull 68 = .ok (.getfield 70, 3) := by decide +kernel
theorem dX7_isFull_71 : decode cX7_isFull 71 = .ok (.bipush 40, 2) := by decide +kernel
theorem dX7_isFull_73 : decode cX7_isFull 73 = .ok (.if_icmp .lt 7, 3) := by decide +kernel
theorem dX7_isFull_76 : decode cX7_isFull 76 = .ok (.iconst 1, 1) := by decide +kernel
theorem dX7_isFull_77 : decode cX7_isFull 77 = .ok (.goto 4, 3) := by decide +kernel
theorem dX7_isFull_80 : decode cX7_isFull 80 = .ok (.iconst 0, 1) := by decide +kernel
theorem dX7_isFull_81 : decode cX7_isFull 81 = .ok (.ireturn, 1) := by decide +kernel
theorem dX7_keepOfLaw_0 : decode cX7_keepOfLaw 0 = .ok (.iload_n 1, 1) := by decide +kernel
theorem dX7_keepOfLaw_1 : decode cX7_keepOfLaw 1 = .ok (.bipush 7, 2) := by decide +kernel
theorem dX7_keepOfLaw_3 : decode cX7_keepOfLaw 3 = .ok (.if_icmp .ne 16, 3) := by decide +kernel
theorem dX7_keepOfLaw_6 : decode cX7_keepOfLaw 6 = .ok (.aload_n 0, 1) := by decide +kernel
theorem dX7_keepOfLaw_7 : decode cX7_keepOfLaw 7 = .ok (.getfield 21, 3) := by decide +kernel
theorem dX7_keepOfLaw_10 : decode cX7_keepOfLaw 10 = .ok (.aload_n 0, 1) := by decide +kernel
theorem dX7_keepOfLaw_11 : decode cX7_keepOfLaw 11 = .ok (.getfield 39, 3) := by decide +kernel
theorem dX7_keepOfLaw_14 : decode cX7_keepOfLaw 14 = .ok (.iconst 0, 1) := by decide +kernel
theorem dX7_keepOfLaw_15 : decode cX7_keepOfLaw 15 = .ok (.iaload, 1) := by decide +kernel
theorem dX7_keepOfLaw_16 : decode cX7_keepOfLaw 16 = .ok (.putfield 165, 3) := by decide +kernel
theorem dX7_keepOfLaw_19 : decode cX7_keepOfLaw 19 = .ok (.iload_n 1, 1) := by decide +kernel
theorem dX7_keepOfLaw_20 : decode cX7_keepOfLaw 20 = .ok (.bipush 8, 2) := by decide +kernel
theorem dX7_keepOfLaw_22 : decode cX7_keepOfLaw 22 = .ok (.if_icmp .ne 16, 3) := by decide +kernel
theorem dX7_keepOfLaw_25 : decode cX7_keepOfLaw 25 = .ok (.aload_n 0, 1) := by decide +kernel
theorem dX7_keepOfLaw_26 : decode cX7_keepOfLaw 26 = .ok (.getfield 21, 3) := by decide +kernel
theorem dX7_keepOfLaw_29 : decode cX7_keepOfLaw 29 = .ok (.aload_n 0, 1) := by decide +kernel
theorem dX7_keepOfLaw_30 : decode cX7_keepOfLaw 30 = .ok (.getfield 39, 3) := by decide +kernel
theorem dX7_keepOfLaw_33 : decode cX7_keepOfLaw 33 = .ok (.iconst 0, 1) := by decide +kernel
theorem dX7_keepOfLaw_34 : decode cX7_keepOfLaw 34 = .ok (.iaload, 1) := by decide +kernel
theorem dX7_keepOfLaw_35 : decode cX7_keepOfLaw 35 = .ok (.putfield 168, 3) := by decide +kernel
theorem dX7_keepOfLaw_38 : decode cX7_keepOfLaw 38 = .ok (.iload_n 1, 1) := by decide +kernel
theorem dX7_keepOfLaw_39 : decode cX7_keepOfLaw 39 = .ok (.bipush 9, 2) := by decide +kernel
theorem dX7_keepOfLaw_41 : decode cX7_keepOfLaw 41 = .ok (.if_icmp .ne 16, 3) := by decide +kernel
theorem dX7_keepOfLaw_44 : decode cX7_keepOfLaw 44 = .ok (.aload_n 0, 1) := by decide +kernel
theorem dX7_keepOfLaw_45 : decode cX7_keepOfLaw 45 = .ok (.getfield 21, 3) := by decide +kernel
theorem dX7_keepOfLaw_48 : decode cX7_keepOfLaw 48 = .ok (.aload_n 0, 1) := by decide +kernel
theorem dX7_keepOfLaw_49 : decode cX7_keepOfLaw 49 = .ok (.getfield 39, 3) := by decide +kernel
theorem dX7_keepOfLaw_52 : decode cX7_keepOfLaw 52 = .ok (.iconst 0, 1) := by decide +kernel
theorem dX7_keepOfLaw_53 : decode cX7_keepOfLaw 53 = .ok (.iaload, 1) := by decide +kernel
theorem dX7_keepOfLaw_54 : decode cX7_keepOfLaw 54 = .ok (.putfield 171, 3) := by decide +kernel
theorem dX7_keepOfLaw_57 : decode cX7_keepOfLaw 57 = .ok (.iload_n 1, 1) := by decide +kernel
theorem dX7_keepOfLaw_58 : decode cX7_keepOfLaw 58 = .ok (.bipush 10, 2) := by decide +kernel
theorem dX7_keepOfLaw_60 : decode cX7_keepOfLaw 60 = .ok (.if_icmp .ne 16, 3) := by decide +kernel
theorem dX7_keepOfLaw_63 : decode cX7_keepOfLaw 63 = .ok (.aload_n 0, 1) := by decide +kernel
theorem dX7_keepOfLaw_64 : decode cX7_keepOfLaw 64 = .ok (.getfield 21, 3) := by decide +kernel
theorem dX7_keepOfLaw_67 : decode cX7_keepOfLaw 67 = .ok (.aload_n 0, 1) := by decide +kernel
theorem dX7_keepOfLaw_68 : decode cX7_keepOfLaw 68 = .ok (.getfield 39, 3) := by decide +kernel
theorem dX7_keepOfLaw_71 : decode cX7_keepOfLaw 71 = .ok (.iconst 0, 1) := by decide +kernel
theorem dX7_keepOfLaw_72 : decode cX7_keepOfLaw 72 = .ok (.iaload, 1) := by decide +kernel
theorem dX7_keepOfLaw_73 : decode cX7_keepOfLaw 73 = .ok (.putfield 174, 3) := by decide +kernel
theorem dX7_keepOfLaw_76 : decode cX7_keepOfLaw 76 = .ok (.iload_n 1, 1) := by decide +kernel
theorem dX7_keepOfLaw_77 : decode cX7_keepOfLaw 77 = .ok (.bipush 11, 2) := by decide +kernel
theorem dX7_keepOfLaw_79 : decode cX7_keepOfLaw 79 = .ok (.if_icmp .ne 11, 3) := by decide +kernel
theorem dX7_keepOfLaw_82 : decode cX7_keepOfLaw 82 = .ok (.aload_n 0, 1) := by decide +kernel
theorem dX7_keepOfLaw_83 : decode cX7_keepOfLaw 83 = .ok (.getfield 21, 3) := by decide +kernel
theorem dX7_keepOfLaw_86 : decode cX7_keepOfLaw 86 = .ok (.iconst 0, 1) := by decide +kernel
theorem dX7_keepOfLaw_87 : decode cX7_keepOfLaw 87 = .ok (.putfield 177, 3) := by decide +kernel
theorem dX7_keepOfLaw_90 : decode cX7_keepOfLaw 90 = .ok (.iload_n 1, 1) := by decide +kernel
theorem dX7_keepOfLaw_91 : decode cX7_keepOfLaw 91 = .ok (.bipush 12, 2) := by decide +kernel
theorem dX7_keepOfLaw_93 : decode cX7_keepOfLaw 93 = .ok (.if_icmp .ne 21, 3) := by decide +kernel
theorem dX7_keepOfLaw_96 : decode cX7_keepOfLaw 96 = .ok (.aload_n 0, 1) := by decide +kernel
theorem dX7_keepOfLaw_97 : decode cX7_keepOfLaw 97 = .ok (.getfield 21, 3) := by decide +kernel
theorem dX7_keepOfLaw_100 : decode cX7_keepOfLaw 100 = .ok (.dup, 1) := by decide +kernel
theorem dX7_keepOfLaw_101 : decode cX7_keepOfLaw 101 = .ok (.getfield 181, 3) := by decide +kernel
theorem dX7_keepOfLaw_104 : decode cX7_keepOfLaw 104 = .ok (.iconst 1, 1) := by decide +kernel
theorem dX7_keepOfLaw_105 : decode cX7_keepOfLaw 105 = .ok (.aload_n 0, 1) := by decide +kernel
theorem dX7_keepOfLaw_106 : decode cX7_keepOfLaw 106 = .ok (.getfield 109, 3) := by decide +kernel
theorem dX7_keepOfLaw_109 : decode cX7_keepOfLaw 109 = .ok (.ishl, 1) := by decide +kernel
theorem dX7_keepOfLaw_110 : decode cX7_keepOfLaw 110 = .ok (.ior, 1) := by decide +kernel
theorem dX7_keepOfLaw_111 : decode cX7_keepOfLaw 111 = .ok (.putfield 181, 3) := by decide +kernel
theorem dX7_keepOfLaw_114 : decode cX7_keepOfLaw 114 = .ok (.return_, 1) := by decide +kernel
theorem dX7_keepOfParish_0 : decode cX7_keepOfParish 0 = .ok (.iload_n 1, 1) := by decide +kernel
theorem dX7_keepOfParish_1 : decode cX7_keepOfParish 1 = .ok (.ifCond .ne 32, 3) := by decide +kernel
theorem dX7_keepOfParish_4 : decode cX7_keepOfParish 4 = .ok (.aload_n 0, 1) := by decide +kernel
theorem dX7_keepOfParish_5 : decode cX7_keepOfParish 5 = .ok (.getfield 12, 3) := by decide +kernel
theorem dX7_keepOfParish_8 : decode cX7_keepOfParish 8 = .ok (.aload_n 0, 1) := by decide +kernel
theorem dX7_keepOfParish_9 : decode cX7_keepOfParish 9 = .ok (.getfield 39, 3) := by decide +kernel
theorem dX7_keepOfParish_12 : decode cX7_keepOfParish 12 = .ok (.iconst 0, 1) := by decide +kernel
theorem dX7_keepOfParish_13 : decode cX7_keepOfParish 13 = .ok (.iaload, 1) := by decide +kernel
theorem dX7_keepOfParish_14 : decode cX7_keepOfParish 14 = .ok (.putfield 149, 3) := by decide +kernel
theorem dX7_keepOfParish_17 : decode cX7_keepOfParish 17 = .ok (.aload_n 0, 1) := by decide +kernel
theorem dX7_keepOfParish_18 : decode cX7_keepOfParish 18 = .ok (.getfield 12, 3) := by decide +kernel
theorem dX7_keepOfParish_21 : decode cX7_keepOfParish 21 = .ok (.aload_n 0, 1) := by decide +kernel
theorem dX7_keepOfParish_22 : decode cX7_keepOfParish 22 = .ok (.getfield 39, 3) := by decide +kernel
theorem dX7_keepOfParish_25 : decode cX7_keepOfParish 25 = .ok (.iconst 1, 1) := by decide +kernel
theorem dX7_keepOfParish_26 : decode cX7_keepOfParish 26 = .ok (.iaload, 1) := by decide +kernel
theorem dX7_keepOfParish_27 : decode cX7_keepOfParish 27 = .ok (.putfield 152, 3) := by decide +kernel
theorem dX7_keepOfParish_30 : decode cX7_keepOfParish 30 = .ok (.goto 55, 3) := by decide +kernel
theorem dX7_keepOfParish_33 : decode cX7_keepOfParish 33 = .ok (.iload_n 1, 1) := by decide +kernel
theorem dX7_keepOfParish_34 : decode cX7_keepOfParish 34 = .ok (.iconst 1, 1) := by decide +kernel
theorem dX7_keepOfParish_35 : decode cX7_keepOfParish 35 = .ok (.if_icmp .ne 17, 3) := by decide +kernel
theorem dX7_keepOfParish_38 : decode cX7_keepOfParish 38 = .ok (.aload_n 0, 1) := by decide +kernel
theorem dX7_keepOfParish_39 : decode cX7_keepOfParish 39 = .ok (.getfield 12, 3) := by decide +kernel
theorem dX7_keepOfParish_42 : decode cX7_keepOfParish 42 = .ok (.aload_n 0, 1) := by decide +kernel
theorem dX7_keepOfParish_43 : decode cX7_keepOfParish 43 = .ok (.getfield 39, 3) := by decide +kernel
theorem dX7_keepOfParish_46 : decode cX7_keepOfParish 46 = .ok (.invokevirtual 155, 3) := by decide +kernel
theorem dX7_keepOfParish_49 : decode cX7_keepOfParish 49 = .ok (.goto 36, 3) := by decide +kernel
theorem dX7_keepOfParish_52 : decode cX7_keepOfParish 52 = .ok (.iload_n 1, 1) := by decide +kernel
theorem dX7_keepOfParish_53 : decode cX7_keepOfParish 53 = .ok (.iconst 2, 1) := by decide +kernel
theorem dX7_keepOfParish_54 : decode cX7_keepOfParish 54 = .ok (.if_icmp .ne 17, 3) := by decide +kernel
theorem dX7_keepOfParish_57 : decode cX7_keepOfParish 57 = .ok (.aload_n 0, 1) := by decide +kernel
theorem dX7_keepOfParish_58 : decode cX7_keepOfParish 58 = .ok (.getfield 12, 3) := by decide +kernel
theorem dX7_keepOfParish_61 : decode cX7_keepOfParish 61 = .ok (.aload_n 0, 1) := by decide +kernel
theorem dX7_keepOfParish_62 : decode cX7_keepOfParish 62 = .ok (.getfield 39, 3) := by decide +kernel
theorem dX7_keepOfParish_65 : decode cX7_keepOfParish 65 = .ok (.invokevirtual 159, 3) := by decide +kernel
theorem dX7_keepOfParish_68 : decode cX7_keepOfParish 68 = .ok (.goto 17, 3) := by decide +kernel
theorem dX7_keepOfParish_71 : decode cX7_keepOfParish 71 = .ok (.aload_n 0, 1) := by decide +kernel
theorem dX7_keepOfParish_72 : decode cX7_keepOfParish 72 = .ok (.getfield 12, 3) := by decide +kernel
theorem dX7_keepOfParish_75 : decode cX7_keepOfParish 75 = .ok (.iload_n 1, 1) := by decide +kernel
theorem dX7_keepOfParish_76 : decode cX7_keepOfParish 76 = .ok (.iconst 3, 1) := by decide +kernel
theorem dX7_keepOfParish_77 : decode cX7_keepOfParish 77 = .ok (.isub, 1) := by decide +kernel
theorem dX7_keepOfParish_78 : decode cX7_keepOfParish 78 = .ok (.aload_n 0, 1) := by decide +kernel
theorem dX7_keepOfParish_79 : decode cX7_keepOfParish 79 = .ok (.getfield 39, 3) := by decide +kernel
theorem dX7_keepOfParish_82 : decode cX7_keepOfParish 82 = .ok (.invokevirtual 162, 3) := by decide +kernel
theorem dX7_keepOfParish_85 : decode cX7_keepOfParish 85 = .ok (.return_, 1) := by decide +kernel
theorem dX7_keep_0 : decode cX7_keep 0 = .ok (.iload_n 1, 1) := by decide +kernel
theorem dX7_keep_1 : decode cX7_keep 1 = .ok (.bipush 6, 2) := by decide +kernel
theorem dX7_keep_3 : decode cX7_keep 3 = .ok (.if_icmp .gt 11, 3) := by decide +kernel
theorem dX7_keep_6 : decode cX7_keep 6 = .ok (.aload_n 0, 1) := by decide +kernel
theorem dX7_keep_7 : decode cX7_keep 7 = .ok (.iload_n 1, 1) := by decide +kernel
theorem dX7_keep_8 : decode cX7_keep 8 = .ok (.invokevirtual 133, 3) := by decide +kernel
theorem dX7_keep_11 : decode cX7_keep 11 = .ok (.goto 103, 3) := by decide +kernel
theorem dX7_keep_14 : decode cX7_keep 14 = .ok (.iload_n 1, 1) := by decide +kernel
theorem dX7_keep_15 : decode cX7_keep 15 = .ok (.bipush 12, 2) := by decide +kernel
theorem dX7_keep_17 : decode cX7_keep 17 = .ok (.if_icmp .gt 11, 3) := by decide +kernel
theorem dX7_keep_20 : decode cX7_keep 20 = .ok (.aload_n 0, 1) := by decide +kernel
theorem dX7_keep_21 : decode cX7_keep 21 = .ok (.iload_n 1, 1) := by decide +kernel
theorem dX7_keep_22 : decode cX7_keep 22 = .ok (.invokevirtual 136, 3) := by decide +kernel
theorem dX7_keep_25 : decode cX7_keep 25 = .ok (.goto 89, 3) := by decide +kernel
theorem dX7_keep_28 : decode cX7_keep 28 = .ok (.iload_n 1, 1) := by decide +kernel
theorem dX7_keep_29 : decode cX7_keep 29 = .ok (.bipush 18, 2) := by decide +kernel
theorem dX7_keep_31 : decode cX7_keep 31 = .ok (.if_icmp .ge 21, 3) := by decide +kernel
theorem dX7_keep_34 : decode cX7_keep 34 = .ok (.aload_n 0, 1) := by decide +kernel
theorem dX7_keep_35 : decode cX7_keep 35 = .ok (.getfield 28, 3) := by decide +kernel
theorem dX7_keep_38 : decode cX7_keep 38 = .ok (.iload_n 1, 1) := by decide +kernel
theorem dX7_keep_39 : decode cX7_keep 39 = .ok (.bipush 13, 2) := by decide +kernel
theorem dX7_keep_41 : decode cX7_keep 41 = .ok (.isub, 1) := by decide +kernel
theorem dX7_keep_42 : decode cX7_keep 42 = .ok (.aload_n 0, 1) := by decide +kernel
theorem dX7_keep_43 : decode cX7_keep 43 = .ok (.getfield 39, 3) := by decide +kernel
theorem dX7_keep_46 : decode cX7_keep 46 = .ok (.invokevirtual 139, 3) := by decide +kernel
theorem dX7_keep_49 : decode cX7_keep 49 = .ok (.goto 65, 3) := by decide +kernel
theorem dX7_keep_52 : decode cX7_keep 52 = .ok (.iload_n 1, 1) := by decide +kernel
theorem dX7_keep_53 : decode cX7_keep 53 = .ok (.bipush 19, 2) := by decide +kernel
theorem dX7_keep_55 : decode cX7_keep 55 = .ok (.if_icmp .ne 19, 3) := by decide +kernel
theorem dX7_keep_58 : decode cX7_keep 58 = .ok (.aload_n 0, 1) := by decide +kernel
theorem dX7_keep_59 : decode cX7_keep 59 = .ok (.getfield 35, 3) := by decide +kernel
theorem dX7_keep_62 : decode cX7_keep 62 = .ok (.aload_n 0, 1) := by decide +kernel
theorem dX7_keep_63 : decode cX7_keep 63 = .ok (.getfield 39, 3) := by decide +kernel
theorem dX7_keep_66 : decode cX7_keep 66 = .ok (.iconst 0, 1) := by decide +kernel
theorem dX7_keep_67 : decode cX7_keep 67 = .ok (.iaload, 1) := by decide +kernel
theorem dX7_keep_68 : decode cX7_keep 68 = .ok (.putfield 143, 3) := by decide +kernel
theorem dX7_keep_71 : decode cX7_keep 71 = .ok (.goto 43, 3) := by decide +kernel
theorem dX7_keep_74 : decode cX7_keep 74 = .ok (.aload_n 0, 1) := by decide +kernel
theorem dX7_keep_75 : decode cX7_keep 75 = .ok (.getfield 39, 3) := by decide +kernel
theorem dX7_keep_78 : decode cX7_keep 78 = .ok (.iconst 0, 1) := by decide +kernel
theorem dX7_keep_79 : decode cX7_keep 79 = .ok (.iaload, 1) := by decide +kernel
theorem dX7_keep_80 : decode cX7_keep 80 = .ok (.ifCond .lt 34, 3) := by decide +kernel
theorem dX7_keep_83 : decode cX7_keep 83 = .ok (.aload_n 0, 1) := by decide +kernel
theorem dX7_keep_84 : decode cX7_keep 84 = .ok (.getfield 39, 3) := by decide +kernel
theorem dX7_keep_87 : decode cX7_keep 87 = .ok (.iconst 0, 1) := by decide +kernel
theorem dX7_keep_88 : decode cX7_keep 88 = .ok (.iaload, 1) := by decide +kernel
theorem dX7_keep_89 : decode cX7_keep 89 = .ok (.bipush 8, 2) := by decide +kernel
theorem dX7_keep_91 : decode cX7_keep 91 = .ok (.if_icmp .ge 23, 3) := by decide +kernel
theorem dX7_keep_94 : decode cX7_keep 94 = .ok (.aload_n 0, 1) := by decide +kernel
theorem dX7_keep_95 : decode cX7_keep 95 = .ok (.getfield 35, 3) := by decide +kernel
theorem dX7_keep_98 : decode cX7_keep 98 = .ok (.getfield 146, 3) := by decide +kernel
theorem dX7_keep_101 : decode cX7_keep 101 = .ok (.aload_n 0, 1) := by decide +kernel
theorem dX7_keep_102 : decode cX7_keep 102 = .ok (.getfield 39, 3) := by decide +kernel
theorem dX7_keep_105 : decode cX7_keep 105 = .ok (.iconst 0, 1) := by decide +kernel
theorem dX7_keep_106 : decode cX7_keep 106 = .ok (.iaload, 1) := by decide +kernel
theorem dX7_keep_107 : decode cX7_keep 107 = .ok (.aload_n 0, 1) := by decide +kernel
theorem dX7_keep_108 : decode cX7_keep 108 = .ok (.getfield 39, 3) := by decide +kernel
theorem dX7_keep_111 : decode cX7_keep 111 = .ok (.iconst 1, 1) := by decide +kernel
theorem dX7_keep_112 : decode cX7_keep 112 = .ok (.iaload, 1) := by decide +kernel
theorem dX7_keep_113 : decode cX7_keep 113 = .ok (.iastore, 1) := by decide +kernel
theorem dX7_keep_114 : decode cX7_keep 114 = .ok (.return_, 1) := by decide +kernel
theorem dX7_isToken_0 : decode cX7_isToken 0 = .ok (.aload_n 1, 1) := by decide +kernel
theorem dX7_isToken_1 : decode cX7_isToken 1 = .ok (.invokevirtual 195, 3) := by decide +kernel
theorem dX7_isToken_4 : decode cX7_isToken 4 = .ok (.aload_n 0, 1) := by decide +kernel
theorem dX7_isToken_5 : decode cX7_isToken 5 = .ok (.getfield 57, 3) := by decide +kernel
theorem dX7_isToken_8 : decode cX7_isToken 8 = .ok (.aload_n 0, 1) := by decide +kernel
theorem dX7_isToken_9 : decode cX7_isToken 9 = .ok (.getfield 103, 3) := by decide +kernel
theorem dX7_isToken_12 : decode cX7_isToken 12 = .ok (.isub, 1) := by decide +kernel
theorem dX7_isToken_13 : decode cX7_isToken 13 = .ok (.if_icmp .eq 5, 3) := by decide +kernel
theorem dX7_isToken_16 : decode cX7_isToken 16 = .ok (.iconst 0, 1) := by decide +kernel
theorem dX7_isToken_17 : decode cX7_isToken 17 = .ok (.ireturn, 1) := by decide +kernel
theorem dX7_isToken_18 : decode cX7_isToken 18 = .ok (.iconst 0, 1) := by decide +kernel
theorem dX7_isToken_19 : decode cX7_isToken 19 = .ok (.istore_n 2, 1) := by decide +kernel
theorem dX7_isToken_20 : decode cX7_isToken 20 = .ok (.iload_n 2, 1) := by decide +kernel
theorem dX7_isToken_21 : decode cX7_isToken 21 = .ok (.aload_n 1, 1) := by decide +kernel
theorem dX7_isToken_22 : decode cX7_isToken 22 = .ok (.invokevirtual 195, 3) := by decide +kernel
theorem dX7_isToken_25 : decode cX7_isToken 25 = .ok (.if_icmp .ge 30, 3) := by decide +kernel
theorem dX7_isToken_28 : decode cX7_isToken 28 = .ok (.aload_n 0, 1) := by decide +kernel
theorem dX7_isToken_29 : decode cX7_isToken 29 = .ok (.getfield 43, 3) := by decide +kernel
theorem dX7_isToken_32 : decode cX7_isToken 32 = .ok (.aload_n 0, 1) := by decide +kernel
theorem dX7_isToken_33 : decode cX7_isToken 33 = .ok (.getfield 103, 3) := by decide +kernel
theorem dX7_isToken_36 : decode cX7_isToken 36 = .ok (.iload_n 2, 1) := by decide +kernel
theorem dX7_isToken_37 : decode cX7_isToken 37 = .ok (.iadd, 1) := by decide +kernel
theorem dX7_isToken_38 : decode cX7_isToken 38 = .ok (.baload, 1) := by decide +kernel
theorem dX7_isToken_39 : decode cX7_isToken 39 = .ok (.aload_n 1, 1) := by decide +kernel
theorem dX7_isToken_40 : decode cX7_isToken 40 = .ok (.iload_n 2, 1) := by decide +kernel
theorem dX7_isToken_41 : decode cX7_isToken 41 = .ok (.invokevirtual 199, 3) := by decide +kernel
theorem dX7_isToken_44 : decode cX7_isToken 44 = .ok (.if_icmp .eq 5, 3) := by decide +kernel
theorem dX7_isToken_47 : decode cX7_isToken 47 = .ok (.iconst 0, 1) := by decide +kernel
theorem dX7_isToken_48 : decode cX7_isToken 48 = .ok (.ireturn, 1) := by decide +kernel
theorem dX7_isToken_49 : decode cX7_isToken 49 = .ok (.iinc 2 1, 3) := by decide +kernel
theorem dX7_isToken_52 : decode cX7_isToken 52 = .ok (.goto (-32), 3) := by decide +kernel
theorem dX7_isToken_55 : decode cX7_isToken 55 = .ok (.iconst 1, 1) := by decide +kernel
theorem dX7_isToken_56 : decode cX7_isToken 56 = .ok (.ireturn, 1) := by decide +kernel
theorem dX7_wordOf_0 : decode cX7_wordOf 0 = .ok (.iload_n 0, 1) := by decide +kernel
theorem dX7_wordOf_1 : decode cX7_wordOf 1 = .ok (.tableswitch 155 0 19 #[95, 98, 101, 104, 107, 110, 113, 116, 119, 122, 125, 128, 131, 134, 137, 140, 143, 146, 149, 152], 95) := by decide +kernel
theorem dX7_wordOf_96 : decode cX7_wordOf 96 = .ok (.ldc 203, 2) := by decide +kernel
theorem dX7_wordOf_98 : decode cX7_wordOf 98 = .ok (.areturn, 1) := by decide +kernel
theorem dX7_wordOf_99 : decode cX7_wordOf 99 = .ok (.ldc 205, 2) := by decide +kernel
theorem dX7_wordOf_101 : decode cX7_wordOf 101 = .ok (.areturn, 1) := by decide +kernel
theorem dX7_wordOf_102 : decode cX7_wordOf 102 = .ok (.ldc 207, 2) := by decide +kernel
theorem dX7_wordOf_104 : decode cX7_wordOf 104 = .ok (.areturn, 1) := by decide +kernel
theorem dX7_wordOf_105 : decode cX7_wordOf 105 = .ok (.ldc 209, 2) := by decide +kernel
theorem dX7_wordOf_107 : decode cX7_wordOf 107 = .ok (.areturn, 1) := by decide +kernel
theorem dX7_wordOf_108 : decode cX7_wordOf 108 = .ok (.ldc 211, 2) := by decide +kernel
theorem dX7_wordOf_110 : decode cX7_wordOf 110 = .ok (.areturn, 1) := by decide +kernel
theorem dX7_wordOf_111 : decode cX7_wordOf 111 = .ok (.ldc 213, 2) := by decide +kernel
theorem dX7_wordOf_113 : decode cX7_wordOf 113 = .ok (.areturn, 1) := by decide +kernel
theorem dX7_wordOf_114 : decode cX7_wordOf 114 = .ok (.ldc 215, 2) := by decide +kernel
theorem dX7_wordOf_116 : decode cX7_wordOf 116 = .ok (.areturn, 1) := by decide +kernel
theorem dX7_wordOf_117 : decode cX7_wordOf 117 = .ok (.ldc 217, 2) := by decide +kernel
theorem dX7_wordOf_119 : decode cX7_wordOf 119 = .ok (.areturn, 1) := by decide +kernel
theorem dX7_wordOf_120 : decode cX7_wordOf 120 = .ok (.ldc 218, 2) := by decide +kernel
theorem dX7_wordOf_122 : decode cX7_wordOf 122 = .ok (.areturn, 1) := by decide +kernel
theorem dX7_wordOf_123 : decode cX7_wordOf 123 = .ok (.ldc 219, 2) := by decide +kernel
theorem dX7_wordOf_125 : decode cX7_wordOf 125 = .ok (.areturn, 1) := by decide +kernel
theorem dX7_wordOf_126 : decode cX7_wordOf 126 = .ok (.ldc 220, 2) := by decide +kernel
theorem dX7_wordOf_128 : decode cX7_wordOf 128 = .ok (.areturn, 1) := by decide +kernel
theorem dX7_wordOf_129 : decode cX7_wordOf 129 = .ok (.ldc 221, 2) := by decide +kernel
theorem dX7_wordOf_131 : decode cX7_wordOf 131 = .ok (.areturn, 1) := by decide +kernel
theorem dX7_wordOf_132 : decode cX7_wordOf 132 = .ok (.ldc 222, 2) := by decide +kernel
theorem dX7_wordOf_134 : decode cX7_wordOf 134 = .ok (.areturn, 1) := by decide +kernel
theorem dX7_wordOf_135 : decode cX7_wordOf 135 = .ok (.ldc 223, 2) := by decide +kernel
theorem dX7_wordOf_137 : decode cX7_wordOf 137 = .ok (.areturn, 1) := by decide +kernel
theorem dX7_wordOf_138 : decode cX7_wordOf 138 = .ok (.ldc 225, 2) := by decide +kernel
theorem dX7_wordOf_140 : decode cX7_wordOf 140 = .ok (.areturn, 1) := by decide +kernel
theorem dX7_wordOf_141 : decode cX7_wordOf 141 = .ok (.ldc 227, 2) := by decide +kernel
theorem dX7_wordOf_143 : decode cX7_wordOf 143 = .ok (.areturn, 1) := by decide +kernel
theorem dX7_wordOf_144 : decode cX7_wordOf 144 = .ok (.ldc 229, 2) := by decide +kernel
theorem dX7_wordOf_146 : decode cX7_wordOf 146 = .ok (.areturn, 1) := by decide +kernel
theorem dX7_wordOf_147 : decode cX7_wordOf 147 = .ok (.ldc 231, 2) := by decide +kernel
theorem dX7_wordOf_149 : decode cX7_wordOf 149 = .ok (.areturn, 1) := by decide +kernel
theorem dX7_wordOf_150 : decode cX7_wordOf 150 = .ok (.ldc 233, 2) := by decide +kernel
theorem dX7_wordOf_152 : decode cX7_wordOf 152 = .ok (.areturn, 1) := by decide +kernel
theorem dX7_wordOf_153 : decode cX7_wordOf 153 = .ok (.ldc 235, 2) := by decide +kernel
theorem dX7_wordOf_155 : decode cX7_wordOf 155 = .ok (.areturn, 1) := by decide +kernel
theorem dX7_wordOf_156 : decode cX7_wordOf 156 = .ok (.ldc 236, 2) := by decide +kernel
theorem dX7_wordOf_158 : decode cX7_wordOf 158 = .ok (.areturn, 1) := by decide +kernel
theorem dX7_lineOf_0 : decode cX7_lineOf 0 = .ok (.aload_n 0, 1) := by decide +kernel
theorem dX7_lineOf_1 : decode cX7_lineOf 1 = .ok (.getfield 77, 3) := by decide +kernel
theorem dX7_lineOf_4 : decode cX7_lineOf 4 = .ok (.iconst 1, 1) := by decide +kernel
theorem dX7_lineOf_5 : decode cX7_lineOf 5 = .ok (.if_icmp .eq 5, 3) := by decide +kernel
theorem dX7_lineOf_8 : decode cX7_lineOf 8 = .ok (.iconst (-1), 1) := by decide +kernel
theorem dX7_lineOf_9 : decode cX7_lineOf 9 = .ok (.ireturn, 1) := by decide +kernel
theorem dX7_lineOf_10 : decode cX7_lineOf 10 = .ok (.getstatic 184, 3) := by decide +kernel
theorem dX7_lineOf_13 : decode cX7_lineOf 13 = .ok (.iload_n 1, 1) := by decide +kernel
theorem dX7_lineOf_14 : decode cX7_lineOf 14 = .ok (.iaload, 1) := by decide +kernel
theorem dX7_lineOf_15 : decode cX7_lineOf 15 = .ok (.istore_n 2, 1) := by decide +kernel
theorem dX7_lineOf_16 : decode cX7_lineOf 16 = .ok (.iload_n 2, 1) := by decide +kernel
theorem dX7_lineOf_17 : decode cX7_lineOf 17 = .ok (.getstatic 184, 3) := by decide +kernel
theorem dX7_lineOf_20 : decode cX7_lineOf 20 = .ok (.iload_n 1, 1) := by decide +kernel
theorem dX7_lineOf_21 : decode cX7_lineOf 21 = .ok (.iconst 1, 1) := by decide +kernel
theorem dX7_lineOf_22 : decode cX7_lineOf 22 = .ok (.iadd, 1) := by decide +kernel
theorem dX7_lineOf_23 : decode cX7_lineOf 23 = .ok (.iaload, 1) := by decide +kernel
theorem dX7_lineOf_24 : decode cX7_lineOf 24 = .ok (.if_icmp .ge 22, 3) := by decide +kernel
theorem dX7_lineOf_27 : decode cX7_lineOf 27 = .ok (.aload_n 0, 1) := by decide +kernel
theorem dX7_lineOf_28 : decode cX7_lineOf 28 = .ok (.iload_n 2, 1) := by decide +kernel
theorem dX7_lineOf_29 : decode cX7_lineOf 29 = .ok (.invokestatic 187, 3) := by decide +kernel
theorem dX7_lineOf_32 : decode cX7_lineOf 32 = .ok (.invokevirtual 191, 3) := by decide +kernel
theorem dX7_lineOf_35 : decode cX7_lineOf 35 = .ok (.ifCond .eq 5, 3) := by decide +kernel
theorem dX7_lineOf_38 : decode cX7_lineOf 38 = .ok (.iload_n 2, 1) := by decide +kernel
theorem dX7_lineOf_39 : decode cX7_lineOf 39 = .ok (.ireturn, 1) := by decide +kernel
theorem dX7_lineOf_40 : decode cX7_lineOf 40 = .ok (.iinc 2 1, 3) := by decide +kernel
theorem dX7_lineOf_43 : decode cX7_lineOf 43 = .ok (.goto (-27), 3) := by decide +kernel
theorem dX7_lineOf_46 : decode cX7_lineOf 46 = .ok (.iconst (-1), 1) := by decide +kernel
theorem dX7_lineOf_47 : decode cX7_lineOf 47 = .ok (.ireturn, 1) := by decide +kernel
theorem dX7_least_0 : decode cX7_least 0 = .ok (.iload_n 0, 1) := by decide +kernel
theorem dX7_least_1 : decode cX7_least 1 = .ok (.ifCond .ne 5, 3) := by decide +kernel
theorem dX7_least_4 : decode cX7_least 4 = .ok (.iconst 2, 1) := by decide +kernel
theorem dX7_least_5 : decode cX7_least 5 = .ok (.ireturn, 1) := by decide +kernel
theorem dX7_least_6 : decode cX7_least 6 = .ok (.iload_n 0, 1) := by decide +kernel
theorem dX7_least_7 : decode cX7_least 7 = .ok (.bipush 8, 2) := by decide +kernel
theorem dX7_least_9 : decode cX7_least 9 = .ok (.if_icmp .ne 5, 3) := by decide +kernel
theorem dX7_least_12 : decode cX7_least 12 = .ok (.iconst 1, 1) := by decide +kernel
theorem dX7_least_13 : decode cX7_least 13 = .ok (.ireturn, 1) := by decide +kernel
theorem dX7_least_14 : decode cX7_least 14 = .ok (.iload_n 0, 1) := by decide +kernel
theorem dX7_least_15 : decode cX7_least 15 = .ok (.iconst 3, 1) := by decide +kernel
theorem dX7_least_16 : decode cX7_least 16 = .ok (.if_icmp .lt 18, 3) := by decide +kernel
theorem dX7_least_19 : decode cX7_least 19 = .ok (.iload_n 0, 1) := by decide +kernel
theorem dX7_least_20 : decode cX7_least 20 = .ok (.bipush 6, 2) := by decide +kernel
theorem dX7_least_22 : decode cX7_least 22 = .ok (.if_icmp .gt 12, 3) := by decide +kernel
theorem dX7_least_25 : decode cX7_least 25 = .ok (.iload_n 1, 1) := by decide +kernel
theorem dX7_least_26 : decode cX7_least 26 = .ok (.iconst 3, 1) := by decide +kernel
theorem dX7_least_27 : decode cX7_least 27 = .ok (.if_icmp .ne 7, 3) := by decide +kernel
theorem dX7_least_30 : decode cX7_least 30 = .ok (.iconst 1, 1) := by decide +kernel
theorem dX7_least_31 : decode cX7_least 31 = .ok (.goto 4, 3) := by decide +kernel
theorem dX7_least_34 : decode cX7_least 34 = .ok (.iconst 0, 1) := by decide +kernel
theorem dX7_least_35 : decode cX7_least 35 = .ok (.ireturn, 1) := by decide +kernel
theorem dX7_numberOfToken_0 : decode cX7_numberOfToken 0 = .ok (.iconst 0, 1) := by decide +kernel
theorem dX7_numberOfToken_1 : decode cX7_numberOfToken 1 = .ok (.istore_n 1, 1) := by decide +kernel
theorem dX7_numberOfToken_2 : decode cX7_numberOfToken 2 = .ok (.aload_n 0, 1) := by decide +kernel
theorem dX7_numberOfToken_3 : decode cX7_numberOfToken 3 = .ok (.getfield 103, 3) := by decide +kernel
theorem dX7_numberOfToken_6 : decode cX7_numberOfToken 6 = .ok (.istore_n 2, 1) := by decide +kernel
theorem dX7_numberOfToken_7 : decode cX7_numberOfToken 7 = .ok (.iload_n 2, 1) := by decide +kernel
theorem dX7_numberOfToken_8 : decode cX7_numberOfToken 8 = .ok (.aload_n 0, 1) := by decide +kernel
theorem dX7_numberOfToken_9 : decode cX7_numberOfToken 9 = .ok (.getfield 57, 3) := by decide +kernel
theorem dX7_numberOfToken_12 : decode cX7_numberOfToken 12 = .ok (.if_icmp .ge 24, 3) := by decide +kernel
theorem dX7_numberOfToken_15 : decode cX7_numberOfToken 15 = .ok (.bipush 10, 2) := by decide +kernel
theorem dX7_numberOfToken_17 : decode cX7_numberOfToken 17 = .ok (.iload_n 1, 1) := by decide +kernel
theorem dX7_numberOfToken_18 : decode cX7_numberOfToken 18 = .ok (.imul, 1) := by decide +kernel
theorem dX7_numberOfToken_19 : decode cX7_numberOfToken 19 = .ok (.aload_n 0, 1) := by decide +kernel
theorem dX7_numberOfToken_20 : decode cX7_numberOfToken 20 = .ok (.getfield 43, 3) := by decide +kernel
theorem dX7_numberOfToken_23 : decode cX7_numberOfToken 23 = .ok (.iload_n 2, 1) := by decide +kernel
theorem dX7_numberOfToken_24 : decode cX7_numberOfToken 24 = .ok (.baload, 1) := by decide +kernel
theorem dX7_numberOfToken_25 : decode cX7_numberOfToken 25 = .ok (.iadd, 1) := by decide +kernel
theorem dX7_numberOfToken_26 : decode cX7_numberOfToken 26 = .ok (.bipush 48, 2) := by decide +kernel
theorem dX7_numberOfToken_28 : decode cX7_numberOfToken 28 = .ok (.isub, 1) := by decide +kernel
theorem dX7_numberOfToken_29 : decode cX7_numberOfToken 29 = .ok (.istore_n 1, 1) := by decide +kernel
theorem dX7_numberOfToken_30 : decode cX7_numberOfToken 30 = .ok (.iinc 2 1, 3) := by decide +kernel
theorem dX7_numberOfToken_33 : decode cX7_numberOfToken 33 = .ok (.goto (-26), 3) := by decide +kernel
theorem dX7_numberOfToken_36 : decode cX7_numberOfToken 36 = .ok (.iload_n 1, 1) := by decide +kernel
theorem dX7_numberOfToken_37 : decode cX7_numberOfToken 37 = .ok (.ireturn, 1) := by decide +kernel
theorem dX7_readNumbers_0 : decode cX7_readNumbers 0 = .ok (.iconst 0, 1) := by decide +kernel
theorem dX7_readNumbers_1 : decode cX7_readNumbers 1 = .ok (.istore_n 2, 1) := by decide +kernel
theorem dX7_readNumbers_2 : decode cX7_readNumbers 2 = .ok (.iload_n 2, 1) := by decide +kernel
theorem dX7_readNumbers_3 : decode cX7_readNumbers 3 = .ok (.getstatic 115, 3) := by decide +kernel
theorem dX7_readNumbers_6 : decode cX7_readNumbers 6 = .ok (.iload_n 1, 1) := by decide +kernel
theorem dX7_readNumbers_7 : decode cX7_readNumbers 7 = .ok (.iaload, 1) := by decide +kernel
theorem dX7_readNumbers_8 : decode cX7_readNumbers 8 = .ok (.if_icmp .ge 74, 3) := by decide +kernel
theorem dX7_readNumbers_11 : decode cX7_readNumbers 11 = .ok (.aload_n 0, 1) := by decide +kernel
theorem dX7_readNumbers_12 : decode cX7_readNumbers 12 = .ok (.getfield 77, 3) := by decide +kernel
theorem dX7_readNumbers_15 : decode cX7_readNumbers 15 = .ok (.iconst 2, 1) := by decide +kernel
theorem dX7_readNumbers_16 : decode cX7_readNumbers 16 = .ok (.if_icmp .eq 5, 3) := by decide +kernel
theorem dX7_readNumbers_19 : decode cX7_readNumbers 19 = .ok (.iconst 0, 1) := by decide +kernel
theorem dX7_readNumbers_20 : decode cX7_readNumbers 20 = .ok (.ireturn, 1) := by decide +kernel
theorem dX7_readNumbers_21 : decode cX7_readNumbers 21 = .ok (.aload_n 0, 1) := by decide +kernel
theorem dX7_readNumbers_22 : decode cX7_readNumbers 22 = .ok (.getfield 39, 3) := by decide +kernel
theorem dX7_readNumbers_25 : decode cX7_readNumbers 25 = .ok (.iload_n 2, 1) := by decide +kernel
theorem dX7_readNumbers_26 : decode cX7_readNumbers 26 = .ok (.aload_n 0, 1) := by decide +kernel
theorem dX7_readNumbers_27 : decode cX7_readNumbers 27 = .ok (.invokevirtual 118, 3) := by decide +kernel
theorem dX7_readNumbers_30 : decode cX7_readNumbers 30 = .ok (.iastore, 1) := by decide +kernel
theorem dX7_readNumbers_31 : decode cX7_readNumbers 31 = .ok (.aload_n 0, 1) := by decide +kernel
theorem dX7_readNumbers_32 : decode cX7_readNumbers 32 = .ok (.getfield 39, 3) := by decide +kernel
theorem dX7_readNumbers_35 : decode cX7_readNumbers 35 = .ok (.iload_n 2, 1) := by decide +kernel
theorem dX7_readNumbers_36 : decode cX7_readNumbers 36 = .ok (.iaload, 1) := by decide +kernel
theorem dX7_readNumbers_37 : decode cX7_readNumbers 37 = .ok (.iload_n 1, 1) := by decide +kernel
theorem dX7_readNumbers_38 : decode cX7_readNumbers 38 = .ok (.iload_n 2, 1) := by decide +kernel
theorem dX7_readNumbers_39 : decode cX7_readNumbers 39 = .ok (.invokestatic 121, 3) := by decide +kernel
theorem dX7_readNumbers_42 : decode cX7_readNumbers 42 = .ok (.if_icmp .lt 21, 3) := by decide +kernel
theorem dX7_readNumbers_45 : decode cX7_readNumbers 45 = .ok (.aload_n 0, 1) := by decide +kernel
theorem dX7_readNumbers_46 : decode cX7_readNumbers 46 = .ok (.getfield 39, 3) := by decide +kernel
theorem dX7_readNumbers_49 : decode cX7_readNumbers 49 = .ok (.iload_n 2, 1) := by decide +kernel
theorem dX7_readNumbers_50 : decode cX7_readNumbers 50 = .ok (.iaload, 1) := by decide +kernel
theorem dX7_readNumbers_51 : decode cX7_readNumbers 51 = .ok (.getstatic 124, 3) := by decide +kernel
theorem dX7_readNumbers_54 : decode cX7_readNumbers 54 = .ok (.iconst 5, 1) := by decide +kernel
theorem dX7_readNumbers_55 : decode cX7_readNumbers 55 = .ok (.iload_n 1, 1) := by decide +kernel
theorem dX7_readNumbers_56 : decode cX7_readNumbers 56 = .ok (.imul, 1) := by decide +kernel
theorem dX7_readNumbers_57 : decode cX7_readNumbers 57 = .ok (.iload_n 2, 1) := by decide +kernel
theorem dX7_readNumbers_58 : decode cX7_readNumbers 58 = .ok (.iadd, 1) := by decide +kernel
theorem dX7_readNumbers_59 : decode cX7_readNumbers 59 = .ok (.iaload, 1) := by decide +kernel
theorem dX7_readNumbers_60 : decode cX7_readNumbers 60 = .ok (.if_icmp .le 12, 3) := by decide +kernel
theorem dX7_readNumbers_63 : decode cX7_readNumbers 63 = .ok (.aload_n 0, 1) := by decide +kernel
theorem dX7_readNumbers_64 : decode cX7_readNumbers 64 = .ok (.iconst 2, 1) := by decide +kernel
theorem dX7_readNumbers_65 : decode cX7_readNumbers 65 = .ok (.aload_n 0, 1) := by decide +kernel
theorem dX7_readNumbers_66 : decode cX7_readNumbers 66 = .ok (.getfield 103, 3) := by decide +kernel
theorem dX7_readNumbers_69 : decode cX7_readNumbers 69 = .ok (.invokevirtual 88, 3) := by decide +kernel
theorem dX7_readNumbers_72 : decode cX7_readNumbers 72 = .ok (.aload_n 0, 1) := by decide +kernel
theorem dX7_readNumbers_73 : decode cX7_readNumbers 73 = .ok (.invokevirtual 74, 3) := by decide +kernel
theorem dX7_readNumbers_76 : decode cX7_readNumbers 76 = .ok (.iinc 2 1, 3) := by decide +kernel
theorem dX7_readNumbers_79 : decode cX7_readNumbers 79 = .ok (.goto (-77), 3) := by decide +kernel
theorem dX7_readNumbers_82 : decode cX7_readNumbers 82 = .ok (.iconst 1, 1) := by decide +kernel
theorem dX7_readNumbers_83 : decode cX7_readNumbers 83 = .ok (.ireturn, 1) := by decide +kernel
theorem dX7_refuse_0 : decode cX7_refuse 0 = .ok (.aload_n 0, 1) := by decide +kernel
theorem dX7_refuse_1 : decode cX7_refuse 1 = .ok (.iconst 1, 1) := by decide +kernel
theorem dX7_refuse_2 : decode cX7_refuse 2 = .ok (.putfield 60, 3) := by decide +kernel
theorem dX7_refuse_5 : decode cX7_refuse 5 = .ok (.aload_n 0, 1) := by decide +kernel
theorem dX7_refuse_6 : decode cX7_refuse 6 = .ok (.aload_n 0, 1) := by decide +kernel
theorem dX7_refuse_7 : decode cX7_refuse 7 = .ok (.getfield 103, 3) := by decide +kernel
theorem dX7_refuse_10 : decode cX7_refuse 10 = .ok (.putfield 63, 3) := by decide +kernel
theorem dX7_refuse_13 : decode cX7_refuse 13 = .ok (.return_, 1) := by decide +kernel
theorem dX7_readLine_0 : decode cX7_readLine 0 = .ok (.aload_n 0, 1) := by decide +kernel
theorem dX7_readLine_1 : decode cX7_readLine 1 = .ok (.iload_n 1, 1) := by decide +kernel
theorem dX7_readLine_2 : decode cX7_readLine 2 = .ok (.invokevirtual 92, 3) := by decide +kernel
theorem dX7_readLine_5 : decode cX7_readLine 5 = .ok (.istore_n 2, 1) := by decide +kernel
theorem dX7_readLine_6 : decode cX7_readLine 6 = .ok (.iload_n 2, 1) := by decide +kernel
theorem dX7_readLine_7 : decode cX7_readLine 7 = .ok (.iconst (-1), 1) := by decide +kernel
theorem dX7_readLine_8 : decode cX7_readLine 8 = .ok (.if_icmp .ne 8, 3) := by decide +kernel
theorem dX7_readLine_11 : decode cX7_readLine 11 = .ok (.aload_n 0, 1) := by decide +kernel
theorem dX7_readLine_12 : decode cX7_readLine 12 = .ok (.invokevirtual 96, 3) := by decide +kernel
theorem dX7_readLine_15 : decode cX7_readLine 15 = .ok (.return_, 1) := by decide +kernel
theorem dX7_readLine_16 : decode cX7_readLine 16 = .ok (.aload_n 0, 1) := by decide +kernel
theorem dX7_readLine_17 : decode cX7_readLine 17 = .ok (.iload_n 2, 1) := by decide +kernel
theorem dX7_readLine_18 : decode cX7_readLine 18 = .ok (.invokevirtual 99, 3) := by decide +kernel
theorem dX7_readLine_21 : decode cX7_readLine 21 = .ok (.ifCond .eq 12, 3) := by decide +kernel
theorem dX7_readLine_24 : decode cX7_readLine 24 = .ok (.aload_n 0, 1) := by decide +kernel
theorem dX7_readLine_25 : decode cX7_readLine 25 = .ok (.iconst 3, 1) := by decide +kernel
theorem dX7_readLine_26 : decode cX7_readLine 26 = .ok (.aload_n 0, 1) := by decide +kernel
theorem dX7_readLine_27 : decode cX7_readLine 27 = .ok (.getfield 103, 3) := by decide +kernel
theorem dX7_readLine_30 : decode cX7_readLine 30 = .ok (.invokevirtual 88, 3) := by decide +kernel
theorem dX7_readLine_33 : decode cX7_readLine 33 = .ok (.aload_n 0, 1) := by decide +kernel
theorem dX7_readLine_34 : decode cX7_readLine 34 = .ok (.invokevirtual 74, 3) := by decide +kernel
theorem dX7_readLine_37 : decode cX7_readLine 37 = .ok (.aload_n 0, 1) := by decide +kernel
theorem dX7_readLine_38 : decode cX7_readLine 38 = .ok (.iload_n 2, 1) := by decide +kernel
theorem dX7_readLine_39 : decode cX7_readLine 39 = .ok (.invokevirtual 106, 3) := by decide +kernel
theorem dX7_readLine_42 : decode cX7_readLine 42 = .ok (.ifCond .ne 8, 3) := by decide +kernel
theorem dX7_readLine_45 : decode cX7_readLine 45 = .ok (.aload_n 0, 1) := by decide +kernel
theorem dX7_readLine_46 : decode cX7_readLine 46 = .ok (.invokevirtual 96, 3) := by decide +kernel
theorem dX7_readLine_49 : decode cX7_readLine 49 = .ok (.return_, 1) := by decide +kernel
theorem dX7_readLine_50 : decode cX7_readLine 50 = .ok (.iload_n 2, 1) := by decide +kernel
theorem dX7_readLine_51 : decode cX7_readLine 51 = .ok (.bipush 12, 2) := by decide +kernel
theorem dX7_readLine_53 : decode cX7_readLine 53 = .ok (.if_icmp .ne 38, 3) := by decide +kernel
theorem dX7_readLine_56 : decode cX7_readLine 56 = .ok (.aload_n 0, 1) := by decide +kernel
theorem dX7_readLine_57 : decode cX7_readLine 57 = .ok (.aload_n 0, 1) := by decide +kernel
theorem dX7_readLine_58 : decode cX7_readLine 58 = .ok (.iconst 0, 1) := by decide +kernel
theorem dX7_readLine_59 : decode cX7_readLine 59 = .ok (.invokevirtual 92, 3) := by decide +kernel
theorem dX7_readLine_62 : decode cX7_readLine 62 = .ok (.iconst 3, 1) := by decide +kernel
theorem dX7_readLine_63 : decode cX7_readLine 63 = .ok (.isub, 1) := by decide +kernel
theorem dX7_readLine_64 : decode cX7_readLine 64 = .ok (.putfield 109, 3) := by decide +kernel
theorem dX7_readLine_67 : decode cX7_readLine 67 = .ok (.aload_n 0, 1) := by decide +kernel
theorem dX7_readLine_68 : decode cX7_readLine 68 = .ok (.getfield 109, 3) := by decide +kernel
theorem dX7_readLine_71 : decode cX7_readLine 71 = .ok (.ifCond .lt 11, 3) := by decide +kernel
theorem dX7_readLine_74 : decode cX7_readLine 74 = .ok (.aload_n 0, 1) := by decide +kernel
theorem dX7_readLine_75 : decode cX7_readLine 75 = .ok (.getfield 109, 3) := by decide +kernel
theorem dX7_readLine_78 : decode cX7_readLine 78 = .ok (.iconst 3, 1) := by decide +kernel
theorem dX7_readLine_79 : decode cX7_readLine 79 = .ok (.if_icmp .le 8, 3) := by decide +kernel
theorem dX7_readLine_82 : decode cX7_readLine 82 = .ok (.aload_n 0, 1) := by decide +kernel
theorem dX7_readLine_83 : decode cX7_readLine 83 = .ok (.invokevirtual 96, 3) := by decide +kernel
theorem dX7_readLine_86 : decode cX7_readLine 86 = .ok (.return_, 1) := by decide +kernel
theorem dX7_readLine_87 : decode cX7_readLine 87 = .ok (.aload_n 0, 1) := by decide +kernel
theorem dX7_readLine_88 : decode cX7_readLine 88 = .ok (.invokevirtual 74, 3) := by decide +kernel
theorem dX7_readLine_91 : decode cX7_readLine 91 = .ok (.aload_n 0, 1) := by decide +kernel
theorem dX7_readLine_92 : decode cX7_readLine 92 = .ok (.getfield 77, 3) := by decide +kernel
theorem dX7_readLine_95 : decode cX7_readLine 95 = .ok (.iconst 3, 1) := by decide +kernel
theorem dX7_readLine_96 : decode cX7_readLine 96 = .ok (.if_icmp .eq 8, 3) := by decide +kernel
theorem dX7_readLine_99 : decode cX7_readLine 99 = .ok (.aload_n 0, 1) := by decide +kernel
theorem dX7_readLine_100 : decode cX7_readLine 100 = .ok (.invokevirtual 96, 3) := by decide +kernel
theorem dX7_readLine_103 : decode cX7_readLine 103 = .ok (.return_, 1) := by decide +kernel
theorem dX7_readLine_104 : decode cX7_readLine 104 = .ok (.aload_n 0, 1) := by decide +kernel
theorem dX7_readLine_105 : decode cX7_readLine 105 = .ok (.getfield 60, 3) := by decide +kernel
theorem dX7_readLine_108 : decode cX7_readLine 108 = .ok (.ifCond .ne 8, 3) := by decide +kernel
theorem dX7_readLine_111 : decode cX7_readLine 111 = .ok (.aload_n 0, 1) := by decide +kernel
theorem dX7_readLine_112 : decode cX7_readLine 112 = .ok (.iload_n 2, 1) := by decide +kernel
theorem dX7_readLine_113 : decode cX7_readLine 113 = .ok (.invokevirtual 112, 3) := by decide +kernel
theorem dX7_readLine_116 : decode cX7_readLine 116 = .ok (.aload_n 0, 1) := by decide +kernel
theorem dX7_readLine_117 : decode cX7_readLine 117 = .ok (.invokevirtual 74, 3) := by decide +kernel
theorem dX7_readLine_120 : decode cX7_readLine 120 = .ok (.return_, 1) := by decide +kernel
theorem dX7_read_0 : decode cX7_read 0 = .ok (.aload_n 0, 1) := by decide +kernel
theorem dX7_read_1 : decode cX7_read 1 = .ok (.aload_n 1, 1) := by decide +kernel
theorem dX7_read_2 : decode cX7_read 2 = .ok (.putfield 43, 3) := by decide +kernel
theorem dX7_read_5 : decode cX7_read 5 = .ok (.aload_n 0, 1) := by decide +kernel
theorem dX7_read_6 : decode cX7_read 6 = .ok (.iload_n 2, 1) := by decide +kernel
theorem dX7_read_7 : decode cX7_read 7 = .ok (.aload_n 1, 1) := by decide +kernel
theorem dX7_read_8 : decode cX7_read 8 = .ok (.arraylength, 1) := by decide +kernel
theorem dX7_read_9 : decode cX7_read 9 = .ok (.invokestatic 47, 3) := by decide +kernel
theorem dX7_read_12 : decode cX7_read 12 = .ok (.putfield 53, 3) := by decide +kernel
theorem dX7_read_15 : decode cX7_read 15 = .ok (.aload_n 0, 1) := by decide +kernel
theorem dX7_read_16 : decode cX7_read 16 = .ok (.iconst 0, 1) := by decide +kernel
theorem dX7_read_17 : decode cX7_read 17 = .ok (.putfield 57, 3) := by decide +kernel
theorem dX7_read_20 : decode cX7_read 20 = .ok (.aload_n 0, 1) := by decide +kernel
theorem dX7_read_21 : decode cX7_read 21 = .ok (.iconst 0, 1) := by decide +kernel
theorem dX7_read_22 : decode cX7_read 22 = .ok (.putfield 60, 3) := by decide +kernel
theorem dX7_read_25 : decode cX7_read 25 = .ok (.aload_n 0, 1) := by decide +kernel
theorem dX7_read_26 : decode cX7_read 26 = .ok (.iconst (-1), 1) := by decide +kernel
theorem dX7_read_27 : decode cX7_read 27 = .ok (.putfield 63, 3) := by decide +kernel
theorem dX7_read_30 : decode cX7_read 30 = .ok (.aload_n 0, 1) := by decide +kernel
theorem dX7_read_31 : decode cX7_read 31 = .ok (.getfield 12, 3) := by decide +kernel
theorem dX7_read_34 : decode cX7_read 34 = .ok (.invokevirtual 66, 3) := by decide +kernel
theorem dX7_read_37 : decode cX7_read 37 = .ok (.aload_n 0, 1) := by decide +kernel
theorem dX7_read_38 : decode cX7_read 38 = .ok (.getfield 21, 3) := by decide +kernel
theorem dX7_read_41 : decode cX7_read 41 = .ok (.invokevirtual 69, 3) := by decide +kernel
theorem dX7_read_44 : decode cX7_read 44 = .ok (.aload_n 0, 1) := by decide +kernel
theorem dX7_read_45 : decode cX7_read 45 = .ok (.getfield 28, 3) := by decide +kernel
theorem dX7_read_48 : decode cX7_read 48 = .ok (.iconst 0, 1) := by decide +kernel
theorem dX7_read_49 : decode cX7_read 49 = .ok (.putfield 70, 3) := by decide +kernel
theorem dX7_read_52 : decode cX7_read 52 = .ok (.aload_n 0, 1) := by decide +kernel
theorem dX7_read_53 : decode cX7_read 53 = .ok (.getfield 35, 3) := by decide +kernel
theorem dX7_read_56 : decode cX7_read 56 = .ok (.invokevirtual 73, 3) := by decide +kernel
theorem dX7_read_59 : decode cX7_read 59 = .ok (.aload_n 0, 1) := by decide +kernel
theorem dX7_read_60 : decode cX7_read 60 = .ok (.invokevirtual 74, 3) := by decide +kernel
theorem dX7_read_63 : decode cX7_read 63 = .ok (.iconst 0, 1) := by decide +kernel
theorem dX7_read_64 : decode cX7_read 64 = .ok (.istore 4, 2) := by decide +kernel
theorem dX7_read_66 : decode cX7_read 66 = .ok (.iload 4, 2) := by decide +kernel
theorem dX7_read_68 : decode cX7_read 68 = .ok (.sipush 600, 3) := by decide +kernel
theorem dX7_read_71 : decode cX7_read 71 = .ok (.if_icmp .ge 29, 3) := by decide +kernel
theorem dX7_read_74 : decode cX7_read 74 = .ok (.aload_n 0, 1) := by decide +kernel
theorem dX7_read_75 : decode cX7_read 75 = .ok (.getfield 77, 3) := by decide +kernel
theorem dX7_read_78 : decode cX7_read 78 = .ok (.ifCond .eq 22, 3) := by decide +kernel
theorem dX7_read_81 : decode cX7_read 81 = .ok (.aload_n 0, 1) := by decide +kernel
theorem dX7_read_82 : decode cX7_read 82 = .ok (.getfield 60, 3) := by decide +kernel
theorem dX7_read_85 : decode cX7_read 85 = .ok (.iconst 1, 1) := by decide +kernel
theorem dX7_read_86 : decode cX7_read 86 = .ok (.if_icmp .eq 14, 3) := by decide +kernel
theorem dX7_read_89 : decode cX7_read 89 = .ok (.aload_n 0, 1) := by decide +kernel
theorem dX7_read_90 : decode cX7_read 90 = .ok (.iload_n 3, 1) := by decide +kernel
theorem dX7_read_91 : decode cX7_read 91 = .ok (.invokevirtual 80, 3) := by decide +kernel
theorem dX7_read_94 : decode cX7_read 94 = .ok (.iinc 4 1, 3) := by decide +kernel
theorem dX7_read_97 : decode cX7_read 97 = .ok (.goto (-31), 3) := by decide +kernel
theorem dX7_read_100 : decode cX7_read 100 = .ok (.aload_n 0, 1) := by decide +kernel
theorem dX7_read_101 : decode cX7_read 101 = .ok (.getfield 60, 3) := by decide +kernel
theorem dX7_read_104 : decode cX7_read 104 = .ok (.ifCond .ne 22, 3) := by decide +kernel
theorem dX7_read_107 : decode cX7_read 107 = .ok (.iload_n 3, 1) := by decide +kernel
theorem dX7_read_108 : decode cX7_read 108 = .ok (.ifCond .ne 18, 3) := by decide +kernel
theorem dX7_read_111 : decode cX7_read 111 = .ok (.aload_n 0, 1) := by decide +kernel
theorem dX7_read_112 : decode cX7_read 112 = .ok (.aload_n 0, 1) := by decide +kernel
theorem dX7_read_113 : decode cX7_read 113 = .ok (.getfield 12, 3) := by decide +kernel
theorem dX7_read_116 : decode cX7_read 116 = .ok (.invokevirtual 84, 3) := by decide +kernel
theorem dX7_read_119 : decode cX7_read 119 = .ok (.aload_n 0, 1) := by decide +kernel
theorem dX7_read_120 : decode cX7_read 120 = .ok (.getfield 53, 3) := by decide +kernel
theorem dX7_read_123 : decode cX7_read 123 = .ok (.invokevirtual 88, 3) := by decide +kernel
theorem dX7_read_126 : decode cX7_read 126 = .ok (.return_, 1) := by decide +kernel
section
variable {p : Program} {l : Launch} {e : Env} {s : State} {m : MethodId} {args : Array Value} {below : List Frame} {meth : Method} {c : Code} {G : GG} {K : SK}
set_option maxHeartbeats 4000000 in
set_option maxRecDepth 100000 in
theorem tX7_mark (l : Launch) (G : GG) {K : SK} (hL : Lay K) (hTp : Tp K) (M : MM) (x1 : Int32) (x2 : Int32) (pp : MM) (hf : fX7_mark M x1 x2 = some pp) : Ct l yX7_mark cX7_mark 3 none 0 0 0 G K M [.ref (G.1 + 41), .int x1, .int x2] none K pp := by
  refine z_enter (lv := [(0, .ref (G.1 + 41)), (1, .int x1), (2, .int x2)]) (by decide +kernel) (Nat.le_of_ble_eq_true rfl) rfl ?_
  intro p e s m args below meth c C hnm hs0
  replace C : CX p s m args meth c cX7_mark 3 none RX7 G := C
  unfold fX7_mark at hf
  refine z_aload_n C 0 0 dX7_mark_0 rfl rfl ?_
  refine z_getI C ok_X7 (lay_c41 hL) 4 (by decide) rfl q_fl_X7_60 dX7_mark_1 ?_
  refine z_if_ne C 11 dX7_mark_4 (by decide) (fun c1 => ?_) (fun c1 => ?_)
  · replace hf := ite_f c1 hf
    cases hf
    exact z_vret C rfl dX7_mark_11
  · replace hf := ite_t c1 hf
    refine z_iload_n C 1 1 dX7_mark_7 rfl rfl ?_
    refine z_if_ne C 12 dX7_mark_8 (by decide) (fun c2 => ?_) (fun c2 => ?_)
    · replace hf := ite_f c2 hf
      refine z_aload_n C 0 0 dX7_mark_12 rfl rfl ?_
      refine z_iload_n C 1 1 dX7_mark_13 rfl rfl ?_
      refine z_putI C ok_X7 (lay_c41 hL) 4 (by decide) rfl rfl rfl rfl q_fl_X7_60 dX7_mark_14 ?_
      refine z_M (fun M3 e4 => ?_)
      replace hf := bnd_out e4 hf
      refine z_aload_n C 0 0 dX7_mark_17 rfl rfl ?_
      refine z_iload_n C 2 2 dX7_mark_18 rfl rfl ?_
      refine z_putI C ok_X7 (lay_c41 hL) 5 (by decide) rfl rfl rfl rfl q_fl_X7_63 dX7_mark_19 ?_
      refine z_M (fun M5 e6 => ?_)
      replace hf := bnd_out e6 hf
      cases hf
      exact z_vret C rfl dX7_mark_22
    · replace hf := ite_t c2 hf
      cases hf
      exact z_vret C rfl dX7_mark_11
set_option maxHeartbeats 4000000 in
set_option maxRecDepth 100000 in
theorem tX7_isDigit (l : Launch) (G : GG) {K : SK} (hL : Lay K) (hTp : Tp K) (M : MM) (x1 : Int32) (pp : Int32) (hf : fX7_isDigit M x1 = some pp) : Ct l yX7_isDigit cX7_isDigit 2 (some .boolean) 0 0 0 G K M [.ref (G.1 + 41), .int x1] (some (.int pp)) K M := by
  refine z_enter (lv := [(0, .ref (G.1 + 41)), (1, .int x1)]) (by decide +kernel) (Nat.le_of_ble_eq_true rfl) rfl ?_
  intro p e s m args below meth c C hnm hs0
  replace C : CX p s m args meth c cX7_isDigit 2 (some .boolean) RX7 G := C
  unfold fX7_isDigit at hf
  refine z_aload_n C 0 0 dX7_isDigit_0 rfl rfl ?_
  refine z_getR C ok_X7 (lay_c41 hL) 6 (39) (by decide) rfl hTp q_fl_X7_43 dX7_isDigit_1 ?_
  refine z_iload_n C 1 1 dX7_isDigit_4 rfl rfl ?_
  replace hf := gd_out hf
  obtain ⟨g1, hf⟩ := hf
  refine z_bald C (lay_c39 hL) (inb_in g1) dX7_isDigit_5 ?_
  refine z_bipush C 48 dX7_isDigit_6 (by decide) ?_
  refine z_icmp_lt C 26 dX7_isDigit_8 (by decide) (fun c2 => ?_) (fun c2 => ?_)
  · replace hf := ite_t c2 hf
    refine z_iconst C 0 dX7_isDigit_26 (by decide) ?_
    cases hf
    exact z_zret C rfl nb0 dX7_isDigit_27
  · replace hf := ite_f c2 hf
    refine z_aload_n C 0 0 dX7_isDigit_11 rfl rfl ?_
    refine z_getR C ok_X7 (lay_c41 hL) 6 (39) (by decide) rfl hTp q_fl_X7_43 dX7_isDigit_12 ?_
    refine z_iload_n C 1 1 dX7_isDigit_15 rfl rfl ?_
    replace hf := gd_out hf
    obtain ⟨g3, hf⟩ := hf
    refine z_bald C (lay_c39 hL) (inb_in g3) dX7_isDigit_16 ?_
    refine z_bipush C 57 dX7_isDigit_17 (by decide) ?_
    refine z_icmp_gt C 26 dX7_isDigit_19 (by decide) (fun c4 => ?_) (fun c4 => ?_)
    · replace hf := ite_t c4 hf
      refine z_iconst C 0 dX7_isDigit_26 (by decide) ?_
      cases hf
      exact z_zret C rfl nb0 dX7_isDigit_27
    · replace hf := ite_f c4 hf
      refine z_iconst C 1 dX7_isDigit_22 (by decide) ?_
      refine z_goto C 27 dX7_isDigit_23 (by decide) ?_
      cases hf
      exact z_zret C rfl nb1 dX7_isDigit_27
set_option maxHeartbeats 4000000 in
set_option maxRecDepth 100000 in
theorem tX7_isLetter (l : Launch) (G : GG) {K : SK} (hL : Lay K) (hTp : Tp K) (M : MM) (x1 : Int32) (pp : Int32) (hf : fX7_isLetter M x1 = some pp) : Ct l yX7_isLetter cX7_isLetter 2 (some .boolean) 0 0 0 G K M [.ref (G.1 + 41), .int x1] (some (.int pp)) K M := by
  refine z_enter (lv := [(0, .ref (G.1 + 41)), (1, .int x1)]) (by decide +kernel) (Nat.le_of_ble_eq_true rfl) rfl ?_
  intro p e s m args below meth c C hnm hs0
  replace C : CX p s m args meth c cX7_isLetter 2 (some .boolean) RX7 G := C
  unfold fX7_isLetter at hf
  refine z_aload_n C 0 0 dX7_isLetter_0 rfl rfl ?_
  refine z_getR C ok_X7 (lay_c41 hL) 6 (39) (by decide) rfl hTp q_fl_X7_43 dX7_isLetter_1 ?_
  refine z_iload_n C 1 1 dX7_isLetter_4 rfl rfl ?_
  replace hf := gd_out hf
  obtain ⟨g1, hf⟩ := hf
  refine z_bald C (lay_c39 hL) (inb_in g1) dX7_isLetter_5 ?_
  refine z_bipush C 97 dX7_isLetter_6 (by decide) ?_
  refine z_icmp_lt C 26 dX7_isLetter_8 (by decide) (fun c2 => ?_) (fun c2 => ?_)
  · replace hf := ite_t c2 hf
    refine z_iconst C 0 dX7_isLetter_26 (by decide) ?_
    cases hf
    exact z_zret C rfl nb0 dX7_isLetter_27
  · replace hf := ite_f c2 hf
    refine z_aload_n C 0 0 dX7_isLetter_11 rfl rfl ?_
    refine z_getR C ok_X7 (lay_c41 hL) 6 (39) (by decide) rfl hTp q_fl_X7_43 dX7_isLetter_12 ?_
    refine z_iload_n C 1 1 dX7_isLetter_15 rfl rfl ?_
    replace hf := gd_out hf
    obtain ⟨g3, hf⟩ := hf
    refine z_bald C (lay_c39 hL) (inb_in g3) dX7_isLetter_16 ?_
    refine z_bipush C 122 dX7_isLetter_17 (by decide) ?_
    refine z_icmp_gt C 26 dX7_isLetter_19 (by decide) (fun c4 => ?_) (fun c4 => ?_)
    · replace hf := ite_t c4 hf
      refine z_iconst C 0 dX7_isLetter_26 (by decide) ?_
      cases hf
      exact z_zret C rfl nb0 dX7_isLetter_27
    · replace hf := ite_f c4 hf
      refine z_iconst C 1 dX7_isLetter_22 (by decide) ?_
      refine z_goto C 27 dX7_isLetter_23 (by decide) ?_
      cases hf
      exact z_zret C rfl nb1 dX7_isLetter_27
set_option maxHeartbeats 4000000 in
set_option maxRecDepth 100000 in
theorem wX7_nextToken_l5 (C : CX p s m args meth c cX7_nextToken 2 none RX7 G) (hs0 : s.heap.size = G.1 + K.1) (hL : Lay K) (hTp : Tp K) (k41 : MM → Int32 → Option MM) (pp : MM) (hk41 : ∀ (M6 : MM) (y7 : Int32), k41 M6 y7 = some pp → Z p l e (rmo 1 0 0) s m args below meth c 2 G (MQ below (QC G none K pp) args s 0 0 (AG G)) K 0 0 M6 41 [(0, .ref (G.1 + 41)), (1, .int y7)] []) : ∀ (n : Nat) (M3 : MM) (y4 : Int32) (hf : fX7_nextToken_l5 k41 n M3 y4 = some pp), Z p l e (rmo 1 0 0) s m args below meth c 2 G (MQ below (QC G none K pp) args s 0 0 (AG G)) K 0 0 M3 5 [(0, .ref (G.1 + 41)), (1, .int y4)] [] := by
  intro n
  induction n with
  | zero => intro M3 y4 hf; exact nomatch (show (none : Option MM) = some pp from hf)
  | succ n ih =>
    intro M3 y4 hf
    rw [fX7_nextToken_l5.eq_2] at hf
    refine z_iload_n C 1 1 dX7_nextToken_5 rfl rfl ?_
    refine z_aload_n C 0 0 dX7_nextToken_6 rfl rfl ?_
    refine z_getI C ok_X7 (lay_c41 hL) 7 (by decide) rfl q_fl_X7_53 dX7_nextToken_7 ?_
    refine z_icmp_ge C 41 dX7_nextToken_10 (by decide) (fun c5 => ?_) (fun c5 => ?_)
    · replace hf := ite_t c5 hf
      exact hk41 M3 y4  hf
    · replace hf := ite_f c5 hf
      refine z_aload_n C 0 0 dX7_nextToken_13 rfl rfl ?_
      refine z_getR C ok_X7 (lay_c41 hL) 6 (39) (by decide) rfl hTp q_fl_X7_43 dX7_nextToken_14 ?_
      refine z_iload_n C 1 1 dX7_nextToken_17 rfl rfl ?_
      replace hf := gd_out hf
      obtain ⟨g8, hf⟩ := hf
      refine z_bald C (lay_c39 hL) (inb_in g8) dX7_nextToken_18 ?_
      refine z_bipush C 10 dX7_nextToken_19 (by decide) ?_
      refine z_icmp_eq C 35 dX7_nextToken_21 (by decide) (fun c9 => ?_) (fun c9 => ?_)
      · replace hf := ite_t c9 hf
        refine z_iinc C 1 (y4 + 1) [(1, .int (y4 + 1)), (0, .ref (G.1 + 41))] dX7_nextToken_35 rfl rfl (by decide) rfl rfl ?_
        refine z_goto C 5 dX7_nextToken_38 (by decide) ?_
        refine z_lv (lv2 := [(0, .ref (G.1 + 41)), (1, .int (y4 + 1))]) [1, 0] rfl ?_
        exact ih M3 (y4 + 1)  hf
      · replace hf := ite_f c9 hf
        refine z_aload_n C 0 0 dX7_nextToken_24 rfl rfl ?_
        refine z_getR C ok_X7 (lay_c41 hL) 6 (39) (by decide) rfl hTp q_fl_X7_43 dX7_nextToken_25 ?_
        refine z_iload_n C 1 1 dX7_nextToken_28 rfl rfl ?_
        replace hf := gd_out hf
        obtain ⟨g10, hf⟩ := hf
        refine z_bald C (lay_c39 hL) (inb_in g10) dX7_nextToken_29 ?_
        refine z_bipush C 32 dX7_nextToken_30 (by decide) ?_
        refine z_icmp_ne C 41 dX7_nextToken_32 (by decide) (fun c11 => ?_) (fun c11 => ?_)
        · replace hf := ite_f c11 hf
          exact hk41 M3 y4  hf
        · replace hf := ite_t c11 hf
          refine z_iinc C 1 (y4 + 1) [(1, .int (y4 + 1)), (0, .ref (G.1 + 41))] dX7_nextToken_35 rfl rfl (by decide) rfl rfl ?_
          refine z_goto C 5 dX7_nextToken_38 (by decide) ?_
          refine z_lv (lv2 := [(0, .ref (G.1 + 41)), (1, .int (y4 + 1))]) [1, 0] rfl ?_
          exact ih M3 (y4 + 1)  hf
set_option maxHeartbeats 4000000 in
set_option maxRecDepth 100000 in
theorem wX7_nextToken_j175 (C : CX p s m args meth c cX7_nextToken 2 none RX7 G) (hs0 : s.heap.size = G.1 + K.1) (hL : Lay K) (hTp : Tp K)  (pp : MM)  (M32 : MM) (y33 : Int32) (hf : fX7_nextToken_j175 M32 y33 = some pp) : Z p l e (rmo 1 0 0) s m args below meth c 2 G (MQ below (QC G none K pp) args s 0 0 (AG G)) K 0 0 M32 175 [(0, .ref (G.1 + 41)), (1, .int y33)] [] := by
  unfold fX7_nextToken_j175 at hf
  refine z_aload_n C 0 0 dX7_nextToken_175 rfl rfl ?_
  refine z_iload_n C 1 1 dX7_nextToken_176 rfl rfl ?_
  refine z_putI C ok_X7 (lay_c41 hL) 10 (by decide) rfl rfl rfl rfl q_fl_X7_57 dX7_nextToken_177 ?_
  refine z_M (fun M34 e35 => ?_)
  replace hf := bnd_out e35 hf
  cases hf
  exact z_vret C rfl dX7_nextToken_180
set_option maxHeartbeats 4000000 in
set_option maxRecDepth 100000 in
theorem wX7_nextToken_j169 (C : CX p s m args meth c cX7_nextToken 2 none RX7 G) (hs0 : s.heap.size = G.1 + K.1) (hL : Lay K) (hTp : Tp K)  (pp : MM)  (M27 : MM) (y28 : Int32) (y29 : Int32) (hf : fX7_nextToken_j169 M27 y28 y29 = some pp) : Z p l e (rmo 1 0 0) s m args below meth c 2 G (MQ below (QC G none K pp) args s 0 0 (AG G)) K 0 0 M27 169 [(0, .ref (G.1 + 41)), (1, .int y28)] [.int y29, .ref (G.1 + 41)] := by
  unfold fX7_nextToken_j169 at hf
  refine z_putI C ok_X7 (lay_c41 hL) 8 (by decide) rfl rfl rfl rfl q_fl_X7_77 dX7_nextToken_169 ?_
  refine z_M (fun M30 e31 => ?_)
  replace hf := bnd_out e31 hf
  refine z_iinc C 1 (y28 + 1) [(1, .int (y28 + 1)), (0, .ref (G.1 + 41))] dX7_nextToken_172 rfl rfl (by decide) rfl rfl ?_
  refine z_lv (lv2 := [(0, .ref (G.1 + 41)), (1, .int (y28 + 1))]) [1, 0] rfl ?_
  exact wX7_nextToken_j175 C hs0 hL hTp pp M30 (y28 + 1) hf
set_option maxHeartbeats 4000000 in
set_option maxRecDepth 100000 in
theorem wX7_nextToken_l108 (C : CX p s m args meth c cX7_nextToken 2 none RX7 G) (hs0 : s.heap.size = G.1 + K.1) (hL : Lay K) (hTp : Tp K) (k130 : MM → Int32 → Option MM) (pp : MM) (hk130 : ∀ (M39 : MM) (y40 : Int32), k130 M39 y40 = some pp → Z p l e (rmo 1 0 0) s m args below meth c 2 G (MQ below (QC G none K pp) args s 0 0 (AG G)) K 0 0 M39 130 [(0, .ref (G.1 + 41)), (1, .int y40)] []) : ∀ (n : Nat) (M36 : MM) (y37 : Int32) (hf : fX7_nextToken_l108 k130 n M36 y37 = some pp), Z p l e (rmo 1 0 0) s m args below meth c 2 G (MQ below (QC G none K pp) args s 0 0 (AG G)) K 0 0 M36 108 [(0, .ref (G.1 + 41)), (1, .int y37)] [] := by
  intro n
  induction n with
  | zero => intro M36 y37 hf; exact nomatch (show (none : Option MM) = some pp from hf)
  | succ n ih =>
    intro M36 y37 hf
    rw [fX7_nextToken_l108.eq_2] at hf
    refine z_iload_n C 1 1 dX7_nextToken_108 rfl rfl ?_
    refine z_aload_n C 0 0 dX7_nextToken_109 rfl rfl ?_
    refine z_getI C ok_X7 (lay_c41 hL) 7 (by decide) rfl q_fl_X7_53 dX7_nextToken_110 ?_
    refine z_icmp_ge C 130 dX7_nextToken_113 (by decide) (fun c38 => ?_) (fun c38 => ?_)
    · replace hf := ite_t c38 hf
      exact hk130 M36 y37  hf
    · replace hf := ite_f c38 hf
      refine z_aload_n C 0 0 dX7_nextToken_116 rfl rfl ?_
      refine z_iload_n C 1 1 dX7_nextToken_117 rfl rfl ?_
      replace hf := bd_out hf
      obtain ⟨p41, e42, hf⟩ := hf
      refine z_cV1 C [] (tX7_isDigit l G hL hTp M36 y37 _ e42) lk_X7_isDigit ok_X7 (lay_c41 hL) q_ml_X7_241 rfl ⟨Nat.le_of_ble_eq_true rfl, Nat.le_of_ble_eq_true rfl⟩ rfl (Nat.le_of_ble_eq_true rfl) ⟨Nat.le_refl _, Nat.le_refl _⟩ dX7_nextToken_118 ?_
      refine z_if_eq C 130 dX7_nextToken_121 (by decide) (fun c43 => ?_) (fun c43 => ?_)
      · replace hf := ite_t c43 hf
        exact hk130 M36 y37  hf
      · replace hf := ite_f c43 hf
        refine z_iinc C 1 (y37 + 1) [(1, .int (y37 + 1)), (0, .ref (G.1 + 41))] dX7_nextToken_124 rfl rfl (by decide) rfl rfl ?_
        refine z_goto C 108 dX7_nextToken_127 (by decide) ?_
        refine z_lv (lv2 := [(0, .ref (G.1 + 41)), (1, .int (y37 + 1))]) [1, 0] rfl ?_
        exact ih M36 (y37 + 1)  hf
set_option maxHeartbeats 4000000 in
set_option maxRecDepth 100000 in
theorem wX7_nextToken_j146 (C : CX p s m args meth c cX7_nextToken 2 none RX7 G) (hs0 : s.heap.size = G.1 + K.1) (hL : Lay K) (hTp : Tp K)  (pp : MM)  (M49 : MM) (y50 : Int32) (y51 : Int32) (hf : fX7_nextToken_j146 M49 y50 y51 = some pp) : Z p l e (rmo 1 0 0) s m args below meth c 2 G (MQ below (QC G none K pp) args s 0 0 (AG G)) K 0 0 M49 146 [(0, .ref (G.1 + 41)), (1, .int y50)] [.int y51, .ref (G.1 + 41)] := by
  unfold fX7_nextToken_j146 at hf
  refine z_putI C ok_X7 (lay_c41 hL) 8 (by decide) rfl rfl rfl rfl q_fl_X7_77 dX7_nextToken_146 ?_
  refine z_M (fun M52 e53 => ?_)
  replace hf := bnd_out e53 hf
  refine z_goto C 175 dX7_nextToken_149 (by decide) ?_
  exact wX7_nextToken_j175 C hs0 hL hTp pp M52 y50 hf
set_option maxHeartbeats 4000000 in
set_option maxRecDepth 100000 in
theorem wX7_nextToken_j130 (C : CX p s m args meth c cX7_nextToken 2 none RX7 G) (hs0 : s.heap.size = G.1 + K.1) (hL : Lay K) (hTp : Tp K)  (pp : MM)  (M46 : MM) (y47 : Int32) (hf : fX7_nextToken_j130 M46 y47 = some pp) : Z p l e (rmo 1 0 0) s m args below meth c 2 G (MQ below (QC G none K pp) args s 0 0 (AG G)) K 0 0 M46 130 [(0, .ref (G.1 + 41)), (1, .int y47)] [] := by
  unfold fX7_nextToken_j130 at hf
  refine z_aload_n C 0 0 dX7_nextToken_130 rfl rfl ?_
  refine z_iload_n C 1 1 dX7_nextToken_131 rfl rfl ?_
  refine z_aload_n C 0 0 dX7_nextToken_132 rfl rfl ?_
  refine z_getI C ok_X7 (lay_c41 hL) 9 (by decide) rfl q_fl_X7_103 dX7_nextToken_133 ?_
  refine z_isub C dX7_nextToken_136 ?_
  refine z_iconst C 2 dX7_nextToken_137 (by decide) ?_
  refine z_icmp_gt C 145 dX7_nextToken_138 (by decide) (fun c48 => ?_) (fun c48 => ?_)
  · replace hf := ite_t c48 hf
    refine z_iconst C 4 dX7_nextToken_145 (by decide) ?_
    exact wX7_nextToken_j146 C hs0 hL hTp pp M46 y47 4 hf
  · replace hf := ite_f c48 hf
    refine z_iconst C 2 dX7_nextToken_141 (by decide) ?_
    refine z_goto C 146 dX7_nextToken_142 (by decide) ?_
    exact wX7_nextToken_j146 C hs0 hL hTp pp M46 y47 2 hf
set_option maxHeartbeats 4000000 in
set_option maxRecDepth 100000 in
theorem wX7_nextToken_l70 (C : CX p s m args meth c cX7_nextToken 2 none RX7 G) (hs0 : s.heap.size = G.1 + K.1) (hL : Lay K) (hTp : Tp K) (k92 : MM → Int32 → Option MM) (pp : MM) (hk92 : ∀ (M57 : MM) (y58 : Int32), k92 M57 y58 = some pp → Z p l e (rmo 1 0 0) s m args below meth c 2 G (MQ below (QC G none K pp) args s 0 0 (AG G)) K 0 0 M57 92 [(0, .ref (G.1 + 41)), (1, .int y58)] []) : ∀ (n : Nat) (M54 : MM) (y55 : Int32) (hf : fX7_nextToken_l70 k92 n M54 y55 = some pp), Z p l e (rmo 1 0 0) s m args below meth c 2 G (MQ below (QC G none K pp) args s 0 0 (AG G)) K 0 0 M54 70 [(0, .ref (G.1 + 41)), (1, .int y55)] [] := by
  intro n
  induction n with
  | zero => intro M54 y55 hf; exact nomatch (show (none : Option MM) = some pp from hf)
  | succ n ih =>
    intro M54 y55 hf
    rw [fX7_nextToken_l70.eq_2] at hf
    refine z_iload_n C 1 1 dX7_nextToken_70 rfl rfl ?_
    refine z_aload_n C 0 0 dX7_nextToken_71 rfl rfl ?_
    refine z_getI C ok_X7 (lay_c41 hL) 7 (by decide) rfl q_fl_X7_53 dX7_nextToken_72 ?_
    refine z_icmp_ge C 92 dX7_nextToken_75 (by decide) (fun c56 => ?_) (fun c56 => ?_)
    · replace hf := ite_t c56 hf
      exact hk92 M54 y55  hf
    · replace hf := ite_f c56 hf
      refine z_aload_n C 0 0 dX7_nextToken_78 rfl rfl ?_
      refine z_iload_n C 1 1 dX7_nextToken_79 rfl rfl ?_
      replace hf := bd_out hf
      obtain ⟨p59, e60, hf⟩ := hf
      refine z_cV1 C [] (tX7_isLetter l G hL hTp M54 y55 _ e60) lk_X7_isLetter ok_X7 (lay_c41 hL) q_ml_X7_238 rfl ⟨Nat.le_of_ble_eq_true rfl, Nat.le_of_ble_eq_true rfl⟩ rfl (Nat.le_of_ble_eq_true rfl) ⟨Nat.le_refl _, Nat.le_refl _⟩ dX7_nextToken_80 ?_
      refine z_if_eq C 92 dX7_nextToken_83 (by decide) (fun c61 => ?_) (fun c61 => ?_)
      · replace hf := ite_t c61 hf
        exact hk92 M54 y55  hf
      · replace hf := ite_f c61 hf
        refine z_iinc C 1 (y55 + 1) [(1, .int (y55 + 1)), (0, .ref (G.1 + 41))] dX7_nextToken_86 rfl rfl (by decide) rfl rfl ?_
        refine z_goto C 70 dX7_nextToken_89 (by decide) ?_
        refine z_lv (lv2 := [(0, .ref (G.1 + 41)), (1, .int (y55 + 1))]) [1, 0] rfl ?_
        exact ih M54 (y55 + 1)  hf
set_option maxHeartbeats 4000000 in
set_option maxRecDepth 100000 in
theorem wX7_nextToken_j92 (C : CX p s m args meth c cX7_nextToken 2 none RX7 G) (hs0 : s.heap.size = G.1 + K.1) (hL : Lay K) (hTp : Tp K)  (pp : MM)  (M64 : MM) (y65 : Int32) (hf : fX7_nextToken_j92 M64 y65 = some pp) : Z p l e (rmo 1 0 0) s m args below meth c 2 G (MQ below (QC G none K pp) args s 0 0 (AG G)) K 0 0 M64 92 [(0, .ref (G.1 + 41)), (1, .int y65)] [] := by
  unfold fX7_nextToken_j92 at hf
  refine z_aload_n C 0 0 dX7_nextToken_92 rfl rfl ?_
  refine z_iconst C 1 dX7_nextToken_93 (by decide) ?_
  refine z_putI C ok_X7 (lay_c41 hL) 8 (by decide) rfl rfl rfl rfl q_fl_X7_77 dX7_nextToken_94 ?_
  refine z_M (fun M66 e67 => ?_)
  replace hf := bnd_out e67 hf
  refine z_goto C 175 dX7_nextToken_97 (by decide) ?_
  exact wX7_nextToken_j175 C hs0 hL hTp pp M66 y65 hf
set_option maxHeartbeats 4000000 in
set_option maxRecDepth 100000 in
theorem wX7_nextToken_j41 (C : CX p s m args meth c cX7_nextToken 2 none RX7 G) (hs0 : s.heap.size = G.1 + K.1) (hL : Lay K) (hTp : Tp K)  (pp : MM)  (M14 : MM) (y15 : Int32) (hf : fX7_nextToken_j41 M14 y15 = some pp) : Z p l e (rmo 1 0 0) s m args below meth c 2 G (MQ below (QC G none K pp) args s 0 0 (AG G)) K 0 0 M14 41 [(0, .ref (G.1 + 41)), (1, .int y15)] [] := by
  unfold fX7_nextToken_j41 at hf
  refine z_aload_n C 0 0 dX7_nextToken_41 rfl rfl ?_
  refine z_iload_n C 1 1 dX7_nextToken_42 rfl rfl ?_
  refine z_putI C ok_X7 (lay_c41 hL) 9 (by decide) rfl rfl rfl rfl q_fl_X7_103 dX7_nextToken_43 ?_
  refine z_M (fun M16 e17 => ?_)
  replace hf := bnd_out e17 hf
  refine z_iload_n C 1 1 dX7_nextToken_46 rfl rfl ?_
  refine z_aload_n C 0 0 dX7_nextToken_47 rfl rfl ?_
  refine z_getI C ok_X7 (lay_c41 hL) 7 (by decide) rfl q_fl_X7_53 dX7_nextToken_48 ?_
  refine z_icmp_lt C 62 dX7_nextToken_51 (by decide) (fun c18 => ?_) (fun c18 => ?_)
  · replace hf := ite_t c18 hf
    refine z_aload_n C 0 0 dX7_nextToken_62 rfl rfl ?_
    refine z_iload_n C 1 1 dX7_nextToken_63 rfl rfl ?_
    replace hf := bd_out hf
    obtain ⟨p19, e20, hf⟩ := hf
    refine z_cV1 C [] (tX7_isLetter l G hL hTp M16 y15 _ e20) lk_X7_isLetter ok_X7 (lay_c41 hL) q_ml_X7_238 rfl ⟨Nat.le_of_ble_eq_true rfl, Nat.le_of_ble_eq_true rfl⟩ rfl (Nat.le_of_ble_eq_true rfl) ⟨Nat.le_refl _, Nat.le_refl _⟩ dX7_nextToken_64 ?_
    refine z_if_eq C 100 dX7_nextToken_67 (by decide) (fun c21 => ?_) (fun c21 => ?_)
    · replace hf := ite_t c21 hf
      refine z_aload_n C 0 0 dX7_nextToken_100 rfl rfl ?_
      refine z_iload_n C 1 1 dX7_nextToken_101 rfl rfl ?_
      replace hf := bd_out hf
      obtain ⟨p22, e23, hf⟩ := hf
      refine z_cV1 C [] (tX7_isDigit l G hL hTp M16 y15 _ e23) lk_X7_isDigit ok_X7 (lay_c41 hL) q_ml_X7_241 rfl ⟨Nat.le_of_ble_eq_true rfl, Nat.le_of_ble_eq_true rfl⟩ rfl (Nat.le_of_ble_eq_true rfl) ⟨Nat.le_refl _, Nat.le_refl _⟩ dX7_nextToken_102 ?_
      refine z_if_eq C 152 dX7_nextToken_105 (by decide) (fun c24 => ?_) (fun c24 => ?_)
      · replace hf := ite_t c24 hf
        refine z_aload_n C 0 0 dX7_nextToken_152 rfl rfl ?_
        refine z_aload_n C 0 0 dX7_nextToken_153 rfl rfl ?_
        refine z_getR C ok_X7 (lay_c41 hL) 6 (39) (by decide) rfl hTp q_fl_X7_43 dX7_nextToken_154 ?_
        refine z_iload_n C 1 1 dX7_nextToken_157 rfl rfl ?_
        replace hf := gd_out hf
        obtain ⟨g25, hf⟩ := hf
        refine z_bald C (lay_c39 hL) (inb_in g25) dX7_nextToken_158 ?_
        refine z_bipush C 59 dX7_nextToken_159 (by decide) ?_
        refine z_icmp_ne C 168 dX7_nextToken_161 (by decide) (fun c26 => ?_) (fun c26 => ?_)
        · replace hf := ite_f c26 hf
          refine z_iconst C 4 dX7_nextToken_168 (by decide) ?_
          exact wX7_nextToken_j169 C hs0 hL hTp pp M16 y15 4 hf
        · replace hf := ite_t c26 hf
          refine z_iconst C 3 dX7_nextToken_164 (by decide) ?_
          refine z_goto C 169 dX7_nextToken_165 (by decide) ?_
          exact wX7_nextToken_j169 C hs0 hL hTp pp M16 y15 3 hf
      · replace hf := ite_f c24 hf
        refine wX7_nextToken_l108 C hs0 hL hTp _ pp ?_ FU M16 y15 hf
        · intro M44 y45 hf
          exact wX7_nextToken_j130 C hs0 hL hTp pp M44 y45 hf
    · replace hf := ite_f c21 hf
      refine wX7_nextToken_l70 C hs0 hL hTp _ pp ?_ FU M16 y15 hf
      · intro M62 y63 hf
        exact wX7_nextToken_j92 C hs0 hL hTp pp M62 y63 hf
  · replace hf := ite_f c18 hf
    refine z_aload_n C 0 0 dX7_nextToken_54 rfl rfl ?_
    refine z_iconst C 0 dX7_nextToken_55 (by decide) ?_
    refine z_putI C ok_X7 (lay_c41 hL) 8 (by decide) rfl rfl rfl rfl q_fl_X7_77 dX7_nextToken_56 ?_
    refine z_M (fun M68 e69 => ?_)
    replace hf := bnd_out e69 hf
    refine z_goto C 175 dX7_nextToken_59 (by decide) ?_
    exact wX7_nextToken_j175 C hs0 hL hTp pp M68 y15 hf
set_option maxHeartbeats 4000000 in
set_option maxRecDepth 100000 in
theorem tX7_nextToken (l : Launch) (G : GG) {K : SK} (hL : Lay K) (hTp : Tp K) (M : MM)  (pp : MM) (hf : fX7_nextToken M = some pp) : Ct l yX7_nextToken cX7_nextToken 2 none 1 0 0 G K M [.ref (G.1 + 41)] none K pp := by
  refine z_enter (lv := [(0, .ref (G.1 + 41))]) (by decide +kernel) (Nat.le_of_ble_eq_true rfl) rfl ?_
  intro p e s m args below meth c C hnm hs0
  replace C : CX p s m args meth c cX7_nextToken 2 none RX7 G := C
  unfold fX7_nextToken at hf
  refine z_aload_n C 0 0 dX7_nextToken_0 rfl rfl ?_
  refine z_getI C ok_X7 (lay_c41 hL) 10 (by decide) rfl q_fl_X7_57 dX7_nextToken_1 ?_
  refine z_topi (fun v1 e2 => ?_)
  replace hf := bnd_out e2 hf
  refine z_istore_n C [(1, .int v1), (0, .ref (G.1 + 41))] dX7_nextToken_4 rfl (by decide) rfl rfl ?_
  refine z_lv (lv2 := [(0, .ref (G.1 + 41)), (1, .int v1)]) [1, 0] rfl ?_
  refine wX7_nextToken_l5 C hs0 hL hTp _ pp ?_ FU M v1 hf
  · intro M12 y13 hf
    exact wX7_nextToken_j41 C hs0 hL hTp pp M12 y13 hf
set_option maxHeartbeats 4000000 in
set_option maxRecDepth 100000 in
theorem wX7_isFull_j52 (C : CX p s m args meth c cX7_isFull 2 (some .boolean) RX7 G) (hs0 : s.heap.size = G.1 + K.1) (hL : Lay K) (hTp : Tp K) (M : MM)  (pp : Int32)  (y3 : Int32) (hf : fX7_isFull_j52 M y3 = pp) : Z p l e (rmo 0 0 0) s m args below meth c 2 G (MQ below (QC G (some (.int pp)) K M) args s 0 0 (AG G)) K 0 0 M 52 [(0, .ref (G.1 + 41)), (1, .int y3)] [] := by
  unfold fX7_isFull_j52 at hf
  refine z_iload_n C 1 1 dX7_isFull_52 rfl rfl ?_
  refine z_bipush C 13 dX7_isFull_53 (by decide) ?_
  refine z_icmp_lt C 80 dX7_isFull_55 (by decide) (fun c4 => ?_) (fun c4 => ?_)
  · replace hf := ite_t c4 hf
    refine z_iconst C 0 dX7_isFull_80 (by decide) ?_
    cases hf
    exact z_zret C rfl nb0 dX7_isFull_81
  · replace hf := ite_f c4 hf
    refine z_iload_n C 1 1 dX7_isFull_58 rfl rfl ?_
    refine z_bipush C 18 dX7_isFull_59 (by decide) ?_
    refine z_icmp_ge C 80 dX7_isFull_61 (by decide) (fun c5 => ?_) (fun c5 => ?_)
    · replace hf := ite_t c5 hf
      refine z_iconst C 0 dX7_isFull_80 (by decide) ?_
      cases hf
      exact z_zret C rfl nb0 dX7_isFull_81
    · replace hf := ite_f c5 hf
      refine z_aload_n C 0 0 dX7_isFull_64 rfl rfl ?_
      refine z_getR C ok_X7 (lay_c41 hL) 2 (52) (by decide) rfl (lay_r41_2 hL) q_fl_X7_28 dX7_isFull_65 ?_
      refine z_getI C ok_X2 (lay_c52 hL) 0 (by decide) rfl q_fl_X7_70 dX7_isFull_68 ?_
      refine z_bipush C 40 dX7_isFull_71 (by decide) ?_
      refine z_icmp_lt C 80 dX7_isFull_73 (by decide) (fun c6 => ?_) (fun c6 => ?_)
      · replace hf := ite_t c6 hf
        refine z_iconst C 0 dX7_isFull_80 (by decide) ?_
        cases hf
        exact z_zret C rfl nb0 dX7_isFull_81
      · replace hf := ite_f c6 hf
        refine z_iconst C 1 dX7_isFull_76 (by decide) ?_
        refine z_goto C 81 dX7_isFull_77 (by decide) ?_
        cases hf
        exact z_zret C rfl nb1 dX7_isFull_81
set_option maxHeartbeats 4000000 in
set_option maxRecDepth 100000 in
theorem tX7_isFull (l : Launch) (G : GG) {K : SK} (hL : Lay K) (hTp : Tp K) (M : MM) (x1 : Int32) : Ct l yX7_isFull cX7_isFull 2 (some .boolean) 0 0 0 G K M [.ref (G.1 + 41), .int x1] (some (.int (fX7_isFull M x1))) K M := by
  generalize hf : fX7_isFull M x1 = pp
  refine z_enter (lv := [(0, .ref (G.1 + 41)), (1, .int x1)]) (by decide +kernel) (Nat.le_of_ble_eq_true rfl) rfl ?_
  intro p e s m args below meth c C hnm hs0
  replace C : CX p s m args meth c cX7_isFull 2 (some .boolean) RX7 G := C
  unfold fX7_isFull at hf
  refine z_iload_n C 1 1 dX7_isFull_0 rfl rfl ?_
  refine z_iconst C 2 dX7_isFull_1 (by decide) ?_
  refine z_icmp_ne C 23 dX7_isFull_2 (by decide) (fun c1 => ?_) (fun c1 => ?_)
  · replace hf := ite_f c1 hf
    refine z_iload_n C 1 1 dX7_isFull_23 rfl rfl ?_
    refine z_iconst C 3 dX7_isFull_24 (by decide) ?_
    refine z_icmp_lt C 52 dX7_isFull_25 (by decide) (fun c2 => ?_) (fun c2 => ?_)
    · replace hf := ite_t c2 hf
      exact wX7_isFull_j52 C hs0 hL hTp M pp x1 hf
    · replace hf := ite_f c2 hf
      refine z_iload_n C 1 1 dX7_isFull_28 rfl rfl ?_
      refine z_bipush C 6 dX7_isFull_29 (by decide) ?_
      refine z_icmp_gt C 52 dX7_isFull_31 (by decide) (fun c7 => ?_) (fun c7 => ?_)
      · replace hf := ite_t c7 hf
        exact wX7_isFull_j52 C hs0 hL hTp M pp x1 hf
      · replace hf := ite_f c7 hf
        refine z_aload_n C 0 0 dX7_isFull_34 rfl rfl ?_
        refine z_getR C ok_X7 (lay_c41 hL) 0 (42) (by decide) rfl (lay_r41_0 hL) q_fl_X7_12 dX7_isFull_35 ?_
        refine z_getI C ok_X5 (lay_c42 hL) 3 (by decide) rfl q_fl_X7_130 dX7_isFull_38 ?_
        refine z_bipush C 8 dX7_isFull_41 (by decide) ?_
        refine z_icmp_lt C 50 dX7_isFull_43 (by decide) (fun c8 => ?_) (fun c8 => ?_)
        · replace hf := ite_t c8 hf
          refine z_iconst C 0 dX7_isFull_50 (by decide) ?_
          cases hf
          exact z_zret C rfl nb0 dX7_isFull_51
        · replace hf := ite_f c8 hf
          refine z_iconst C 1 dX7_isFull_46 (by decide) ?_
          refine z_goto C 51 dX7_isFull_47 (by decide) ?_
          cases hf
          exact z_zret C rfl nb1 dX7_isFull_51
  · replace hf := ite_t c1 hf
    refine z_aload_n C 0 0 dX7_isFull_5 rfl rfl ?_
    refine z_getR C ok_X7 (lay_c41 hL) 0 (42) (by decide) rfl (lay_r41_0 hL) q_fl_X7_12 dX7_isFull_6 ?_
    refine z_getI C ok_X5 (lay_c42 hL) 2 (by decide) rfl q_fl_X7_127 dX7_isFull_9 ?_
    refine z_bipush C 8 dX7_isFull_12 (by decide) ?_
    refine z_icmp_lt C 21 dX7_isFull_14 (by decide) (fun c9 => ?_) (fun c9 => ?_)
    · replace hf := ite_t c9 hf
      refine z_iconst C 0 dX7_isFull_21 (by decide) ?_
      cases hf
      exact z_zret C rfl nb0 dX7_isFull_22
    · replace hf := ite_f c9 hf
      refine z_iconst C 1 dX7_isFull_17 (by decide) ?_
      refine z_goto C 22 dX7_isFull_18 (by decide) ?_
      cases hf
      exact z_zret C rfl nb1 dX7_isFull_22
set_option maxHeartbeats 4000000 in
set_option maxRecDepth 100000 in
theorem wX7_keepOfLaw_j90 (C : CX p s m args meth c cX7_keepOfLaw 2 none RX7 G) (hs0 : s.heap.size = G.1 + K.1) (hL : Lay K) (hTp : Tp K)  (pp : MM)  (M14 : MM) (y15 : Int32) (hf : fX7_keepOfLaw_j90 M14 y15 = some pp) : Z p l e (rmo 0 0 0) s m args below meth c 2 G (MQ below (QC G none K pp) args s 0 0 (AG G)) K 0 0 M14 90 [(0, .ref (G.1 + 41)), (1, .int y15)] [] := by
  unfold fX7_keepOfLaw_j90 at hf
  refine z_iload_n C 1 1 dX7_keepOfLaw_90 rfl rfl ?_
  refine z_bipush C 12 dX7_keepOfLaw_91 (by decide) ?_
  refine z_icmp_ne C 114 dX7_keepOfLaw_93 (by decide) (fun c16 => ?_) (fun c16 => ?_)
  · replace hf := ite_f c16 hf
    cases hf
    exact z_vret C rfl dX7_keepOfLaw_114
  · replace hf := ite_t c16 hf
    refine z_aload_n C 0 0 dX7_keepOfLaw_96 rfl rfl ?_
    refine z_getR C ok_X7 (lay_c41 hL) 1 (51) (by decide) rfl (lay_r41_1 hL) q_fl_X7_21 dX7_keepOfLaw_97 ?_
    refine z_dup C rfl dX7_keepOfLaw_100 ?_
    refine z_getI C ok_X4 (lay_c51 hL) 2 (by decide) rfl q_fl_X7_181 dX7_keepOfLaw_101 ?_
    refine z_iconst C 1 dX7_keepOfLaw_104 (by decide) ?_
    refine z_aload_n C 0 0 dX7_keepOfLaw_105 rfl rfl ?_
    refine z_getI C ok_X7 (lay_c41 hL) 11 (by decide) rfl q_fl_X7_109 dX7_keepOfLaw_106 ?_
    refine z_ishl C dX7_keepOfLaw_109 ?_
    refine z_ior C dX7_keepOfLaw_110 ?_
    refine z_putI C ok_X4 (lay_c51 hL) 2 (by decide) rfl rfl rfl rfl q_fl_X7_181 dX7_keepOfLaw_111 ?_
    refine z_M (fun M17 e18 => ?_)
    replace hf := bnd_out e18 hf
    cases hf
    exact z_vret C rfl dX7_keepOfLaw_114
set_option maxHeartbeats 4000000 in
set_option maxRecDepth 100000 in
theorem wX7_keepOfLaw_j76 (C : CX p s m args meth c cX7_keepOfLaw 2 none RX7 G) (hs0 : s.heap.size = G.1 + K.1) (hL : Lay K) (hTp : Tp K)  (pp : MM)  (M11 : MM) (y12 : Int32) (hf : fX7_keepOfLaw_j76 M11 y12 = some pp) : Z p l e (rmo 0 0 0) s m args below meth c 2 G (MQ below (QC G none K pp) args s 0 0 (AG G)) K 0 0 M11 76 [(0, .ref (G.1 + 41)), (1, .int y12)] [] := by
  unfold fX7_keepOfLaw_j76 at hf
  refine z_iload_n C 1 1 dX7_keepOfLaw_76 rfl rfl ?_
  refine z_bipush C 11 dX7_keepOfLaw_77 (by decide) ?_
  refine z_icmp_ne C 90 dX7_keepOfLaw_79 (by decide) (fun c13 => ?_) (fun c13 => ?_)
  · replace hf := ite_f c13 hf
    exact wX7_keepOfLaw_j90 C hs0 hL hTp pp M11 y12 hf
  · replace hf := ite_t c13 hf
    refine z_aload_n C 0 0 dX7_keepOfLaw_82 rfl rfl ?_
    refine z_getR C ok_X7 (lay_c41 hL) 1 (51) (by decide) rfl (lay_r41_1 hL) q_fl_X7_21 dX7_keepOfLaw_83 ?_
    refine z_iconst C 0 dX7_keepOfLaw_86 (by decide) ?_
    refine z_putI C ok_X4 (lay_c51 hL) 1 (by decide) rfl rfl (by decide) (by decide) q_fl_X7_177 dX7_keepOfLaw_87 ?_
    refine z_M (fun M19 e20 => ?_)
    replace hf := bnd_out e20 hf
    exact wX7_keepOfLaw_j90 C hs0 hL hTp pp M19 y12 hf
set_option maxHeartbeats 4000000 in
set_option maxRecDepth 100000 in
theorem wX7_keepOfLaw_j57 (C : CX p s m args meth c cX7_keepOfLaw 2 none RX7 G) (hs0 : s.heap.size = G.1 + K.1) (hL : Lay K) (hTp : Tp K)  (pp : MM)  (M8 : MM) (y9 : Int32) (hf : fX7_keepOfLaw_j57 M8 y9 = some pp) : Z p l e (rmo 0 0 0) s m args below meth c 2 G (MQ below (QC G none K pp) args s 0 0 (AG G)) K 0 0 M8 57 [(0, .ref (G.1 + 41)), (1, .int y9)] [] := by
  unfold fX7_keepOfLaw_j57 at hf
  refine z_iload_n C 1 1 dX7_keepOfLaw_57 rfl rfl ?_
  refine z_bipush C 10 dX7_keepOfLaw_58 (by decide) ?_
  refine z_icmp_ne C 76 dX7_keepOfLaw_60 (by decide) (fun c10 => ?_) (fun c10 => ?_)
  · replace hf := ite_f c10 hf
    exact wX7_keepOfLaw_j76 C hs0 hL hTp pp M8 y9 hf
  · replace hf := ite_t c10 hf
    refine z_aload_n C 0 0 dX7_keepOfLaw_63 rfl rfl ?_
    refine z_getR C ok_X7 (lay_c41 hL) 1 (51) (by decide) rfl (lay_r41_1 hL) q_fl_X7_21 dX7_keepOfLaw_64 ?_
    refine z_aload_n C 0 0 dX7_keepOfLaw_67 rfl rfl ?_
    refine z_getR C ok_X7 (lay_c41 hL) 12 (58) (by decide) rfl (lay_r41_12 hL) q_fl_X7_39 dX7_keepOfLaw_68 ?_
    refine z_iconst C 0 dX7_keepOfLaw_71 (by decide) ?_
    refine z_iald C (lay_c58 hL) (inb_in (by decide)) dX7_keepOfLaw_72 ?_
    refine z_putI C ok_X4 (lay_c51 hL) 5 (by decide) rfl rfl rfl rfl q_fl_X7_174 dX7_keepOfLaw_73 ?_
    refine z_M (fun M21 e22 => ?_)
    replace hf := bnd_out e22 hf
    exact wX7_keepOfLaw_j76 C hs0 hL hTp pp M21 y9 hf
set_option maxHeartbeats 4000000 in
set_option maxRecDepth 100000 in
theorem wX7_keepOfLaw_j38 (C : CX p s m args meth c cX7_keepOfLaw 2 none RX7 G) (hs0 : s.heap.size = G.1 + K.1) (hL : Lay K) (hTp : Tp K)  (pp : MM)  (M5 : MM) (y6 : Int32) (hf : fX7_keepOfLaw_j38 M5 y6 = some pp) : Z p l e (rmo 0 0 0) s m args below meth c 2 G (MQ below (QC G none K pp) args s 0 0 (AG G)) K 0 0 M5 38 [(0, .ref (G.1 + 41)), (1, .int y6)] [] := by
  unfold fX7_keepOfLaw_j38 at hf
  refine z_iload_n C 1 1 dX7_keepOfLaw_38 rfl rfl ?_
  refine z_bipush C 9 dX7_keepOfLaw_39 (by decide) ?_
  refine z_icmp_ne C 57 dX7_keepOfLaw_41 (by decide) (fun c7 => ?_) (fun c7 => ?_)
  · replace hf := ite_f c7 hf
    exact wX7_keepOfLaw_j57 C hs0 hL hTp pp M5 y6 hf
  · replace hf := ite_t c7 hf
    refine z_aload_n C 0 0 dX7_keepOfLaw_44 rfl rfl ?_
    refine z_getR C ok_X7 (lay_c41 hL) 1 (51) (by decide) rfl (lay_r41_1 hL) q_fl_X7_21 dX7_keepOfLaw_45 ?_
    refine z_aload_n C 0 0 dX7_keepOfLaw_48 rfl rfl ?_
    refine z_getR C ok_X7 (lay_c41 hL) 12 (58) (by decide) rfl (lay_r41_12 hL) q_fl_X7_39 dX7_keepOfLaw_49 ?_
    refine z_iconst C 0 dX7_keepOfLaw_52 (by decide) ?_
    refine z_iald C (lay_c58 hL) (inb_in (by decide)) dX7_keepOfLaw_53 ?_
    refine z_putI C ok_X4 (lay_c51 hL) 4 (by decide) rfl rfl rfl rfl q_fl_X7_171 dX7_keepOfLaw_54 ?_
    refine z_M (fun M23 e24 => ?_)
    replace hf := bnd_out e24 hf
    exact wX7_keepOfLaw_j57 C hs0 hL hTp pp M23 y6 hf
set_option maxHeartbeats 4000000 in
set_option maxRecDepth 100000 in
theorem wX7_keepOfLaw_j19 (C : CX p s m args meth c cX7_keepOfLaw 2 none RX7 G) (hs0 : s.heap.size = G.1 + K.1) (hL : Lay K) (hTp : Tp K)  (pp : MM)  (M2 : MM) (y3 : Int32) (hf : fX7_keepOfLaw_j19 M2 y3 = some pp) : Z p l e (rmo 0 0 0) s m args below meth c 2 G (MQ below (QC G none K pp) args s 0 0 (AG G)) K 0 0 M2 19 [(0, .ref (G.1 + 41)), (1, .int y3)] [] := by
  unfold fX7_keepOfLaw_j19 at hf
  refine z_iload_n C 1 1 dX7_keepOfLaw_19 rfl rfl ?_
  refine z_bipush C 8 dX7_keepOfLaw_20 (by decide) ?_
  refine z_icmp_ne C 38 dX7_keepOfLaw_22 (by decide) (fun c4 => ?_) (fun c4 => ?_)
  · replace hf := ite_f c4 hf
    exact wX7_keepOfLaw_j38 C hs0 hL hTp pp M2 y3 hf
  · replace hf := ite_t c4 hf
    refine z_aload_n C 0 0 dX7_keepOfLaw_25 rfl rfl ?_
    refine z_getR C ok_X7 (lay_c41 hL) 1 (51) (by decide) rfl (lay_r41_1 hL) q_fl_X7_21 dX7_keepOfLaw_26 ?_
    refine z_aload_n C 0 0 dX7_keepOfLaw_29 rfl rfl ?_
    refine z_getR C ok_X7 (lay_c41 hL) 12 (58) (by decide) rfl (lay_r41_12 hL) q_fl_X7_39 dX7_keepOfLaw_30 ?_
    refine z_iconst C 0 dX7_keepOfLaw_33 (by decide) ?_
    refine z_iald C (lay_c58 hL) (inb_in (by decide)) dX7_keepOfLaw_34 ?_
    refine z_putI C ok_X4 (lay_c51 hL) 3 (by decide) rfl rfl rfl rfl q_fl_X7_168 dX7_keepOfLaw_35 ?_
    refine z_M (fun M25 e26 => ?_)
    replace hf := bnd_out e26 hf
    exact wX7_keepOfLaw_j38 C hs0 hL hTp pp M25 y3 hf
set_option maxHeartbeats 4000000 in
set_option maxRecDepth 100000 in
theorem tX7_keepOfLaw (l : Launch) (G : GG) {K : SK} (hL : Lay K) (hTp : Tp K) (M : MM) (x1 : Int32) (pp : MM) (hf : fX7_keepOfLaw M x1 = some pp) : Ct l yX7_keepOfLaw cX7_keepOfLaw 2 none 0 0 0 G K M [.ref (G.1 + 41), .int x1] none K pp := by
  refine z_enter (lv := [(0, .ref (G.1 + 41)), (1, .int x1)]) (by decide +kernel) (Nat.le_of_ble_eq_true rfl) rfl ?_
  intro p e s m args below meth c C hnm hs0
  replace C : CX p s m args meth c cX7_keepOfLaw 2 none RX7 G := C
  unfold fX7_keepOfLaw at hf
  refine z_iload_n C 1 1 dX7_keepOfLaw_0 rfl rfl ?_
  refine z_bipush C 7 dX7_keepOfLaw_1 (by decide) ?_
  refine z_icmp_ne C 19 dX7_keepOfLaw_3 (by decide) (fun c1 => ?_) (fun c1 => ?_)
  · replace hf := ite_f c1 hf
    exact wX7_keepOfLaw_j19 C hs0 hL hTp pp M x1 hf
  · replace hf := ite_t c1 hf
    refine z_aload_n C 0 0 dX7_keepOfLaw_6 rfl rfl ?_
    refine z_getR C ok_X7 (lay_c41 hL) 1 (51) (by decide) rfl (lay_r41_1 hL) q_fl_X7_21 dX7_keepOfLaw_7 ?_
    refine z_aload_n C 0 0 dX7_keepOfLaw_10 rfl rfl ?_
    refine z_getR C ok_X7 (lay_c41 hL) 12 (58) (by decide) rfl (lay_r41_12 hL) q_fl_X7_39 dX7_keepOfLaw_11 ?_
    refine z_iconst C 0 dX7_keepOfLaw_14 (by decide) ?_
    refine z_iald C (lay_c58 hL) (inb_in (by decide)) dX7_keepOfLaw_15 ?_
    refine z_putI C ok_X4 (lay_c51 hL) 0 (by decide) rfl rfl rfl rfl q_fl_X7_165 dX7_keepOfLaw_16 ?_
    refine z_M (fun M27 e28 => ?_)
    replace hf := bnd_out e28 hf
    exact wX7_keepOfLaw_j19 C hs0 hL hTp pp M27 x1 hf
set_option maxHeartbeats 4000000 in
set_option maxRecDepth 100000 in
theorem tX7_keepOfParish (l : Launch) (G : GG) {K : SK} (hL : Lay K) (hTp : Tp K) (M : MM) (x1 : Int32) (pp : MM) (hf : fX7_keepOfParish M x1 = some pp) : Ct l yX7_keepOfParish cX7_keepOfParish 2 none 1 0 0 G K M [.ref (G.1 + 41), .int x1] none K pp := by
  refine z_enter (lv := [(0, .ref (G.1 + 41)), (1, .int x1)]) (by decide +kernel) (Nat.le_of_ble_eq_true rfl) rfl ?_
  intro p e s m args below meth c C hnm hs0
  replace C : CX p s m args meth c cX7_keepOfParish 2 none RX7 G := C
  unfold fX7_keepOfParish at hf
  refine z_iload_n C 1 1 dX7_keepOfParish_0 rfl rfl ?_
  refine z_if_ne C 33 dX7_keepOfParish_1 (by decide) (fun c1 => ?_) (fun c1 => ?_)
  · replace hf := ite_f c1 hf
    refine z_iload_n C 1 1 dX7_keepOfParish_33 rfl rfl ?_
    refine z_iconst C 1 dX7_keepOfParish_34 (by decide) ?_
    refine z_icmp_ne C 52 dX7_keepOfParish_35 (by decide) (fun c2 => ?_) (fun c2 => ?_)
    · replace hf := ite_f c2 hf
      refine z_iload_n C 1 1 dX7_keepOfParish_52 rfl rfl ?_
      refine z_iconst C 2 dX7_keepOfParish_53 (by decide) ?_
      refine z_icmp_ne C 71 dX7_keepOfParish_54 (by decide) (fun c3 => ?_) (fun c3 => ?_)
      · replace hf := ite_f c3 hf
        refine z_aload_n C 0 0 dX7_keepOfParish_71 rfl rfl ?_
        refine z_getR C ok_X7 (lay_c41 hL) 0 (42) (by decide) rfl (lay_r41_0 hL) q_fl_X7_12 dX7_keepOfParish_72 ?_
        refine z_iload_n C 1 1 dX7_keepOfParish_75 rfl rfl ?_
        refine z_iconst C 3 dX7_keepOfParish_76 (by decide) ?_
        refine z_isub C dX7_keepOfParish_77 ?_
        refine z_aload_n C 0 0 dX7_keepOfParish_78 rfl rfl ?_
        refine z_getR C ok_X7 (lay_c41 hL) 12 (58) (by decide) rfl (lay_r41_12 hL) q_fl_X7_39 dX7_keepOfParish_79 ?_
        replace hf := bd_out hf
        obtain ⟨p4, e5, hf⟩ := hf
        refine z_cV0 C [] (tX5_addShine l G hL M (x1 - 3) _ e5) lk_X5_addShine ok_X5 (lay_c42 hL) q_ml_X7_162 rfl ⟨Nat.le_of_ble_eq_true rfl, Nat.le_of_ble_eq_true rfl⟩ rfl (Nat.le_of_ble_eq_true rfl) ⟨Nat.le_refl _, Nat.le_refl _⟩ dX7_keepOfParish_82 ?_
        cases hf
        exact z_vret C rfl dX7_keepOfParish_85
      · replace hf := ite_t c3 hf
        refine z_aload_n C 0 0 dX7_keepOfParish_57 rfl rfl ?_
        refine z_getR C ok_X7 (lay_c41 hL) 0 (42) (by decide) rfl (lay_r41_0 hL) q_fl_X7_12 dX7_keepOfParish_58 ?_
        refine z_aload_n C 0 0 dX7_keepOfParish_61 rfl rfl ?_
        refine z_getR C ok_X7 (lay_c41 hL) 12 (58) (by decide) rfl (lay_r41_12 hL) q_fl_X7_39 dX7_keepOfParish_62 ?_
        replace hf := bd_out hf
        obtain ⟨p6, e7, hf⟩ := hf
        refine z_cV0 C [] (tX5_addPerson l G hL M  _ e7) lk_X5_addPerson ok_X5 (lay_c42 hL) q_ml_X7_159 rfl ⟨Nat.le_of_ble_eq_true rfl, Nat.le_of_ble_eq_true rfl⟩ rfl (Nat.le_of_ble_eq_true rfl) ⟨Nat.le_refl _, Nat.le_refl _⟩ dX7_keepOfParish_65 ?_
        refine z_goto C 85 dX7_keepOfParish_68 (by decide) ?_
        cases hf
        exact z_vret C rfl dX7_keepOfParish_85
    · replace hf := ite_t c2 hf
      refine z_aload_n C 0 0 dX7_keepOfParish_38 rfl rfl ?_
      refine z_getR C ok_X7 (lay_c41 hL) 0 (42) (by decide) rfl (lay_r41_0 hL) q_fl_X7_12 dX7_keepOfParish_39 ?_
      refine z_aload_n C 0 0 dX7_keepOfParish_42 rfl rfl ?_
      refine z_getR C ok_X7 (lay_c41 hL) 12 (58) (by decide) rfl (lay_r41_12 hL) q_fl_X7_39 dX7_keepOfParish_43 ?_
      replace hf := bd_out hf
      obtain ⟨p8, e9, hf⟩ := hf
      refine z_cV0 C [] (tX5_addWall l G hL M  _ e9) lk_X5_addWall ok_X5 (lay_c42 hL) q_ml_X7_155 rfl ⟨Nat.le_of_ble_eq_true rfl, Nat.le_of_ble_eq_true rfl⟩ rfl (Nat.le_of_ble_eq_true rfl) ⟨Nat.le_refl _, Nat.le_refl _⟩ dX7_keepOfParish_46 ?_
      refine z_goto C 85 dX7_keepOfParish_49 (by decide) ?_
      cases hf
      exact z_vret C rfl dX7_keepOfParish_85
  · replace hf := ite_t c1 hf
    refine z_aload_n C 0 0 dX7_keepOfParish_4 rfl rfl ?_
    refine z_getR C ok_X7 (lay_c41 hL) 0 (42) (by decide) rfl (lay_r41_0 hL) q_fl_X7_12 dX7_keepOfParish_5 ?_
    refine z_aload_n C 0 0 dX7_keepOfParish_8 rfl rfl ?_
    refine z_getR C ok_X7 (lay_c41 hL) 12 (58) (by decide) rfl (lay_r41_12 hL) q_fl_X7_39 dX7_keepOfParish_9 ?_
    refine z_iconst C 0 dX7_keepOfParish_12 (by decide) ?_
    refine z_iald C (lay_c58 hL) (inb_in (by decide)) dX7_keepOfParish_13 ?_
    refine z_putI C ok_X5 (lay_c42 hL) 0 (by decide) rfl rfl rfl rfl q_fl_X7_149 dX7_keepOfParish_14 ?_
    refine z_M (fun M10 e11 => ?_)
    replace hf := bnd_out e11 hf
    refine z_aload_n C 0 0 dX7_keepOfParish_17 rfl rfl ?_
    refine z_getR C ok_X7 (lay_c41 hL) 0 (42) (by decide) rfl (lay_r41_0 hL) q_fl_X7_12 dX7_keepOfParish_18 ?_
    refine z_aload_n C 0 0 dX7_keepOfParish_21 rfl rfl ?_
    refine z_getR C ok_X7 (lay_c41 hL) 12 (58) (by decide) rfl (lay_r41_12 hL) q_fl_X7_39 dX7_keepOfParish_22 ?_
    refine z_iconst C 1 dX7_keepOfParish_25 (by decide) ?_
    refine z_iald C (lay_c58 hL) (inb_in (by decide)) dX7_keepOfParish_26 ?_
    refine z_putI C ok_X5 (lay_c42 hL) 1 (by decide) rfl rfl rfl rfl q_fl_X7_152 dX7_keepOfParish_27 ?_
    refine z_M (fun M12 e13 => ?_)
    replace hf := bnd_out e13 hf
    refine z_goto C 85 dX7_keepOfParish_30 (by decide) ?_
    cases hf
    exact z_vret C rfl dX7_keepOfParish_85
set_option maxHeartbeats 4000000 in
set_option maxRecDepth 100000 in
theorem tX7_keep (l : Launch) (G : GG) {K : SK} (hL : Lay K) (hTp : Tp K) (M : MM) (x1 : Int32) (pp : MM) (hf : fX7_keep M x1 = some pp) : Ct l yX7_keep cX7_keep 2 none 2 0 0 G K M [.ref (G.1 + 41), .int x1] none K pp := by
  refine z_enter (lv := [(0, .ref (G.1 + 41)), (1, .int x1)]) (by decide +kernel) (Nat.le_of_ble_eq_true rfl) rfl ?_
  intro p e s m args below meth c C hnm hs0
  replace C : CX p s m args meth c cX7_keep 2 none RX7 G := C
  unfold fX7_keep at hf
  refine z_iload_n C 1 1 dX7_keep_0 rfl rfl ?_
  refine z_bipush C 6 dX7_keep_1 (by decide) ?_
  refine z_icmp_gt C 14 dX7_keep_3 (by decide) (fun c1 => ?_) (fun c1 => ?_)
  · replace hf := ite_t c1 hf
    refine z_iload_n C 1 1 dX7_keep_14 rfl rfl ?_
    refine z_bipush C 12 dX7_keep_15 (by decide) ?_
    refine z_icmp_gt C 28 dX7_keep_17 (by decide) (fun c2 => ?_) (fun c2 => ?_)
    · replace hf := ite_t c2 hf
      refine z_iload_n C 1 1 dX7_keep_28 rfl rfl ?_
      refine z_bipush C 18 dX7_keep_29 (by decide) ?_
      refine z_icmp_ge C 52 dX7_keep_31 (by decide) (fun c3 => ?_) (fun c3 => ?_)
      · replace hf := ite_t c3 hf
        refine z_iload_n C 1 1 dX7_keep_52 rfl rfl ?_
        refine z_bipush C 19 dX7_keep_53 (by decide) ?_
        refine z_icmp_ne C 74 dX7_keep_55 (by decide) (fun c4 => ?_) (fun c4 => ?_)
        · replace hf := ite_f c4 hf
          refine z_aload_n C 0 0 dX7_keep_74 rfl rfl ?_
          refine z_getR C ok_X7 (lay_c41 hL) 12 (58) (by decide) rfl (lay_r41_12 hL) q_fl_X7_39 dX7_keep_75 ?_
          refine z_iconst C 0 dX7_keep_78 (by decide) ?_
          refine z_iald C (lay_c58 hL) (inb_in (by decide)) dX7_keep_79 ?_
          refine z_if_lt C 114 dX7_keep_80 (by decide) (fun c5 => ?_) (fun c5 => ?_)
          · replace hf := ite_t c5 hf
            cases hf
            exact z_vret C rfl dX7_keep_114
          · replace hf := ite_f c5 hf
            refine z_aload_n C 0 0 dX7_keep_83 rfl rfl ?_
            refine z_getR C ok_X7 (lay_c41 hL) 12 (58) (by decide) rfl (lay_r41_12 hL) q_fl_X7_39 dX7_keep_84 ?_
            refine z_iconst C 0 dX7_keep_87 (by decide) ?_
            refine z_iald C (lay_c58 hL) (inb_in (by decide)) dX7_keep_88 ?_
            refine z_bipush C 8 dX7_keep_89 (by decide) ?_
            refine z_icmp_ge C 114 dX7_keep_91 (by decide) (fun c6 => ?_) (fun c6 => ?_)
            · replace hf := ite_t c6 hf
              cases hf
              exact z_vret C rfl dX7_keep_114
            · replace hf := ite_f c6 hf
              refine z_aload_n C 0 0 dX7_keep_94 rfl rfl ?_
              refine z_getR C ok_X7 (lay_c41 hL) 3 (56) (by decide) rfl (lay_r41_3 hL) q_fl_X7_35 dX7_keep_95 ?_
              refine z_getR C ok_X8 (lay_c56 hL) 1 (57) (by decide) rfl (lay_r56_1 hL) q_fl_X7_146 dX7_keep_98 ?_
              refine z_aload_n C 0 0 dX7_keep_101 rfl rfl ?_
              refine z_getR C ok_X7 (lay_c41 hL) 12 (58) (by decide) rfl (lay_r41_12 hL) q_fl_X7_39 dX7_keep_102 ?_
              refine z_iconst C 0 dX7_keep_105 (by decide) ?_
              refine z_iald C (lay_c58 hL) (inb_in (by decide)) dX7_keep_106 ?_
              refine z_aload_n C 0 0 dX7_keep_107 rfl rfl ?_
              refine z_getR C ok_X7 (lay_c41 hL) 12 (58) (by decide) rfl (lay_r41_12 hL) q_fl_X7_39 dX7_keep_108 ?_
              refine z_iconst C 1 dX7_keep_111 (by decide) ?_
              refine z_iald C (lay_c58 hL) (inb_in (by decide)) dX7_keep_112 ?_
              replace hf := gd_out hf
              obtain ⟨g7, hf⟩ := hf
              refine z_iast C (lay_c57 hL) (inb_in g7) dX7_keep_113 ?_
              refine z_M (fun M8 e9 => ?_)
              replace hf := bnd_out e9 hf
              cases hf
              exact z_vret C rfl dX7_keep_114
        · replace hf := ite_t c4 hf
          refine z_aload_n C 0 0 dX7_keep_58 rfl rfl ?_
          refine z_getR C ok_X7 (lay_c41 hL) 3 (56) (by decide) rfl (lay_r41_3 hL) q_fl_X7_35 dX7_keep_59 ?_
          refine z_aload_n C 0 0 dX7_keep_62 rfl rfl ?_
          refine z_getR C ok_X7 (lay_c41 hL) 12 (58) (by decide) rfl (lay_r41_12 hL) q_fl_X7_39 dX7_keep_63 ?_
          refine z_iconst C 0 dX7_keep_66 (by decide) ?_
          refine z_iald C (lay_c58 hL) (inb_in (by decide)) dX7_keep_67 ?_
          refine z_putI C ok_X8 (lay_c56 hL) 0 (by decide) rfl rfl rfl rfl q_fl_X7_143 dX7_keep_68 ?_
          refine z_M (fun M10 e11 => ?_)
          replace hf := bnd_out e11 hf
          refine z_goto C 114 dX7_keep_71 (by decide) ?_
          cases hf
          exact z_vret C rfl dX7_keep_114
      · replace hf := ite_f c3 hf
        refine z_aload_n C 0 0 dX7_keep_34 rfl rfl ?_
        refine z_getR C ok_X7 (lay_c41 hL) 2 (52) (by decide) rfl (lay_r41_2 hL) q_fl_X7_28 dX7_keep_35 ?_
        refine z_iload_n C 1 1 dX7_keep_38 rfl rfl ?_
        refine z_bipush C 13 dX7_keep_39 (by decide) ?_
        refine z_isub C dX7_keep_41 ?_
        refine z_aload_n C 0 0 dX7_keep_42 rfl rfl ?_
        refine z_getR C ok_X7 (lay_c41 hL) 12 (58) (by decide) rfl (lay_r41_12 hL) q_fl_X7_39 dX7_keep_43 ?_
        replace hf := bd_out hf
        obtain ⟨p12, e13, hf⟩ := hf
        refine z_cV0 C [] (tX2_add l G hL M (x1 - 13) _ e13) lk_X2_add ok_X2 (lay_c52 hL) q_ml_X7_139 rfl ⟨Nat.le_of_ble_eq_true rfl, Nat.le_of_ble_eq_true rfl⟩ rfl (Nat.le_of_ble_eq_true rfl) ⟨Nat.le_refl _, Nat.le_refl _⟩ dX7_keep_46 ?_
        refine z_goto C 114 dX7_keep_49 (by decide) ?_
        cases hf
        exact z_vret C rfl dX7_keep_114
    · replace hf := ite_f c2 hf
      refine z_aload_n C 0 0 dX7_keep_20 rfl rfl ?_
      refine z_iload_n C 1 1 dX7_keep_21 rfl rfl ?_
      replace hf := bd_out hf
      obtain ⟨p14, e15, hf⟩ := hf
      refine z_cV0 C [] (tX7_keepOfLaw l G hL hTp M x1 _ e15) lk_X7_keepOfLaw ok_X7 (lay_c41 hL) q_ml_X7_136 rfl ⟨Nat.le_of_ble_eq_true rfl, Nat.le_of_ble_eq_true rfl⟩ rfl (Nat.le_of_ble_eq_true rfl) ⟨Nat.le_refl _, Nat.le_refl _⟩ dX7_keep_22 ?_
      refine z_goto C 114 dX7_keep_25 (by decide) ?_
      cases hf
      exact z_vret C rfl dX7_keep_114
  · replace hf := ite_f c1 hf
    refine z_aload_n C 0 0 dX7_keep_6 rfl rfl ?_
    refine z_iload_n C 1 1 dX7_keep_7 rfl rfl ?_
    replace hf := bd_out hf
    obtain ⟨p16, e17, hf⟩ := hf
    refine z_cV0 C [] (tX7_keepOfParish l G hL hTp M x1 _ e17) lk_X7_keepOfParish ok_X7 (lay_c41 hL) q_ml_X7_133 rfl ⟨Nat.le_of_ble_eq_true rfl, Nat.le_of_ble_eq_true rfl⟩ rfl (Nat.le_of_ble_eq_true rfl) ⟨Nat.le_refl _, Nat.le_refl _⟩ dX7_keep_8 ?_
    refine z_goto C 114 dX7_keep_11 (by decide) ?_
    cases hf
    exact z_vret C rfl dX7_keep_114
set_option maxHeartbeats 4000000 in
set_option maxRecDepth 100000 in
theorem wX7_isToken_l20 (C : CX p s m args meth c cX7_isToken 3 (some .boolean) RX7 G) (hs0 : s.heap.size = G.1 + K.1) (hL : Lay K) (hTp : Tp K) (M : MM) (w1 : Nat) (h1 : w1 < 21)  (pp : Int32)  : ∀ (n : Nat) (y2 : Int32) (hf : fX7_isToken_l20 M w1 n y2 = some pp), Z p l e (rmo 4 0 0) s m args below meth c 3 G (MQ below (QC G (some (.int pp)) K M) args s 0 0 (AG G)) K 0 0 M 20 [(0, .ref (G.1 + 41)), (1, .ref (G.2.2.2 (100 + w1))), (2, .int y2)] [] := by
  intro n
  induction n with
  | zero => intro y2 hf; exact nomatch (show (none : Option Int32) = some pp from hf)
  | succ n ih =>
    intro y2 hf
    rw [fX7_isToken_l20.eq_2] at hf
    refine z_iload_n C 2 2 dX7_isToken_20 rfl rfl ?_
    refine z_aload_n C 1 1 dX7_isToken_21 rfl rfl ?_
    refine z_cT1 C [.int y2] w1 h1 (tJ0_length_8abf5 l G M w1 h1) lk_J0_length_8abf5 rfl q_ml_X7_195 rfl ⟨Nat.le_of_ble_eq_true rfl, Nat.le_of_ble_eq_true rfl⟩ rfl (Nat.le_of_ble_eq_true rfl) ⟨Nat.le_refl _, Nat.le_refl _⟩ dX7_isToken_22 ?_
    refine z_icmp_ge C 55 dX7_isToken_25 (by decide) (fun c3 => ?_) (fun c3 => ?_)
    · replace hf := ite_t c3 hf
      refine z_iconst C 1 dX7_isToken_55 (by decide) ?_
      cases hf
      exact z_zret C rfl nb1 dX7_isToken_56
    · replace hf := ite_f c3 hf
      refine z_aload_n C 0 0 dX7_isToken_28 rfl rfl ?_
      refine z_getR C ok_X7 (lay_c41 hL) 6 (39) (by decide) rfl hTp q_fl_X7_43 dX7_isToken_29 ?_
      refine z_aload_n C 0 0 dX7_isToken_32 rfl rfl ?_
      refine z_getI C ok_X7 (lay_c41 hL) 9 (by decide) rfl q_fl_X7_103 dX7_isToken_33 ?_
      refine z_iload_n C 2 2 dX7_isToken_36 rfl rfl ?_
      refine z_iadd C dX7_isToken_37 ?_
      replace hf := gd_out hf
      obtain ⟨g4, hf⟩ := hf
      refine z_bald C (lay_c39 hL) (inb_in g4) dX7_isToken_38 ?_
      refine z_aload_n C 1 1 dX7_isToken_39 rfl rfl ?_
      refine z_iload_n C 2 2 dX7_isToken_40 rfl rfl ?_
      replace hf := bd_out hf
      obtain ⟨p5, e6, hf⟩ := hf
      refine z_cT1 C [.int (gI M 39 (ix ((gI M 41 9) + y2)))] w1 h1 (tJ0_charAt_5068e l G M w1 h1 y2 _ e6) lk_J0_charAt_5068e rfl q_ml_X7_199 rfl ⟨Nat.le_of_ble_eq_true rfl, Nat.le_of_ble_eq_true rfl⟩ rfl (Nat.le_of_ble_eq_true rfl) ⟨Nat.le_refl _, Nat.le_refl _⟩ dX7_isToken_41 ?_
      refine z_icmp_eq C 49 dX7_isToken_44 (by decide) (fun c7 => ?_) (fun c7 => ?_)
      · replace hf := ite_t c7 hf
        refine z_iinc C 2 (y2 + 1) [(2, .int (y2 + 1)), (0, .ref (G.1 + 41)), (1, .ref (G.2.2.2 (100 + w1)))] dX7_isToken_49 rfl rfl (by decide) rfl rfl ?_
        refine z_goto C 20 dX7_isToken_52 (by decide) ?_
        refine z_lv (lv2 := [(0, .ref (G.1 + 41)), (1, .ref (G.2.2.2 (100 + w1))), (2, .int (y2 + 1))]) [1, 2, 0] rfl ?_
        exact ih (y2 + 1)  hf
      · replace hf := ite_f c7 hf
        refine z_iconst C 0 dX7_isToken_47 (by decide) ?_
        cases hf
        exact z_zret C rfl nb0 dX7_isToken_48
set_option maxHeartbeats 4000000 in
set_option maxRecDepth 100000 in
theorem tX7_isToken (l : Launch) (G : GG) {K : SK} (hL : Lay K) (hTp : Tp K) (M : MM) (w1 : Nat) (h1 : w1 < 21) (pp : Int32) (hf : fX7_isToken M w1 = some pp) : Ct l yX7_isToken cX7_isToken 3 (some .boolean) 4 0 0 G K M [.ref (G.1 + 41), .ref (G.2.2.2 (100 + w1))] (some (.int pp)) K M := by
  refine z_enter (lv := [(0, .ref (G.1 + 41)), (1, .ref (G.2.2.2 (100 + w1)))]) (by decide +kernel) (Nat.le_of_ble_eq_true rfl) rfl ?_
  intro p e s m args below meth c C hnm hs0
  replace C : CX p s m args meth c cX7_isToken 3 (some .boolean) RX7 G := C
  unfold fX7_isToken at hf
  refine z_aload_n C 1 1 dX7_isToken_0 rfl rfl ?_
  refine z_cT1 C [] w1 h1 (tJ0_length_8abf5 l G M w1 h1) lk_J0_length_8abf5 rfl q_ml_X7_195 rfl ⟨Nat.le_of_ble_eq_true rfl, Nat.le_of_ble_eq_true rfl⟩ rfl (Nat.le_of_ble_eq_true rfl) ⟨Nat.le_refl _, Nat.le_refl _⟩ dX7_isToken_1 ?_
  refine z_aload_n C 0 0 dX7_isToken_4 rfl rfl ?_
  refine z_getI C ok_X7 (lay_c41 hL) 10 (by decide) rfl q_fl_X7_57 dX7_isToken_5 ?_
  refine z_aload_n C 0 0 dX7_isToken_8 rfl rfl ?_
  refine z_getI C ok_X7 (lay_c41 hL) 9 (by decide) rfl q_fl_X7_103 dX7_isToken_9 ?_
  refine z_isub C dX7_isToken_12 ?_
  refine z_icmp_eq C 18 dX7_isToken_13 (by decide) (fun c1 => ?_) (fun c1 => ?_)
  · replace hf := ite_t c1 hf
    refine z_iconst C 0 dX7_isToken_18 (by decide) ?_
    refine z_istore_n C [(2, .int 0), (0, .ref (G.1 + 41)), (1, .ref (G.2.2.2 (100 + w1)))] dX7_isToken_19 rfl (by decide) rfl rfl ?_
    refine z_lv (lv2 := [(0, .ref (G.1 + 41)), (1, .ref (G.2.2.2 (100 + w1))), (2, .int 0)]) [1, 2, 0] rfl ?_
    exact wX7_isToken_l20 C hs0 hL hTp M w1 h1 pp FU 0 hf
  · replace hf := ite_f c1 hf
    refine z_iconst C 0 dX7_isToken_16 (by decide) ?_
    cases hf
    exact z_zret C rfl nb0 dX7_isToken_17
set_option maxHeartbeats 4000000 in
set_option maxRecDepth 100000 in
theorem tX7_wordOf (l : Launch) (G : GG) {K : SK} (hL : Lay K) (M : MM) (x0 : Int32) : Ct l yX7_wordOf cX7_wordOf 1 (some (.object "java/lang/String")) 0 0 0 G K M [.int x0] (some (.ref (G.2.2.2 (100 + (fX7_wordOf x0))))) K M := by
  generalize hf : fX7_wordOf x0 = pp
  refine z_enter (lv := [(0, .int x0)]) (by decide +kernel) (Nat.le_of_ble_eq_true rfl) rfl ?_
  intro p e s m args below meth c C hnm hs0
  replace C : CX p s m args meth c cX7_wordOf 1 (some (.object "java/lang/String")) RX7 G := C
  unfold fX7_wordOf at hf
  refine z_iload_n C 0 0 dX7_wordOf_0 rfl rfl ?_
  by_cases c1 : x0 = 0
  · replace hf := ite_t c1 hf
    refine z_tableIn C 96 dX7_wordOf_1 (by rw [c1]; decide) (by rw [c1]; decide) (by rw [c1]; rfl) (by decide) ?_
    refine z_ldcS C 0 (by decide) rfl rfl dX7_wordOf_96 ?_
    cases hf
    exact z_sret C rfl dX7_wordOf_98
  · replace hf := ite_f c1 hf
    by_cases c2 : x0 = 1
    · replace hf := ite_t c2 hf
      refine z_tableIn C 99 dX7_wordOf_1 (by rw [c2]; decide) (by rw [c2]; decide) (by rw [c2]; rfl) (by decide) ?_
      refine z_ldcS C 1 (by decide) rfl rfl dX7_wordOf_99 ?_
      cases hf
      exact z_sret C rfl dX7_wordOf_101
    · replace hf := ite_f c2 hf
      by_cases c3 : x0 = 2
      · replace hf := ite_t c3 hf
        refine z_tableIn C 102 dX7_wordOf_1 (by rw [c3]; decide) (by rw [c3]; decide) (by rw [c3]; rfl) (by decide) ?_
        refine z_ldcS C 2 (by decide) rfl rfl dX7_wordOf_102 ?_
        cases hf
        exact z_sret C rfl dX7_wordOf_104
      · replace hf := ite_f c3 hf
        by_cases c4 : x0 = 3
        · replace hf := ite_t c4 hf
          refine z_tableIn C 105 dX7_wordOf_1 (by rw [c4]; decide) (by rw [c4]; decide) (by rw [c4]; rfl) (by decide) ?_
          refine z_ldcS C 3 (by decide) rfl rfl dX7_wordOf_105 ?_
          cases hf
          exact z_sret C rfl dX7_wordOf_107
        · replace hf := ite_f c4 hf
          by_cases c5 : x0 = 4
          · replace hf := ite_t c5 hf
            refine z_tableIn C 108 dX7_wordOf_1 (by rw [c5]; decide) (by rw [c5]; decide) (by rw [c5]; rfl) (by decide) ?_
            refine z_ldcS C 4 (by decide) rfl rfl dX7_wordOf_108 ?_
            cases hf
            exact z_sret C rfl dX7_wordOf_110
          · replace hf := ite_f c5 hf
            by_cases c6 : x0 = 5
            · replace hf := ite_t c6 hf
              refine z_tableIn C 111 dX7_wordOf_1 (by rw [c6]; decide) (by rw [c6]; decide) (by rw [c6]; rfl) (by decide) ?_
              refine z_ldcS C 5 (by decide) rfl rfl dX7_wordOf_111 ?_
              cases hf
              exact z_sret C rfl dX7_wordOf_113
            · replace hf := ite_f c6 hf
              by_cases c7 : x0 = 6
              · replace hf := ite_t c7 hf
                refine z_tableIn C 114 dX7_wordOf_1 (by rw [c7]; decide) (by rw [c7]; decide) (by rw [c7]; rfl) (by decide) ?_
                refine z_ldcS C 6 (by decide) rfl rfl dX7_wordOf_114 ?_
                cases hf
                exact z_sret C rfl dX7_wordOf_116
              · replace hf := ite_f c7 hf
                by_cases c8 : x0 = 7
                · replace hf := ite_t c8 hf
                  refine z_tableIn C 117 dX7_wordOf_1 (by rw [c8]; decide) (by rw [c8]; decide) (by rw [c8]; rfl) (by decide) ?_
                  refine z_ldcS C 7 (by decide) rfl rfl dX7_wordOf_117 ?_
                  cases hf
                  exact z_sret C rfl dX7_wordOf_119
                · replace hf := ite_f c8 hf
                  by_cases c9 : x0 = 8
                  · replace hf := ite_t c9 hf
                    refine z_tableIn C 120 dX7_wordOf_1 (by rw [c9]; decide) (by rw [c9]; decide) (by rw [c9]; rfl) (by decide) ?_
                    refine z_ldcS C 8 (by decide) rfl rfl dX7_wordOf_120 ?_
                    cases hf
                    exact z_sret C rfl dX7_wordOf_122
                  · replace hf := ite_f c9 hf
                    by_cases c10 : x0 = 9
                    · replace hf := ite_t c10 hf
                      refine z_tableIn C 123 dX7_wordOf_1 (by rw [c10]; decide) (by rw [c10]; decide) (by rw [c10]; rfl) (by decide) ?_
                      refine z_ldcS C 9 (by decide) rfl rfl dX7_wordOf_123 ?_
                      cases hf
                      exact z_sret C rfl dX7_wordOf_125
                    · replace hf := ite_f c10 hf
                      by_cases c11 : x0 = 10
                      · replace hf := ite_t c11 hf
                        refine z_tableIn C 126 dX7_wordOf_1 (by rw [c11]; decide) (by rw [c11]; decide) (by rw [c11]; rfl) (by decide) ?_
                        refine z_ldcS C 10 (by decide) rfl rfl dX7_wordOf_126 ?_
                        cases hf
                        exact z_sret C rfl dX7_wordOf_128
                      · replace hf := ite_f c11 hf
                        by_cases c12 : x0 = 11
                        · replace hf := ite_t c12 hf
                          refine z_tableIn C 129 dX7_wordOf_1 (by rw [c12]; decide) (by rw [c12]; decide) (by rw [c12]; rfl) (by decide) ?_
                          refine z_ldcS C 11 (by decide) rfl rfl dX7_wordOf_129 ?_
                          cases hf
                          exact z_sret C rfl dX7_wordOf_131
                        · replace hf := ite_f c12 hf
                          by_cases c13 : x0 = 12
                          · replace hf := ite_t c13 hf
                            refine z_tableIn C 132 dX7_wordOf_1 (by rw [c13]; decide) (by rw [c13]; decide) (by rw [c13]; rfl) (by decide) ?_
                            refine z_ldcS C 12 (by decide) rfl rfl dX7_wordOf_132 ?_
                            cases hf
                            exact z_sret C rfl dX7_wordOf_134
                          · replace hf := ite_f c13 hf
                            by_cases c14 : x0 = 13
                            · replace hf := ite_t c14 hf
                              refine z_tableIn C 135 dX7_wordOf_1 (by rw [c14]; decide) (by rw [c14]; decide) (by rw [c14]; rfl) (by decide) ?_
                              refine z_ldcS C 13 (by decide) rfl rfl dX7_wordOf_135 ?_
                              cases hf
                              exact z_sret C rfl dX7_wordOf_137
                            · replace hf := ite_f c14 hf
                              by_cases c15 : x0 = 14
                              · replace hf := ite_t c15 hf
                                refine z_tableIn C 138 dX7_wordOf_1 (by rw [c15]; decide) (by rw [c15]; decide) (by rw [c15]; rfl) (by decide) ?_
                                refine z_ldcS C 14 (by decide) rfl rfl dX7_wordOf_138 ?_
                                cases hf
                                exact z_sret C rfl dX7_wordOf_140
                              · replace hf := ite_f c15 hf
                                by_cases c16 : x0 = 15
                                · replace hf := ite_t c16 hf
                                  refine z_tableIn C 141 dX7_wordOf_1 (by rw [c16]; decide) (by rw [c16]; decide) (by rw [c16]; rfl) (by decide) ?_
                                  refine z_ldcS C 15 (by decide) rfl rfl dX7_wordOf_141 ?_
                                  cases hf
                                  exact z_sret C rfl dX7_wordOf_143
                                · replace hf := ite_f c16 hf
                                  by_cases c17 : x0 = 16
                                  · replace hf := ite_t c17 hf
                                    refine z_tableIn C 144 dX7_wordOf_1 (by rw [c17]; decide) (by rw [c17]; decide) (by rw [c17]; rfl) (by decide) ?_
                                    refine z_ldcS C 16 (by decide) rfl rfl dX7_wordOf_144 ?_
                                    cases hf
                                    exact z_sret C rfl dX7_wordOf_146
                                  · replace hf := ite_f c17 hf
                                    by_cases c18 : x0 = 17
                                    · replace hf := ite_t c18 hf
                                      refine z_tableIn C 147 dX7_wordOf_1 (by rw [c18]; decide) (by rw [c18]; decide) (by rw [c18]; rfl) (by decide) ?_
                                      refine z_ldcS C 17 (by decide) rfl rfl dX7_wordOf_147 ?_
                                      cases hf
                                      exact z_sret C rfl dX7_wordOf_149
                                    · replace hf := ite_f c18 hf
                                      by_cases c19 : x0 = 18
                                      · replace hf := ite_t c19 hf
                                        refine z_tableIn C 150 dX7_wordOf_1 (by rw [c19]; decide) (by rw [c19]; decide) (by rw [c19]; rfl) (by decide) ?_
                                        refine z_ldcS C 18 (by decide) rfl rfl dX7_wordOf_150 ?_
                                        cases hf
                                        exact z_sret C rfl dX7_wordOf_152
                                      · replace hf := ite_f c19 hf
                                        by_cases c20 : x0 = 19
                                        · replace hf := ite_t c20 hf
                                          refine z_tableIn C 153 dX7_wordOf_1 (by rw [c20]; decide) (by rw [c20]; decide) (by rw [c20]; rfl) (by decide) ?_
                                          refine z_ldcS C 19 (by decide) rfl rfl dX7_wordOf_153 ?_
                                          cases hf
                                          exact z_sret C rfl dX7_wordOf_155
                                        · replace hf := ite_f c20 hf
                                          have ic1 : (x0).toInt ≠ 0 := fun q => c1 (Int32.toInt_inj.mp (q.trans (by decide)))
                                          have ic2 : (x0).toInt ≠ 1 := fun q => c2 (Int32.toInt_inj.mp (q.trans (by decide)))
                                          have ic3 : (x0).toInt ≠ 2 := fun q => c3 (Int32.toInt_inj.mp (q.trans (by decide)))
                                          have ic4 : (x0).toInt ≠ 3 := fun q => c4 (Int32.toInt_inj.mp (q.trans (by decide)))
                                          have ic5 : (x0).toInt ≠ 4 := fun q => c5 (Int32.toInt_inj.mp (q.trans (by decide)))
                                          have ic6 : (x0).toInt ≠ 5 := fun q => c6 (Int32.toInt_inj.mp (q.trans (by decide)))
                                          have ic7 : (x0).toInt ≠ 6 := fun q => c7 (Int32.toInt_inj.mp (q.trans (by decide)))
                                          have ic8 : (x0).toInt ≠ 7 := fun q => c8 (Int32.toInt_inj.mp (q.trans (by decide)))
                                          have ic9 : (x0).toInt ≠ 8 := fun q => c9 (Int32.toInt_inj.mp (q.trans (by decide)))
                                          have ic10 : (x0).toInt ≠ 9 := fun q => c10 (Int32.toInt_inj.mp (q.trans (by decide)))
                                          have ic11 : (x0).toInt ≠ 10 := fun q => c11 (Int32.toInt_inj.mp (q.trans (by decide)))
                                          have ic12 : (x0).toInt ≠ 11 := fun q => c12 (Int32.toInt_inj.mp (q.trans (by decide)))
                                          have ic13 : (x0).toInt ≠ 12 := fun q => c13 (Int32.toInt_inj.mp (q.trans (by decide)))
                                          have ic14 : (x0).toInt ≠ 13 := fun q => c14 (Int32.toInt_inj.mp (q.trans (by decide)))
                                          have ic15 : (x0).toInt ≠ 14 := fun q => c15 (Int32.toInt_inj.mp (q.trans (by decide)))
                                          have ic16 : (x0).toInt ≠ 15 := fun q => c16 (Int32.toInt_inj.mp (q.trans (by decide)))
                                          have ic17 : (x0).toInt ≠ 16 := fun q => c17 (Int32.toInt_inj.mp (q.trans (by decide)))
                                          have ic18 : (x0).toInt ≠ 17 := fun q => c18 (Int32.toInt_inj.mp (q.trans (by decide)))
                                          have ic19 : (x0).toInt ≠ 18 := fun q => c19 (Int32.toInt_inj.mp (q.trans (by decide)))
                                          have ic20 : (x0).toInt ≠ 19 := fun q => c20 (Int32.toInt_inj.mp (q.trans (by decide)))
                                          refine z_tableOut C 156 dX7_wordOf_1 (by omega) (by decide) ?_
                                          refine z_ldcS C 20 (by decide) rfl rfl dX7_wordOf_156 ?_
                                          cases hf
                                          exact z_sret C rfl dX7_wordOf_158
theorem ite_lt21 {q : Prop} [Decidable q] {a b : Nat} (ha : a < 21) (hb : b < 21) : (if q then a else b) < 21 := by
  by_cases h : q
  · rw [if_pos h]; exact ha
  · rw [if_neg h]; exact hb
theorem wordOf_lt (x : Int32) : fX7_wordOf x < 21 := by
  unfold fX7_wordOf
  repeat (refine ite_lt21 (by decide) ?_)
  decide
set_option maxHeartbeats 4000000 in
set_option maxRecDepth 100000 in
theorem wX7_lineOf_l16 (C : CX p s m args meth c cX7_lineOf 3 (some .int) RX7 G) (hs0 : s.heap.size = G.1 + K.1) (hL : Lay K) (hTp : Tp K) (M : MM)  (pp : Int32)  : ∀ (n : Nat) (y5 : Int32) (y6 : Int32) (hf : fX7_lineOf_l16 M n y5 y6 = some pp), Z p l e (rmo 5 0 0) s m args below meth c 3 G (MQ below (QC G (some (.int pp)) K M) args s 0 0 (AG G)) K 0 0 M 16 [(0, .ref (G.1 + 41)), (1, .int y5), (2, .int y6)] [] := by
  intro n
  induction n with
  | zero => intro y5 y6 hf; exact nomatch (show (none : Option Int32) = some pp from hf)
  | succ n ih =>
    intro y5 y6 hf
    rw [fX7_lineOf_l16.eq_2] at hf
    refine z_iload_n C 2 2 dX7_lineOf_16 rfl rfl ?_
    refine z_gets C 0 (by decide) q_fl_X7_184 dX7_lineOf_17 ?_
    refine z_iload_n C 1 1 dX7_lineOf_20 rfl rfl ?_
    refine z_iconst C 1 dX7_lineOf_21 (by decide) ?_
    refine z_iadd C dX7_lineOf_22 ?_
    replace hf := gd_out hf
    obtain ⟨g7, hf⟩ := hf
    refine z_tald C 0 (by decide) (inb_in g7) dX7_lineOf_23 ?_
    refine z_icmp_ge C 46 dX7_lineOf_24 (by decide) (fun c8 => ?_) (fun c8 => ?_)
    · replace hf := ite_t c8 hf
      refine z_iconst C (-1) dX7_lineOf_46 (by decide) ?_
      cases hf
      exact z_iret C rfl dX7_lineOf_47
    · replace hf := ite_f c8 hf
      refine z_aload_n C 0 0 dX7_lineOf_27 rfl rfl ?_
      refine z_iload_n C 2 2 dX7_lineOf_28 rfl rfl ?_
      refine z_cS1 C [.ref (G.1 + 41)] (tX7_wordOf l G hL M y6) lk_X7_wordOf q_ml_X7_187 rfl ⟨Nat.le_of_ble_eq_true rfl, Nat.le_of_ble_eq_true rfl⟩ rfl (Nat.le_of_ble_eq_true rfl) ⟨Nat.le_refl _, Nat.le_refl _⟩ dX7_lineOf_29 ?_
      replace hf := bd_out hf
      obtain ⟨p9, e10, hf⟩ := hf
      refine z_cV1 C [] (tX7_isToken l G hL hTp M (fX7_wordOf y6) (wordOf_lt _) _ e10) lk_X7_isToken ok_X7 (lay_c41 hL) q_ml_X7_191 rfl ⟨Nat.le_of_ble_eq_true rfl, Nat.le_of_ble_eq_true rfl⟩ rfl (Nat.le_of_ble_eq_true rfl) ⟨Nat.le_refl _, Nat.le_refl _⟩ dX7_lineOf_32 ?_
      refine z_if_eq C 40 dX7_lineOf_35 (by decide) (fun c11 => ?_) (fun c11 => ?_)
      · replace hf := ite_t c11 hf
        refine z_iinc C 2 (y6 + 1) [(2, .int (y6 + 1)), (0, .ref (G.1 + 41)), (1, .int y5)] dX7_lineOf_40 rfl rfl (by decide) rfl rfl ?_
        refine z_goto C 16 dX7_lineOf_43 (by decide) ?_
        refine z_lv (lv2 := [(0, .ref (G.1 + 41)), (1, .int y5), (2, .int (y6 + 1))]) [1, 2, 0] rfl ?_
        exact ih y5 (y6 + 1)  hf
      · replace hf := ite_f c11 hf
        refine z_iload_n C 2 2 dX7_lineOf_38 rfl rfl ?_
        cases hf
        exact z_iret C rfl dX7_lineOf_39
set_option maxHeartbeats 4000000 in
set_option maxRecDepth 100000 in
theorem tX7_lineOf (l : Launch) (G : GG) {K : SK} (hL : Lay K) (hTp : Tp K) (M : MM) (x1 : Int32) (pp : Int32) (hf : fX7_lineOf M x1 = some pp) : Ct l yX7_lineOf cX7_lineOf 3 (some .int) 5 0 0 G K M [.ref (G.1 + 41), .int x1] (some (.int pp)) K M := by
  refine z_enter (lv := [(0, .ref (G.1 + 41)), (1, .int x1)]) (by decide +kernel) (Nat.le_of_ble_eq_true rfl) rfl ?_
  intro p e s m args below meth c C hnm hs0
  replace C : CX p s m args meth c cX7_lineOf 3 (some .int) RX7 G := C
  unfold fX7_lineOf at hf
  refine z_aload_n C 0 0 dX7_lineOf_0 rfl rfl ?_
  refine z_getI C ok_X7 (lay_c41 hL) 8 (by decide) rfl q_fl_X7_77 dX7_lineOf_1 ?_
  refine z_iconst C 1 dX7_lineOf_4 (by decide) ?_
  refine z_icmp_eq C 10 dX7_lineOf_5 (by decide) (fun c1 => ?_) (fun c1 => ?_)
  · replace hf := ite_t c1 hf
    refine z_gets C 0 (by decide) q_fl_X7_184 dX7_lineOf_10 ?_
    refine z_iload_n C 1 1 dX7_lineOf_13 rfl rfl ?_
    replace hf := gd_out hf
    obtain ⟨g2, hf⟩ := hf
    refine z_tald C 0 (by decide) (inb_in g2) dX7_lineOf_14 ?_
    refine z_topi (fun v3 e4 => ?_)
    replace hf := bnd_out e4 hf
    refine z_istore_n C [(2, .int v3), (0, .ref (G.1 + 41)), (1, .int x1)] dX7_lineOf_15 rfl (by decide) rfl rfl ?_
    refine z_lv (lv2 := [(0, .ref (G.1 + 41)), (1, .int x1), (2, .int v3)]) [1, 2, 0] rfl ?_
    exact wX7_lineOf_l16 C hs0 hL hTp M pp FU x1 v3 hf
  · replace hf := ite_f c1 hf
    refine z_iconst C (-1) dX7_lineOf_8 (by decide) ?_
    cases hf
    exact z_iret C rfl dX7_lineOf_9
set_option maxHeartbeats 4000000 in
set_option maxRecDepth 100000 in
theorem tX7_least (l : Launch) (G : GG) {K : SK} (hL : Lay K) (M : MM) (x0 : Int32) (x1 : Int32) : Ct l yX7_least cX7_least 2 (some .int) 0 0 0 G K M [.int x0, .int x1] (some (.int (fX7_least x0 x1))) K M := by
  generalize hf : fX7_least x0 x1 = pp
  refine z_enter (lv := [(0, .int x0), (1, .int x1)]) (by decide +kernel) (Nat.le_of_ble_eq_true rfl) rfl ?_
  intro p e s m args below meth c C hnm hs0
  replace C : CX p s m args meth c cX7_least 2 (some .int) RX7 G := C
  unfold fX7_least at hf
  refine z_iload_n C 0 0 dX7_least_0 rfl rfl ?_
  refine z_if_ne C 6 dX7_least_1 (by decide) (fun c1 => ?_) (fun c1 => ?_)
  · replace hf := ite_f c1 hf
    refine z_iload_n C 0 0 dX7_least_6 rfl rfl ?_
    refine z_bipush C 8 dX7_least_7 (by decide) ?_
    refine z_icmp_ne C 14 dX7_least_9 (by decide) (fun c2 => ?_) (fun c2 => ?_)
    · replace hf := ite_f c2 hf
      refine z_iload_n C 0 0 dX7_least_14 rfl rfl ?_
      refine z_iconst C 3 dX7_least_15 (by decide) ?_
      refine z_icmp_lt C 34 dX7_least_16 (by decide) (fun c3 => ?_) (fun c3 => ?_)
      · replace hf := ite_t c3 hf
        refine z_iconst C 0 dX7_least_34 (by decide) ?_
        cases hf
        exact z_iret C rfl dX7_least_35
      · replace hf := ite_f c3 hf
        refine z_iload_n C 0 0 dX7_least_19 rfl rfl ?_
        refine z_bipush C 6 dX7_least_20 (by decide) ?_
        refine z_icmp_gt C 34 dX7_least_22 (by decide) (fun c4 => ?_) (fun c4 => ?_)
        · replace hf := ite_t c4 hf
          refine z_iconst C 0 dX7_least_34 (by decide) ?_
          cases hf
          exact z_iret C rfl dX7_least_35
        · replace hf := ite_f c4 hf
          refine z_iload_n C 1 1 dX7_least_25 rfl rfl ?_
          refine z_iconst C 3 dX7_least_26 (by decide) ?_
          refine z_icmp_ne C 34 dX7_least_27 (by decide) (fun c5 => ?_) (fun c5 => ?_)
          · replace hf := ite_f c5 hf
            refine z_iconst C 0 dX7_least_34 (by decide) ?_
            cases hf
            exact z_iret C rfl dX7_least_35
          · replace hf := ite_t c5 hf
            refine z_iconst C 1 dX7_least_30 (by decide) ?_
            refine z_goto C 35 dX7_least_31 (by decide) ?_
            cases hf
            exact z_iret C rfl dX7_least_35
    · replace hf := ite_t c2 hf
      refine z_iconst C 1 dX7_least_12 (by decide) ?_
      cases hf
      exact z_iret C rfl dX7_least_13
  · replace hf := ite_t c1 hf
    refine z_iconst C 2 dX7_least_4 (by decide) ?_
    cases hf
    exact z_iret C rfl dX7_least_5
set_option maxHeartbeats 4000000 in
set_option maxRecDepth 100000 in
theorem wX7_numberOfToken_l7 (C : CX p s m args meth c cX7_numberOfToken 3 (some .int) RX7 G) (hs0 : s.heap.size = G.1 + K.1) (hL : Lay K) (hTp : Tp K) (M : MM)  (pp : Int32)  : ∀ (n : Nat) (y3 : Int32) (y4 : Int32) (hf : fX7_numberOfToken_l7 M n y3 y4 = some pp), Z p l e (rmo 0 0 0) s m args below meth c 3 G (MQ below (QC G (some (.int pp)) K M) args s 0 0 (AG G)) K 0 0 M 7 [(0, .ref (G.1 + 41)), (1, .int y3), (2, .int y4)] [] := by
  intro n
  induction n with
  | zero => intro y3 y4 hf; exact nomatch (show (none : Option Int32) = some pp from hf)
  | succ n ih =>
    intro y3 y4 hf
    rw [fX7_numberOfToken_l7.eq_2] at hf
    refine z_iload_n C 2 2 dX7_numberOfToken_7 rfl rfl ?_
    refine z_aload_n C 0 0 dX7_numberOfToken_8 rfl rfl ?_
    refine z_getI C ok_X7 (lay_c41 hL) 10 (by decide) rfl q_fl_X7_57 dX7_numberOfToken_9 ?_
    refine z_icmp_ge C 36 dX7_numberOfToken_12 (by decide) (fun c5 => ?_) (fun c5 => ?_)
    · replace hf := ite_t c5 hf
      refine z_iload_n C 1 1 dX7_numberOfToken_36 rfl rfl ?_
      cases hf
      exact z_iret C rfl dX7_numberOfToken_37
    · replace hf := ite_f c5 hf
      refine z_bipush C 10 dX7_numberOfToken_15 (by decide) ?_
      refine z_iload_n C 1 1 dX7_numberOfToken_17 rfl rfl ?_
      refine z_imul C dX7_numberOfToken_18 ?_
      refine z_aload_n C 0 0 dX7_numberOfToken_19 rfl rfl ?_
      refine z_getR C ok_X7 (lay_c41 hL) 6 (39) (by decide) rfl hTp q_fl_X7_43 dX7_numberOfToken_20 ?_
      refine z_iload_n C 2 2 dX7_numberOfToken_23 rfl rfl ?_
      replace hf := gd_out hf
      obtain ⟨g6, hf⟩ := hf
      refine z_bald C (lay_c39 hL) (inb_in g6) dX7_numberOfToken_24 ?_
      refine z_iadd C dX7_numberOfToken_25 ?_
      refine z_bipush C 48 dX7_numberOfToken_26 (by decide) ?_
      refine z_isub C dX7_numberOfToken_28 ?_
      refine z_topi (fun v7 e8 => ?_)
      replace hf := bnd_out e8 hf
      refine z_istore_n C [(1, .int v7), (0, .ref (G.1 + 41)), (2, .int y4)] dX7_numberOfToken_29 rfl (by decide) rfl rfl ?_
      refine z_iinc C 2 (y4 + 1) [(2, .int (y4 + 1)), (1, .int v7), (0, .ref (G.1 + 41))] dX7_numberOfToken_30 rfl rfl (by decide) rfl rfl ?_
      refine z_goto C 7 dX7_numberOfToken_33 (by decide) ?_
      refine z_lv (lv2 := [(0, .ref (G.1 + 41)), (1, .int v7), (2, .int (y4 + 1))]) [2, 1, 0] rfl ?_
      exact ih v7 (y4 + 1)  hf
set_option maxHeartbeats 4000000 in
set_option maxRecDepth 100000 in
theorem tX7_numberOfToken (l : Launch) (G : GG) {K : SK} (hL : Lay K) (hTp : Tp K) (M : MM)  (pp : Int32) (hf : fX7_numberOfToken M = some pp) : Ct l yX7_numberOfToken cX7_numberOfToken 3 (some .int) 0 0 0 G K M [.ref (G.1 + 41)] (some (.int pp)) K M := by
  refine z_enter (lv := [(0, .ref (G.1 + 41))]) (by decide +kernel) (Nat.le_of_ble_eq_true rfl) rfl ?_
  intro p e s m args below meth c C hnm hs0
  replace C : CX p s m args meth c cX7_numberOfToken 3 (some .int) RX7 G := C
  unfold fX7_numberOfToken at hf
  refine z_iconst C 0 dX7_numberOfToken_0 (by decide) ?_
  refine z_istore_n C [(1, .int 0), (0, .ref (G.1 + 41))] dX7_numberOfToken_1 rfl (by decide) rfl rfl ?_
  refine z_aload_n C 1 0 dX7_numberOfToken_2 rfl rfl ?_
  refine z_getI C ok_X7 (lay_c41 hL) 9 (by decide) rfl q_fl_X7_103 dX7_numberOfToken_3 ?_
  refine z_topi (fun v1 e2 => ?_)
  replace hf := bnd_out e2 hf
  refine z_istore_n C [(2, .int v1), (1, .int 0), (0, .ref (G.1 + 41))] dX7_numberOfToken_6 rfl (by decide) rfl rfl ?_
  refine z_lv (lv2 := [(0, .ref (G.1 + 41)), (1, .int 0), (2, .int v1)]) [2, 1, 0] rfl ?_
  exact wX7_numberOfToken_l7 C hs0 hL hTp M pp FU 0 v1 hf
set_option maxHeartbeats 4000000 in
set_option maxRecDepth 100000 in
theorem wX7_readNumbers_j72 (C : CX p s m args meth c cX7_readNumbers 3 (some .boolean) RX7 G) (hs0 : s.heap.size = G.1 + K.1) (hL : Lay K) (hTp : Tp K) (k2 : MM → Int32 → Int32 → Option (Int32 × MM)) (pp : (Int32 × MM)) (hk2 : ∀ (M24 : MM) (y25 : Int32) (y26 : Int32), k2 M24 y25 y26 = some pp → Z p l e (rmo 2 0 0) s m args below meth c 3 G (MQ below (QC G (some (.int pp.1)) K pp.2) args s 0 0 (AG G)) K 0 0 M24 2 [(0, .ref (G.1 + 41)), (1, .int y25), (2, .int y26)] []) (M19 : MM) (y20 : Int32) (y21 : Int32) (hf : fX7_readNumbers_j72 k2 M19 y20 y21 = some pp) : Z p l e (rmo 2 0 0) s m args below meth c 3 G (MQ below (QC G (some (.int pp.1)) K pp.2) args s 0 0 (AG G)) K 0 0 M19 72 [(0, .ref (G.1 + 41)), (1, .int y20), (2, .int y21)] [] := by
  unfold fX7_readNumbers_j72 at hf
  refine z_aload_n C 0 0 dX7_readNumbers_72 rfl rfl ?_
  replace hf := bd_out hf
  obtain ⟨p22, e23, hf⟩ := hf
  refine z_cV0 C [] (tX7_nextToken l G hL hTp M19  _ e23) lk_X7_nextToken ok_X7 (lay_c41 hL) q_ml_X7_74 rfl ⟨Nat.le_of_ble_eq_true rfl, Nat.le_of_ble_eq_true rfl⟩ rfl (Nat.le_of_ble_eq_true rfl) ⟨Nat.le_refl _, Nat.le_refl _⟩ dX7_readNumbers_73 ?_
  refine z_iinc C 2 (y21 + 1) [(2, .int (y21 + 1)), (0, .ref (G.1 + 41)), (1, .int y20)] dX7_readNumbers_76 rfl rfl (by decide) rfl rfl ?_
  refine z_goto C 2 dX7_readNumbers_79 (by decide) ?_
  refine z_lv (lv2 := [(0, .ref (G.1 + 41)), (1, .int y20), (2, .int (y21 + 1))]) [1, 2, 0] rfl ?_
  exact hk2 p22 y20 (y21 + 1)  hf
set_option maxHeartbeats 4000000 in
set_option maxRecDepth 100000 in
theorem wX7_readNumbers_j63 (C : CX p s m args meth c cX7_readNumbers 3 (some .boolean) RX7 G) (hs0 : s.heap.size = G.1 + K.1) (hL : Lay K) (hTp : Tp K) (k2 : MM → Int32 → Int32 → Option (Int32 × MM)) (pp : (Int32 × MM)) (hk2 : ∀ (M30 : MM) (y31 : Int32) (y32 : Int32), k2 M30 y31 y32 = some pp → Z p l e (rmo 2 0 0) s m args below meth c 3 G (MQ below (QC G (some (.int pp.1)) K pp.2) args s 0 0 (AG G)) K 0 0 M30 2 [(0, .ref (G.1 + 41)), (1, .int y31), (2, .int y32)] []) (M14 : MM) (y15 : Int32) (y16 : Int32) (hf : fX7_readNumbers_j63 k2 M14 y15 y16 = some pp) : Z p l e (rmo 2 0 0) s m args below meth c 3 G (MQ below (QC G (some (.int pp.1)) K pp.2) args s 0 0 (AG G)) K 0 0 M14 63 [(0, .ref (G.1 + 41)), (1, .int y15), (2, .int y16)] [] := by
  unfold fX7_readNumbers_j63 at hf
  refine z_aload_n C 0 0 dX7_readNumbers_63 rfl rfl ?_
  refine z_iconst C 2 dX7_readNumbers_64 (by decide) ?_
  refine z_aload_n C 0 0 dX7_readNumbers_65 rfl rfl ?_
  refine z_getI C ok_X7 (lay_c41 hL) 9 (by decide) rfl q_fl_X7_103 dX7_readNumbers_66 ?_
  replace hf := bd_out hf
  obtain ⟨p17, e18, hf⟩ := hf
  refine z_cV0 C [] (tX7_mark l G hL hTp M14 2 (gI M14 41 9) _ e18) lk_X7_mark ok_X7 (lay_c41 hL) q_ml_X7_88 rfl ⟨Nat.le_of_ble_eq_true rfl, Nat.le_of_ble_eq_true rfl⟩ rfl (Nat.le_of_ble_eq_true rfl) ⟨Nat.le_refl _, Nat.le_refl _⟩ dX7_readNumbers_69 ?_
  refine wX7_readNumbers_j72 C hs0 hL hTp _ pp ?_ p17 y15 y16 hf
  · intro M27 y28 y29 hf
    exact hk2 M27 y28 y29  hf
set_option maxHeartbeats 4000000 in
set_option maxRecDepth 100000 in
theorem wX7_readNumbers_l2 (C : CX p s m args meth c cX7_readNumbers 3 (some .boolean) RX7 G) (hs0 : s.heap.size = G.1 + K.1) (hL : Lay K) (hTp : Tp K)  (pp : (Int32 × MM))  : ∀ (n : Nat) (M1 : MM) (y2 : Int32) (y3 : Int32) (hf : fX7_readNumbers_l2 n M1 y2 y3 = some pp), Z p l e (rmo 2 0 0) s m args below meth c 3 G (MQ below (QC G (some (.int pp.1)) K pp.2) args s 0 0 (AG G)) K 0 0 M1 2 [(0, .ref (G.1 + 41)), (1, .int y2), (2, .int y3)] [] := by
  intro n
  induction n with
  | zero => intro M1 y2 y3 hf; exact nomatch (show (none : Option (Int32 × MM)) = some pp from hf)
  | succ n ih =>
    intro M1 y2 y3 hf
    rw [fX7_readNumbers_l2.eq_2] at hf
    refine z_iload_n C 2 2 dX7_readNumbers_2 rfl rfl ?_
    refine z_gets C 1 (by decide) q_fl_X7_115 dX7_readNumbers_3 ?_
    refine z_iload_n C 1 1 dX7_readNumbers_6 rfl rfl ?_
    replace hf := gd_out hf
    obtain ⟨g4, hf⟩ := hf
    refine z_tald C 1 (by decide) (inb_in g4) dX7_readNumbers_7 ?_
    refine z_icmp_ge C 82 dX7_readNumbers_8 (by decide) (fun c5 => ?_) (fun c5 => ?_)
    · replace hf := ite_t c5 hf
      refine z_iconst C 1 dX7_readNumbers_82 (by decide) ?_
      cases hf
      exact z_zret C rfl nb1 dX7_readNumbers_83
    · replace hf := ite_f c5 hf
      refine z_aload_n C 0 0 dX7_readNumbers_11 rfl rfl ?_
      refine z_getI C ok_X7 (lay_c41 hL) 8 (by decide) rfl q_fl_X7_77 dX7_readNumbers_12 ?_
      refine z_iconst C 2 dX7_readNumbers_15 (by decide) ?_
      refine z_icmp_eq C 21 dX7_readNumbers_16 (by decide) (fun c6 => ?_) (fun c6 => ?_)
      · replace hf := ite_t c6 hf
        refine z_aload_n C 0 0 dX7_readNumbers_21 rfl rfl ?_
        refine z_getR C ok_X7 (lay_c41 hL) 12 (58) (by decide) rfl (lay_r41_12 hL) q_fl_X7_39 dX7_readNumbers_22 ?_
        refine z_iload_n C 2 2 dX7_readNumbers_25 rfl rfl ?_
        refine z_aload_n C 0 0 dX7_readNumbers_26 rfl rfl ?_
        replace hf := bd_out hf
        obtain ⟨p7, e8, hf⟩ := hf
        refine z_cV1 C [.int y3, .ref (G.1 + 58)] (tX7_numberOfToken l G hL hTp M1  _ e8) lk_X7_numberOfToken ok_X7 (lay_c41 hL) q_ml_X7_118 rfl ⟨Nat.le_of_ble_eq_true rfl, Nat.le_of_ble_eq_true rfl⟩ rfl (Nat.le_of_ble_eq_true rfl) ⟨Nat.le_refl _, Nat.le_refl _⟩ dX7_readNumbers_27 ?_
        replace hf := gd_out hf
        obtain ⟨g9, hf⟩ := hf
        refine z_iast C (lay_c58 hL) (inb_in g9) dX7_readNumbers_30 ?_
        refine z_M (fun M10 e11 => ?_)
        replace hf := bnd_out e11 hf
        refine z_aload_n C 0 0 dX7_readNumbers_31 rfl rfl ?_
        refine z_getR C ok_X7 (lay_c41 hL) 12 (58) (by decide) rfl (lay_r41_12 hL) q_fl_X7_39 dX7_readNumbers_32 ?_
        refine z_iload_n C 2 2 dX7_readNumbers_35 rfl rfl ?_
        replace hf := gd_out hf
        obtain ⟨g12, hf⟩ := hf
        refine z_iald C (lay_c58 hL) (inb_in g12) dX7_readNumbers_36 ?_
        refine z_iload_n C 1 1 dX7_readNumbers_37 rfl rfl ?_
        refine z_iload_n C 2 2 dX7_readNumbers_38 rfl rfl ?_
        refine z_cS1 C [.int (gI M10 58 (ix y3))] (tX7_least l G hL M10 y2 y3) lk_X7_least q_ml_X7_121 rfl ⟨Nat.le_of_ble_eq_true rfl, Nat.le_of_ble_eq_true rfl⟩ rfl (Nat.le_of_ble_eq_true rfl) ⟨Nat.le_refl _, Nat.le_refl _⟩ dX7_readNumbers_39 ?_
        refine z_icmp_lt C 63 dX7_readNumbers_42 (by decide) (fun c13 => ?_) (fun c13 => ?_)
        · replace hf := ite_t c13 hf
          refine wX7_readNumbers_j63 C hs0 hL hTp _ pp ?_ M10 y2 y3 hf
          · intro M33 y34 y35 hf
            exact ih M33 y34 y35  hf
        · replace hf := ite_f c13 hf
          refine z_aload_n C 0 0 dX7_readNumbers_45 rfl rfl ?_
          refine z_getR C ok_X7 (lay_c41 hL) 12 (58) (by decide) rfl (lay_r41_12 hL) q_fl_X7_39 dX7_readNumbers_46 ?_
          refine z_iload_n C 2 2 dX7_readNumbers_49 rfl rfl ?_
          replace hf := gd_out hf
          obtain ⟨g36, hf⟩ := hf
          refine z_iald C (lay_c58 hL) (inb_in g36) dX7_readNumbers_50 ?_
          refine z_gets C 2 (by decide) q_fl_X7_124 dX7_readNumbers_51 ?_
          refine z_iconst C 5 dX7_readNumbers_54 (by decide) ?_
          refine z_iload_n C 1 1 dX7_readNumbers_55 rfl rfl ?_
          refine z_imul C dX7_readNumbers_56 ?_
          refine z_iload_n C 2 2 dX7_readNumbers_57 rfl rfl ?_
          refine z_iadd C dX7_readNumbers_58 ?_
          replace hf := gd_out hf
          obtain ⟨g37, hf⟩ := hf
          refine z_tald C 2 (by decide) (inb_in g37) dX7_readNumbers_59 ?_
          refine z_icmp_le C 72 dX7_readNumbers_60 (by decide) (fun c38 => ?_) (fun c38 => ?_)
          · replace hf := ite_t c38 hf
            refine wX7_readNumbers_j72 C hs0 hL hTp _ pp ?_ M10 y2 y3 hf
            · intro M39 y40 y41 hf
              exact ih M39 y40 y41  hf
          · replace hf := ite_f c38 hf
            refine wX7_readNumbers_j63 C hs0 hL hTp _ pp ?_ M10 y2 y3 hf
            · intro M42 y43 y44 hf
              exact ih M42 y43 y44  hf
      · replace hf := ite_f c6 hf
        refine z_iconst C 0 dX7_readNumbers_19 (by decide) ?_
        cases hf
        exact z_zret C rfl nb0 dX7_readNumbers_20
set_option maxHeartbeats 4000000 in
set_option maxRecDepth 100000 in
theorem tX7_readNumbers (l : Launch) (G : GG) {K : SK} (hL : Lay K) (hTp : Tp K) (M : MM) (x1 : Int32) (pp : (Int32 × MM)) (hf : fX7_readNumbers M x1 = some pp) : Ct l yX7_readNumbers cX7_readNumbers 3 (some .boolean) 2 0 0 G K M [.ref (G.1 + 41), .int x1] (some (.int pp.1)) K pp.2 := by
  refine z_enter (lv := [(0, .ref (G.1 + 41)), (1, .int x1)]) (by decide +kernel) (Nat.le_of_ble_eq_true rfl) rfl ?_
  intro p e s m args below meth c C hnm hs0
  replace C : CX p s m args meth c cX7_readNumbers 3 (some .boolean) RX7 G := C
  unfold fX7_readNumbers at hf
  refine z_iconst C 0 dX7_readNumbers_0 (by decide) ?_
  refine z_istore_n C [(2, .int 0), (0, .ref (G.1 + 41)), (1, .int x1)] dX7_readNumbers_1 rfl (by decide) rfl rfl ?_
  refine z_lv (lv2 := [(0, .ref (G.1 + 41)), (1, .int x1), (2, .int 0)]) [1, 2, 0] rfl ?_
  exact wX7_readNumbers_l2 C hs0 hL hTp pp FU M x1 0 hf
set_option maxHeartbeats 4000000 in
set_option maxRecDepth 100000 in
theorem tX7_refuse (l : Launch) (G : GG) {K : SK} (hL : Lay K) (hTp : Tp K) (M : MM)  (pp : MM) (hf : fX7_refuse M = some pp) : Ct l yX7_refuse cX7_refuse 1 none 0 0 0 G K M [.ref (G.1 + 41)] none K pp := by
  refine z_enter (lv := [(0, .ref (G.1 + 41))]) (by decide +kernel) (Nat.le_of_ble_eq_true rfl) rfl ?_
  intro p e s m args below meth c C hnm hs0
  replace C : CX p s m args meth c cX7_refuse 1 none RX7 G := C
  unfold fX7_refuse at hf
  refine z_aload_n C 0 0 dX7_refuse_0 rfl rfl ?_
  refine z_iconst C 1 dX7_refuse_1 (by decide) ?_
  refine z_putI C ok_X7 (lay_c41 hL) 4 (by decide) rfl rfl rfl rfl q_fl_X7_60 dX7_refuse_2 ?_
  refine z_M (fun M1 e2 => ?_)
  replace hf := bnd_out e2 hf
  refine z_aload_n C 0 0 dX7_refuse_5 rfl rfl ?_
  refine z_aload_n C 0 0 dX7_refuse_6 rfl rfl ?_
  refine z_getI C ok_X7 (lay_c41 hL) 9 (by decide) rfl q_fl_X7_103 dX7_refuse_7 ?_
  refine z_putI C ok_X7 (lay_c41 hL) 5 (by decide) rfl rfl rfl rfl q_fl_X7_63 dX7_refuse_10 ?_
  refine z_M (fun M3 e4 => ?_)
  replace hf := bnd_out e4 hf
  cases hf
  exact z_vret C rfl dX7_refuse_13
set_option maxHeartbeats 4000000 in
set_option maxRecDepth 100000 in
theorem wX7_readLine_j116 (C : CX p s m args meth c cX7_readLine 3 none RX7 G) (hs0 : s.heap.size = G.1 + K.1) (hL : Lay K) (hTp : Tp K)  (pp : MM)  (M17 : MM) (hf : fX7_readLine_j116 M17 = some pp) : Z p l e (rmo 6 0 0) s m args below meth c 3 G (MQ below (QC G none K pp) args s 0 0 (AG G)) K 0 0 M17 116 [(0, .ref (G.1 + 41))] [] := by
  unfold fX7_readLine_j116 at hf
  refine z_aload_n C 0 0 dX7_readLine_116 rfl rfl ?_
  replace hf := bd_out hf
  obtain ⟨p18, e19, hf⟩ := hf
  refine z_cV0 C [] (tX7_nextToken l G hL hTp M17  _ e19) lk_X7_nextToken ok_X7 (lay_c41 hL) q_ml_X7_74 rfl ⟨Nat.le_of_ble_eq_true rfl, Nat.le_of_ble_eq_true rfl⟩ rfl (Nat.le_of_ble_eq_true rfl) ⟨Nat.le_refl _, Nat.le_refl _⟩ dX7_readLine_117 ?_
  cases hf
  exact z_vret C rfl dX7_readLine_120
set_option maxHeartbeats 4000000 in
set_option maxRecDepth 100000 in
theorem wX7_readLine_j91 (C : CX p s m args meth c cX7_readLine 3 none RX7 G) (hs0 : s.heap.size = G.1 + K.1) (hL : Lay K) (hTp : Tp K)  (pp : MM)  (M13 : MM) (y14 : Int32) (hf : fX7_readLine_j91 M13 y14 = some pp) : Z p l e (rmo 6 0 0) s m args below meth c 3 G (MQ below (QC G none K pp) args s 0 0 (AG G)) K 0 0 M13 91 [(0, .ref (G.1 + 41)), (2, .int y14)] [] := by
  unfold fX7_readLine_j91 at hf
  refine z_aload_n C 0 0 dX7_readLine_91 rfl rfl ?_
  refine z_getI C ok_X7 (lay_c41 hL) 8 (by decide) rfl q_fl_X7_77 dX7_readLine_92 ?_
  refine z_iconst C 3 dX7_readLine_95 (by decide) ?_
  refine z_icmp_eq C 104 dX7_readLine_96 (by decide) (fun c15 => ?_) (fun c15 => ?_)
  · replace hf := ite_t c15 hf
    refine z_aload_n C 0 0 dX7_readLine_104 rfl rfl ?_
    refine z_getI C ok_X7 (lay_c41 hL) 4 (by decide) rfl q_fl_X7_60 dX7_readLine_105 ?_
    refine z_if_ne C 116 dX7_readLine_108 (by decide) (fun c16 => ?_) (fun c16 => ?_)
    · replace hf := ite_f c16 hf
      refine z_lv (lv2 := [(0, .ref (G.1 + 41))]) [0] rfl ?_
      exact wX7_readLine_j116 C hs0 hL hTp pp M13 hf
    · replace hf := ite_t c16 hf
      refine z_aload_n C 0 0 dX7_readLine_111 rfl rfl ?_
      refine z_iload_n C 1 2 dX7_readLine_112 rfl rfl ?_
      replace hf := bd_out hf
      obtain ⟨p20, e21, hf⟩ := hf
      refine z_cV0 C [] (tX7_keep l G hL hTp M13 y14 _ e21) lk_X7_keep ok_X7 (lay_c41 hL) q_ml_X7_112 rfl ⟨Nat.le_of_ble_eq_true rfl, Nat.le_of_ble_eq_true rfl⟩ rfl (Nat.le_of_ble_eq_true rfl) ⟨Nat.le_refl _, Nat.le_refl _⟩ dX7_readLine_113 ?_
      refine z_lv (lv2 := [(0, .ref (G.1 + 41))]) [0] rfl ?_
      exact wX7_readLine_j116 C hs0 hL hTp pp p20 hf
  · replace hf := ite_f c15 hf
    refine z_aload_n C 0 0 dX7_readLine_99 rfl rfl ?_
    replace hf := bd_out hf
    obtain ⟨p22, e23, hf⟩ := hf
    refine z_cV0 C [] (tX7_refuse l G hL hTp M13  _ e23) lk_X7_refuse ok_X7 (lay_c41 hL) q_ml_X7_96 rfl ⟨Nat.le_of_ble_eq_true rfl, Nat.le_of_ble_eq_true rfl⟩ rfl (Nat.le_of_ble_eq_true rfl) ⟨Nat.le_refl _, Nat.le_refl _⟩ dX7_readLine_100 ?_
    cases hf
    exact z_vret C rfl dX7_readLine_103
set_option maxHeartbeats 4000000 in
set_option maxRecDepth 100000 in
theorem wX7_readLine_j82 (C : CX p s m args meth c cX7_readLine 3 none RX7 G) (hs0 : s.heap.size = G.1 + K.1) (hL : Lay K) (hTp : Tp K)  (pp : MM)  (M29 : MM) (hf : fX7_readLine_j82 M29 = some pp) : Z p l e (rmo 6 0 0) s m args below meth c 3 G (MQ below (QC G none K pp) args s 0 0 (AG G)) K 0 0 M29 82 [(0, .ref (G.1 + 41))] [] := by
  unfold fX7_readLine_j82 at hf
  refine z_aload_n C 0 0 dX7_readLine_82 rfl rfl ?_
  replace hf := bd_out hf
  obtain ⟨p30, e31, hf⟩ := hf
  refine z_cV0 C [] (tX7_refuse l G hL hTp M29  _ e31) lk_X7_refuse ok_X7 (lay_c41 hL) q_ml_X7_96 rfl ⟨Nat.le_of_ble_eq_true rfl, Nat.le_of_ble_eq_true rfl⟩ rfl (Nat.le_of_ble_eq_true rfl) ⟨Nat.le_refl _, Nat.le_refl _⟩ dX7_readLine_83 ?_
  cases hf
  exact z_vret C rfl dX7_readLine_86
set_option maxHeartbeats 4000000 in
set_option maxRecDepth 100000 in
theorem wX7_readLine_j33 (C : CX p s m args meth c cX7_readLine 3 none RX7 G) (hs0 : s.heap.size = G.1 + K.1) (hL : Lay K) (hTp : Tp K)  (pp : MM)  (M5 : MM) (y6 : Int32) (hf : fX7_readLine_j33 M5 y6 = some pp) : Z p l e (rmo 6 0 0) s m args below meth c 3 G (MQ below (QC G none K pp) args s 0 0 (AG G)) K 0 0 M5 33 [(0, .ref (G.1 + 41)), (2, .int y6)] [] := by
  unfold fX7_readLine_j33 at hf
  refine z_aload_n C 0 0 dX7_readLine_33 rfl rfl ?_
  replace hf := bd_out hf
  obtain ⟨p7, e8, hf⟩ := hf
  refine z_cV0 C [] (tX7_nextToken l G hL hTp M5  _ e8) lk_X7_nextToken ok_X7 (lay_c41 hL) q_ml_X7_74 rfl ⟨Nat.le_of_ble_eq_true rfl, Nat.le_of_ble_eq_true rfl⟩ rfl (Nat.le_of_ble_eq_true rfl) ⟨Nat.le_refl _, Nat.le_refl _⟩ dX7_readLine_34 ?_
  refine z_aload_n C 0 0 dX7_readLine_37 rfl rfl ?_
  refine z_iload_n C 1 2 dX7_readLine_38 rfl rfl ?_
  replace hf := bd_out hf
  obtain ⟨p9, e10, hf⟩ := hf
  refine z_cV1 C [] (tX7_readNumbers l G hL hTp p7 y6 _ e10) lk_X7_readNumbers ok_X7 (lay_c41 hL) q_ml_X7_106 rfl ⟨Nat.le_of_ble_eq_true rfl, Nat.le_of_ble_eq_true rfl⟩ rfl (Nat.le_of_ble_eq_true rfl) ⟨Nat.le_refl _, Nat.le_refl _⟩ dX7_readLine_39 ?_
  refine z_if_ne C 50 dX7_readLine_42 (by decide) (fun c11 => ?_) (fun c11 => ?_)
  · replace hf := ite_f c11 hf
    refine z_iload_n C 1 2 dX7_readLine_50 rfl rfl ?_
    refine z_bipush C 12 dX7_readLine_51 (by decide) ?_
    refine z_icmp_ne C 91 dX7_readLine_53 (by decide) (fun c12 => ?_) (fun c12 => ?_)
    · replace hf := ite_f c12 hf
      exact wX7_readLine_j91 C hs0 hL hTp pp p9.2 y6 hf
    · replace hf := ite_t c12 hf
      refine z_aload_n C 0 0 dX7_readLine_56 rfl rfl ?_
      refine z_aload_n C 0 0 dX7_readLine_57 rfl rfl ?_
      refine z_iconst C 0 dX7_readLine_58 (by decide) ?_
      replace hf := bd_out hf
      obtain ⟨p24, e25, hf⟩ := hf
      refine z_cV1 C [.ref (G.1 + 41)] (tX7_lineOf l G hL hTp p9.2 0 _ e25) lk_X7_lineOf ok_X7 (lay_c41 hL) q_ml_X7_92 rfl ⟨Nat.le_of_ble_eq_true rfl, Nat.le_of_ble_eq_true rfl⟩ rfl (Nat.le_of_ble_eq_true rfl) ⟨Nat.le_refl _, Nat.le_refl _⟩ dX7_readLine_59 ?_
      refine z_iconst C 3 dX7_readLine_62 (by decide) ?_
      refine z_isub C dX7_readLine_63 ?_
      refine z_putI C ok_X7 (lay_c41 hL) 11 (by decide) rfl rfl rfl rfl q_fl_X7_109 dX7_readLine_64 ?_
      refine z_M (fun M26 e27 => ?_)
      replace hf := bnd_out e27 hf
      refine z_aload_n C 0 0 dX7_readLine_67 rfl rfl ?_
      refine z_getI C ok_X7 (lay_c41 hL) 11 (by decide) rfl q_fl_X7_109 dX7_readLine_68 ?_
      refine z_if_lt C 82 dX7_readLine_71 (by decide) (fun c28 => ?_) (fun c28 => ?_)
      · replace hf := ite_t c28 hf
        refine z_lv (lv2 := [(0, .ref (G.1 + 41))]) [0] rfl ?_
        exact wX7_readLine_j82 C hs0 hL hTp pp M26 hf
      · replace hf := ite_f c28 hf
        refine z_aload_n C 0 0 dX7_readLine_74 rfl rfl ?_
        refine z_getI C ok_X7 (lay_c41 hL) 11 (by decide) rfl q_fl_X7_109 dX7_readLine_75 ?_
        refine z_iconst C 3 dX7_readLine_78 (by decide) ?_
        refine z_icmp_le C 87 dX7_readLine_79 (by decide) (fun c32 => ?_) (fun c32 => ?_)
        · replace hf := ite_t c32 hf
          refine z_aload_n C 0 0 dX7_readLine_87 rfl rfl ?_
          replace hf := bd_out hf
          obtain ⟨p33, e34, hf⟩ := hf
          refine z_cV0 C [] (tX7_nextToken l G hL hTp M26  _ e34) lk_X7_nextToken ok_X7 (lay_c41 hL) q_ml_X7_74 rfl ⟨Nat.le_of_ble_eq_true rfl, Nat.le_of_ble_eq_true rfl⟩ rfl (Nat.le_of_ble_eq_true rfl) ⟨Nat.le_refl _, Nat.le_refl _⟩ dX7_readLine_88 ?_
          exact wX7_readLine_j91 C hs0 hL hTp pp p33 y6 hf
        · replace hf := ite_f c32 hf
          refine z_lv (lv2 := [(0, .ref (G.1 + 41))]) [0] rfl ?_
          exact wX7_readLine_j82 C hs0 hL hTp pp M26 hf
  · replace hf := ite_t c11 hf
    refine z_aload_n C 0 0 dX7_readLine_45 rfl rfl ?_
    replace hf := bd_out hf
    obtain ⟨p35, e36, hf⟩ := hf
    refine z_cV0 C [] (tX7_refuse l G hL hTp p9.2  _ e36) lk_X7_refuse ok_X7 (lay_c41 hL) q_ml_X7_96 rfl ⟨Nat.le_of_ble_eq_true rfl, Nat.le_of_ble_eq_true rfl⟩ rfl (Nat.le_of_ble_eq_true rfl) ⟨Nat.le_refl _, Nat.le_refl _⟩ dX7_readLine_46 ?_
    cases hf
    exact z_vret C rfl dX7_readLine_49
set_option maxHeartbeats 4000000 in
set_option maxRecDepth 100000 in
theorem tX7_readLine (l : Launch) (G : GG) {K : SK} (hL : Lay K) (hTp : Tp K) (M : MM) (x1 : Int32) (pp : MM) (hf : fX7_readLine M x1 = some pp) : Ct l yX7_readLine cX7_readLine 3 none 6 0 0 G K M [.ref (G.1 + 41), .int x1] none K pp := by
  refine z_enter (lv := [(0, .ref (G.1 + 41)), (1, .int x1)]) (by decide +kernel) (Nat.le_of_ble_eq_true rfl) rfl ?_
  intro p e s m args below meth c C hnm hs0
  replace C : CX p s m args meth c cX7_readLine 3 none RX7 G := C
  unfold fX7_readLine at hf
  refine z_aload_n C 0 0 dX7_readLine_0 rfl rfl ?_
  refine z_iload_n C 1 1 dX7_readLine_1 rfl rfl ?_
  replace hf := bd_out hf
  obtain ⟨p1, e2, hf⟩ := hf
  refine z_cV1 C [] (tX7_lineOf l G hL hTp M x1 _ e2) lk_X7_lineOf ok_X7 (lay_c41 hL) q_ml_X7_92 rfl ⟨Nat.le_of_ble_eq_true rfl, Nat.le_of_ble_eq_true rfl⟩ rfl (Nat.le_of_ble_eq_true rfl) ⟨Nat.le_refl _, Nat.le_refl _⟩ dX7_readLine_2 ?_
  refine z_istore_n C [(2, .int p1), (0, .ref (G.1 + 41)), (1, .int x1)] dX7_readLine_5 rfl (by decide) rfl rfl ?_
  refine z_iload_n C 0 2 dX7_readLine_6 rfl rfl ?_
  refine z_iconst C (-1) dX7_readLine_7 (by decide) ?_
  refine z_icmp_ne C 16 dX7_readLine_8 (by decide) (fun c3 => ?_) (fun c3 => ?_)
  · replace hf := ite_f c3 hf
    refine z_aload_n C 1 0 dX7_readLine_16 rfl rfl ?_
    refine z_iload_n C 0 2 dX7_readLine_17 rfl rfl ?_
    refine z_cV1 C [] (tX7_isFull l G hL hTp M p1) lk_X7_isFull ok_X7 (lay_c41 hL) q_ml_X7_99 rfl ⟨Nat.le_of_ble_eq_true rfl, Nat.le_of_ble_eq_true rfl⟩ rfl (Nat.le_of_ble_eq_true rfl) ⟨Nat.le_refl _, Nat.le_refl _⟩ dX7_readLine_18 ?_
    refine z_if_eq C 33 dX7_readLine_21 (by decide) (fun c4 => ?_) (fun c4 => ?_)
    · replace hf := ite_t c4 hf
      refine z_lv (lv2 := [(0, .ref (G.1 + 41)), (2, .int p1)]) [1, 0] rfl ?_
      exact wX7_readLine_j33 C hs0 hL hTp pp M p1 hf
    · replace hf := ite_f c4 hf
      refine z_aload_n C 1 0 dX7_readLine_24 rfl rfl ?_
      refine z_iconst C 3 dX7_readLine_25 (by decide) ?_
      refine z_aload_n C 1 0 dX7_readLine_26 rfl rfl ?_
      refine z_getI C ok_X7 (lay_c41 hL) 9 (by decide) rfl q_fl_X7_103 dX7_readLine_27 ?_
      replace hf := bd_out hf
      obtain ⟨p37, e38, hf⟩ := hf
      refine z_cV0 C [] (tX7_mark l G hL hTp M 3 (gI M 41 9) _ e38) lk_X7_mark ok_X7 (lay_c41 hL) q_ml_X7_88 rfl ⟨Nat.le_of_ble_eq_true rfl, Nat.le_of_ble_eq_true rfl⟩ rfl (Nat.le_of_ble_eq_true rfl) ⟨Nat.le_refl _, Nat.le_refl _⟩ dX7_readLine_30 ?_
      refine z_lv (lv2 := [(0, .ref (G.1 + 41)), (2, .int p1)]) [1, 0] rfl ?_
      exact wX7_readLine_j33 C hs0 hL hTp pp p37 p1 hf
  · replace hf := ite_t c3 hf
    refine z_aload_n C 1 0 dX7_readLine_11 rfl rfl ?_
    replace hf := bd_out hf
    obtain ⟨p39, e40, hf⟩ := hf
    refine z_cV0 C [] (tX7_refuse l G hL hTp M  _ e40) lk_X7_refuse ok_X7 (lay_c41 hL) q_ml_X7_96 rfl ⟨Nat.le_of_ble_eq_true rfl, Nat.le_of_ble_eq_true rfl⟩ rfl (Nat.le_of_ble_eq_true rfl) ⟨Nat.le_refl _, Nat.le_refl _⟩ dX7_readLine_12 ?_
    cases hf
    exact z_vret C rfl dX7_readLine_15
set_option maxHeartbeats 4000000 in
set_option maxRecDepth 100000 in
theorem wX7_read_l66 (C : CX p s m args meth c cX7_read 5 none RX7 G) (hs0 : s.heap.size = G.1 + K.1) (hL : Lay K) (hTp : Tp K) (k100 : MM → Int32 → Option MM) (pp : MM) (hk100 : ∀ (M23 : MM) (y24 : Int32), k100 M23 y24 = some pp → Z p l e (rmo 7 0 0) s m args below meth c 5 G (MQ below (QC G none K pp) args s 0 0 (AG G)) K 0 0 M23 100 [(0, .ref (G.1 + 41)), (3, .int y24)] []) : ∀ (n : Nat) (M19 : MM) (y20 : Int32) (y21 : Int32) (hf : fX7_read_l66 k100 n M19 y20 y21 = some pp), Z p l e (rmo 7 0 0) s m args below meth c 5 G (MQ below (QC G none K pp) args s 0 0 (AG G)) K 0 0 M19 66 [(0, .ref (G.1 + 41)), (3, .int y20), (4, .int y21)] [] := by
  intro n
  induction n with
  | zero => intro M19 y20 y21 hf; exact nomatch (show (none : Option MM) = some pp from hf)
  | succ n ih =>
    intro M19 y20 y21 hf
    rw [fX7_read_l66.eq_2] at hf
    refine z_iload C 2 dX7_read_66 rfl ?_
    refine z_sipush C 600 dX7_read_68 (by decide) ?_
    refine z_icmp_ge C 100 dX7_read_71 (by decide) (fun c22 => ?_) (fun c22 => ?_)
    · replace hf := ite_t c22 hf
      refine z_lv (lv2 := [(0, .ref (G.1 + 41)), (3, .int y20)]) [0, 1] rfl ?_
      exact hk100 M19 y20  hf
    · replace hf := ite_f c22 hf
      refine z_aload_n C 0 0 dX7_read_74 rfl rfl ?_
      refine z_getI C ok_X7 (lay_c41 hL) 8 (by decide) rfl q_fl_X7_77 dX7_read_75 ?_
      refine z_if_eq C 100 dX7_read_78 (by decide) (fun c25 => ?_) (fun c25 => ?_)
      · replace hf := ite_t c25 hf
        refine z_lv (lv2 := [(0, .ref (G.1 + 41)), (3, .int y20)]) [0, 1] rfl ?_
        exact hk100 M19 y20  hf
      · replace hf := ite_f c25 hf
        refine z_aload_n C 0 0 dX7_read_81 rfl rfl ?_
        refine z_getI C ok_X7 (lay_c41 hL) 4 (by decide) rfl q_fl_X7_60 dX7_read_82 ?_
        refine z_iconst C 1 dX7_read_85 (by decide) ?_
        refine z_icmp_eq C 100 dX7_read_86 (by decide) (fun c26 => ?_) (fun c26 => ?_)
        · replace hf := ite_t c26 hf
          refine z_lv (lv2 := [(0, .ref (G.1 + 41)), (3, .int y20)]) [0, 1] rfl ?_
          exact hk100 M19 y20  hf
        · replace hf := ite_f c26 hf
          refine z_aload_n C 0 0 dX7_read_89 rfl rfl ?_
          refine z_iload_n C 1 3 dX7_read_90 rfl rfl ?_
          replace hf := bd_out hf
          obtain ⟨p27, e28, hf⟩ := hf
          refine z_cV0 C [] (tX7_readLine l G hL hTp M19 y20 _ e28) lk_X7_readLine ok_X7 (lay_c41 hL) q_ml_X7_80 rfl ⟨Nat.le_of_ble_eq_true rfl, Nat.le_of_ble_eq_true rfl⟩ rfl (Nat.le_of_ble_eq_true rfl) ⟨Nat.le_refl _, Nat.le_refl _⟩ dX7_read_91 ?_
          refine z_iinc C 2 (y21 + 1) [(4, .int (y21 + 1)), (0, .ref (G.1 + 41)), (3, .int y20)] dX7_read_94 rfl rfl (by decide) rfl rfl ?_
          refine z_goto C 66 dX7_read_97 (by decide) ?_
          refine z_lv (lv2 := [(0, .ref (G.1 + 41)), (3, .int y20), (4, .int (y21 + 1))]) [1, 2, 0] rfl ?_
          exact ih p27 y20 (y21 + 1)  hf
set_option maxHeartbeats 4000000 in
set_option maxRecDepth 100000 in
theorem wX7_read_j100 (C : CX p s m args meth c cX7_read 5 none RX7 G) (hs0 : s.heap.size = G.1 + K.1) (hL : Lay K) (hTp : Tp K)  (pp : MM)  (M31 : MM) (y32 : Int32) (hf : fX7_read_j100 M31 y32 = some pp) : Z p l e (rmo 7 0 0) s m args below meth c 5 G (MQ below (QC G none K pp) args s 0 0 (AG G)) K 0 0 M31 100 [(0, .ref (G.1 + 41)), (3, .int y32)] [] := by
  unfold fX7_read_j100 at hf
  refine z_aload_n C 0 0 dX7_read_100 rfl rfl ?_
  refine z_getI C ok_X7 (lay_c41 hL) 4 (by decide) rfl q_fl_X7_60 dX7_read_101 ?_
  refine z_if_ne C 126 dX7_read_104 (by decide) (fun c33 => ?_) (fun c33 => ?_)
  · replace hf := ite_f c33 hf
    cases hf
    exact z_vret C rfl dX7_read_126
  · replace hf := ite_t c33 hf
    refine z_iload_n C 1 3 dX7_read_107 rfl rfl ?_
    refine z_if_ne C 126 dX7_read_108 (by decide) (fun c34 => ?_) (fun c34 => ?_)
    · replace hf := ite_f c34 hf
      cases hf
      exact z_vret C rfl dX7_read_126
    · replace hf := ite_t c34 hf
      refine z_aload_n C 0 0 dX7_read_111 rfl rfl ?_
      refine z_aload_n C 0 0 dX7_read_112 rfl rfl ?_
      refine z_getR C ok_X7 (lay_c41 hL) 0 (42) (by decide) rfl (lay_r41_0 hL) q_fl_X7_12 dX7_read_113 ?_
      replace hf := bd_out hf
      obtain ⟨p35, e36, hf⟩ := hf
      refine z_cV1 C [.ref (G.1 + 41)] (tX5_settle l G hL M31  _ e36) lk_X5_settle ok_X5 (lay_c42 hL) q_ml_X7_84 rfl ⟨Nat.le_of_ble_eq_true rfl, Nat.le_of_ble_eq_true rfl⟩ rfl (Nat.le_of_ble_eq_true rfl) ⟨Nat.le_refl _, Nat.le_refl _⟩ dX7_read_116 ?_
      refine z_aload_n C 0 0 dX7_read_119 rfl rfl ?_
      refine z_getI C ok_X7 (lay_c41 hL) 7 (by decide) rfl q_fl_X7_53 dX7_read_120 ?_
      replace hf := bd_out hf
      obtain ⟨p37, e38, hf⟩ := hf
      refine z_cV0 C [] (tX7_mark l G hL hTp p35.2 p35.1 (gI p35.2 41 7) _ e38) lk_X7_mark ok_X7 (lay_c41 hL) q_ml_X7_88 rfl ⟨Nat.le_of_ble_eq_true rfl, Nat.le_of_ble_eq_true rfl⟩ rfl (Nat.le_of_ble_eq_true rfl) ⟨Nat.le_refl _, Nat.le_refl _⟩ dX7_read_123 ?_
      cases hf
      exact z_vret C rfl dX7_read_126
set_option maxHeartbeats 4000000 in
set_option maxRecDepth 100000 in
theorem tX7_read (l : Launch) (G : GG) {K : SK} (hL : Lay K) (M : MM) (x2 : Int32) (x3 : Int32) (pp : MM) (hf : fX7_read M x2 x3 = some pp) : Ct l yX7_read cX7_read 5 none 7 0 0 G K M [.ref (G.1 + 41), .ref (G.1 + 39), .int x2, .int x3] none (kSet K 41 6 39) pp := by
  refine z_enter (lv := [(0, .ref (G.1 + 41)), (1, .ref (G.1 + 39)), (2, .int x2), (3, .int x3)]) (by decide +kernel) (Nat.le_of_ble_eq_true rfl) rfl ?_
  intro p e s m args below meth c C hnm hs0
  replace C : CX p s m args meth c cX7_read 5 none RX7 G := C
  unfold fX7_read at hf
  refine z_aload_n C 0 0 dX7_read_0 rfl rfl ?_
  refine z_aload_n C 1 1 dX7_read_1 rfl rfl ?_
  refine z_putR C ok_X7 (lay_c41 hL) 6 (by decide) rfl rfl rfl rfl q_fl_X7_43 dX7_read_2 ?_
  have hTp : Tp (kSet K 41 6 39) := tp_set
  replace hL : Lay (kSet K 41 6 39) := lay_set hL
  replace hs0 : s.heap.size = G.1 + (kSet K 41 6 39).1 := hs0
  generalize kSet K 41 6 39 = K at hTp hL hs0 ⊢
  refine z_aload_n C 0 0 dX7_read_5 rfl rfl ?_
  refine z_iload_n C 2 2 dX7_read_6 rfl rfl ?_
  refine z_aload_n C 1 1 dX7_read_7 rfl rfl ?_
  refine z_alen C 2 _ (lay_c39 hL) (by decide) rfl dX7_read_8 ?_
  refine z_mmin C lkm_min q_ml_X7_47 (Nat.le_of_ble_eq_true rfl) (Nat.le_of_ble_eq_true rfl) ⟨Nat.le_refl _, Nat.le_refl _⟩ dX7_read_9 ?_
  refine z_putI C ok_X7 (lay_c41 hL) 7 (by decide) rfl rfl rfl rfl q_fl_X7_53 dX7_read_12 ?_
  refine z_M (fun M1 e2 => ?_)
  replace hf := bnd_out e2 hf
  refine z_aload_n C 0 0 dX7_read_15 rfl rfl ?_
  refine z_iconst C 0 dX7_read_16 (by decide) ?_
  refine z_putI C ok_X7 (lay_c41 hL) 10 (by decide) rfl rfl rfl rfl q_fl_X7_57 dX7_read_17 ?_
  refine z_M (fun M3 e4 => ?_)
  replace hf := bnd_out e4 hf
  refine z_aload_n C 0 0 dX7_read_20 rfl rfl ?_
  refine z_iconst C 0 dX7_read_21 (by decide) ?_
  refine z_putI C ok_X7 (lay_c41 hL) 4 (by decide) rfl rfl rfl rfl q_fl_X7_60 dX7_read_22 ?_
  refine z_M (fun M5 e6 => ?_)
  replace hf := bnd_out e6 hf
  refine z_aload_n C 0 0 dX7_read_25 rfl rfl ?_
  refine z_iconst C (-1) dX7_read_26 (by decide) ?_
  refine z_putI C ok_X7 (lay_c41 hL) 5 (by decide) rfl rfl rfl rfl q_fl_X7_63 dX7_read_27 ?_
  refine z_M (fun M7 e8 => ?_)
  replace hf := bnd_out e8 hf
  refine z_aload_n C 0 0 dX7_read_30 rfl rfl ?_
  refine z_getR C ok_X7 (lay_c41 hL) 0 (42) (by decide) rfl (lay_r41_0 hL) q_fl_X7_12 dX7_read_31 ?_
  replace hf := bd_out hf
  obtain ⟨p9, e10, hf⟩ := hf
  refine z_cV0 C [] (tX5_clear l G hL M7  _ e10) lk_X5_clear ok_X5 (lay_c42 hL) q_ml_X7_66 rfl ⟨Nat.le_of_ble_eq_true rfl, Nat.le_of_ble_eq_true rfl⟩ rfl (Nat.le_of_ble_eq_true rfl) ⟨Nat.le_refl _, Nat.le_refl _⟩ dX7_read_34 ?_
  refine z_aload_n C 0 0 dX7_read_37 rfl rfl ?_
  refine z_getR C ok_X7 (lay_c41 hL) 1 (51) (by decide) rfl (lay_r41_1 hL) q_fl_X7_21 dX7_read_38 ?_
  replace hf := bd_out hf
  obtain ⟨p11, e12, hf⟩ := hf
  refine z_cV0 C [] (tX4_clear l G hL p9  _ e12) lk_X4_clear ok_X4 (lay_c51 hL) q_ml_X7_69 rfl ⟨Nat.le_of_ble_eq_true rfl, Nat.le_of_ble_eq_true rfl⟩ rfl (Nat.le_of_ble_eq_true rfl) ⟨Nat.le_refl _, Nat.le_refl _⟩ dX7_read_41 ?_
  refine z_aload_n C 0 0 dX7_read_44 rfl rfl ?_
  refine z_getR C ok_X7 (lay_c41 hL) 2 (52) (by decide) rfl (lay_r41_2 hL) q_fl_X7_28 dX7_read_45 ?_
  refine z_iconst C 0 dX7_read_48 (by decide) ?_
  refine z_putI C ok_X2 (lay_c52 hL) 0 (by decide) rfl rfl rfl rfl q_fl_X7_70 dX7_read_49 ?_
  refine z_M (fun M13 e14 => ?_)
  replace hf := bnd_out e14 hf
  refine z_aload_n C 0 0 dX7_read_52 rfl rfl ?_
  refine z_getR C ok_X7 (lay_c41 hL) 3 (56) (by decide) rfl (lay_r41_3 hL) q_fl_X7_35 dX7_read_53 ?_
  replace hf := bd_out hf
  obtain ⟨p15, e16, hf⟩ := hf
  refine z_cV0 C [] (tX8_clear l G hL M13  _ e16) lk_X8_clear ok_X8 (lay_c56 hL) q_ml_X7_73 rfl ⟨Nat.le_of_ble_eq_true rfl, Nat.le_of_ble_eq_true rfl⟩ rfl (Nat.le_of_ble_eq_true rfl) ⟨Nat.le_refl _, Nat.le_refl _⟩ dX7_read_56 ?_
  refine z_aload_n C 0 0 dX7_read_59 rfl rfl ?_
  replace hf := bd_out hf
  obtain ⟨p17, e18, hf⟩ := hf
  refine z_cV0 C [] (tX7_nextToken l G hL hTp p15  _ e18) lk_X7_nextToken ok_X7 (lay_c41 hL) q_ml_X7_74 rfl ⟨Nat.le_of_ble_eq_true rfl, Nat.le_of_ble_eq_true rfl⟩ rfl (Nat.le_of_ble_eq_true rfl) ⟨Nat.le_refl _, Nat.le_refl _⟩ dX7_read_60 ?_
  refine z_iconst C 0 dX7_read_63 (by decide) ?_
  refine z_istore C [(4, .int 0), (0, .ref (G.1 + 41)), (1, .ref (G.1 + 39)), (2, .int x2), (3, .int x3)] dX7_read_64 (by decide) rfl rfl ?_
  refine z_lv (lv2 := [(0, .ref (G.1 + 41)), (3, .int x3), (4, .int 0)]) [1, 4, 0] rfl ?_
  refine wX7_read_l66 C hs0 hL hTp _ pp ?_ FU p17 x3 0 hf
  · intro M29 y30 hf
    exact wX7_read_j100 C hs0 hL hTp pp M29 y30 hf
end
