theorem dX12_isIn_0 : decode cX12_isIn 0 = .ok (.iload_n 0, 1) := by decide +kernel
theorem dX12_isIn_1 : decode cX12_isIn 1 = .ok (.iload_n 1, 1) := by decide +kernel
theorem dX12_isIn_2 : decode cX12_isIn 2 = .ok (.if_icmp .lt 12, 3) := by decide +kernel
theorem dX12_isIn_5 : decode cX12_isIn 5 = .ok (.iload_n 0, 1) := by decide +kernel
theorem dX12_isIn_6 : decode cX12_isIn 6 = .ok (.iload_n 2, 1) := by decide +kernel
theorem dX12_isIn_7 : decode cX12_isIn 7 = .ok (.if_icmp .gt 7, 3) := by decide +kernel
theorem dX12_isIn_10 : decode cX12_isIn 10 = .ok (.iconst 1, 1) := by decide +kernel
theorem dX12_isIn_11 : decode cX12_isIn 11 = .ok (.goto 4, 3) := by decide +kernel
theorem dX12_isIn_14 : decode cX12_isIn 14 = .ok (.iconst 0, 1) := by decide +kernel
theorem dX12_isIn_15 : decode cX12_isIn 15 = .ok (.ireturn, 1) := by decide +kernel
theorem dX12_feed_0 : decode cX12_feed 0 = .ok (.aload_n 0, 1) := by decide +kernel
theorem dX12_feed_1 : decode cX12_feed 1 = .ok (.getfield 7, 3) := by decide +kernel
theorem dX12_feed_4 : decode cX12_feed 4 = .ok (.iconst 4, 1) := by decide +kernel
theorem dX12_feed_5 : decode cX12_feed 5 = .ok (.iaload, 1) := by decide +kernel
theorem dX12_feed_6 : decode cX12_feed 6 = .ok (.bipush 20, 2) := by decide +kernel
theorem dX12_feed_8 : decode cX12_feed 8 = .ok (.iadd, 1) := by decide +kernel
theorem dX12_feed_9 : decode cX12_feed 9 = .ok (.sipush 600, 3) := by decide +kernel
theorem dX12_feed_12 : decode cX12_feed 12 = .ok (.if_icmp .le 5, 3) := by decide +kernel
theorem dX12_feed_15 : decode cX12_feed 15 = .ok (.iconst (-1), 1) := by decide +kernel
theorem dX12_feed_16 : decode cX12_feed 16 = .ok (.ireturn, 1) := by decide +kernel
theorem dX12_feed_17 : decode cX12_feed 17 = .ok (.iconst 0, 1) := by decide +kernel
theorem dX12_feed_18 : decode cX12_feed 18 = .ok (.istore 6, 2) := by decide +kernel
theorem dX12_feed_20 : decode cX12_feed 20 = .ok (.iload 6, 2) := by decide +kernel
theorem dX12_feed_22 : decode cX12_feed 22 = .ok (.bipush 20, 2) := by decide +kernel
theorem dX12_feed_24 : decode cX12_feed 24 = .ok (.if_icmp .ge 98, 3) := by decide +kernel
theorem dX12_feed_27 : decode cX12_feed 27 = .ok (.iload 6, 2) := by decide +kernel
theorem dX12_feed_29 : decode cX12_feed 29 = .ok (.iconst 4, 1) := by decide +kernel
theorem dX12_feed_30 : decode cX12_feed 30 = .ok (.if_icmp .ge 7, 3) := by decide +kernel
theorem dX12_feed_33 : decode cX12_feed 33 = .ok (.iload_n 1, 1) := by decide +kernel
theorem dX12_feed_34 : decode cX12_feed 34 = .ok (.goto 39, 3) := by decide +kernel
theorem dX12_feed_37 : decode cX12_feed 37 = .ok (.iload 6, 2) := by decide +kernel
theorem dX12_feed_39 : decode cX12_feed 39 = .ok (.bipush 8, 2) := by decide +kernel
theorem dX12_feed_41 : decode cX12_feed 41 = .ok (.if_icmp .ge 7, 3) := by decide +kernel
theorem dX12_feed_44 : decode cX12_feed 44 = .ok (.iload_n 2, 1) := by decide +kernel
theorem dX12_feed_45 : decode cX12_feed 45 = .ok (.goto 28, 3) := by decide +kernel
theorem dX12_feed_48 : decode cX12_feed 48 = .ok (.iload 6, 2) := by decide +kernel
theorem dX12_feed_50 : decode cX12_feed 50 = .ok (.bipush 12, 2) := by decide +kernel
theorem dX12_feed_52 : decode cX12_feed 52 = .ok (.if_icmp .ge 7, 3) := by decide +kernel
theorem dX12_feed_55 : decode cX12_feed 55 = .ok (.iload_n 3, 1) := by decide +kernel
theorem dX12_feed_56 : decode cX12_feed 56 = .ok (.goto 17, 3) := by decide +kernel
theorem dX12_feed_59 : decode cX12_feed 59 = .ok (.iload 6, 2) := by decide +kernel
theorem dX12_feed_61 : decode cX12_feed 61 = .ok (.bipush 16, 2) := by decide +kernel
theorem dX12_feed_63 : decode cX12_feed 63 = .ok (.if_icmp .ge 8, 3) := by decide +kernel
theorem dX12_feed_66 : decode cX12_feed 66 = .ok (.iload 4, 2) := by decide +kernel
theorem dX12_feed_68 : decode cX12_feed 68 = .ok (.goto 5, 3) := by decide +kernel
theorem dX12_feed_71 : decode cX12_feed 71 = .ok (.iload 5, 2) := by decide +kernel
theorem dX12_feed_73 : decode cX12_feed 73 = .ok (.istore 7, 2) := by decide +kernel
theorem dX12_feed_75 : decode cX12_feed 75 = .ok (.aload_n 0, 1) := by decide +kernel
theorem dX12_feed_76 : decode cX12_feed 76 = .ok (.getfield 7, 3) := by decide +kernel
theorem dX12_feed_79 : decode cX12_feed 79 = .ok (.bipush 10, 2) := by decide +kernel
theorem dX12_feed_81 : decode cX12_feed 81 = .ok (.aload_n 0, 1) := by decide +kernel
theorem dX12_feed_82 : decode cX12_feed 82 = .ok (.getfield 7, 3) := by decide +kernel
theorem dX12_feed_85 : decode cX12_feed 85 = .ok (.iconst 4, 1) := by decide +kernel
theorem dX12_feed_86 : decode cX12_feed 86 = .ok (.iaload, 1) := by decide +kernel
theorem dX12_feed_87 : decode cX12_feed 87 = .ok (.iadd, 1) := by decide +kernel
theorem dX12_feed_88 : decode cX12_feed 88 = .ok (.iload 7, 2) := by decide +kernel
theorem dX12_feed_90 : decode cX12_feed 90 = .ok (.bipush 24, 2) := by decide +kernel
theorem dX12_feed_92 : decode cX12_feed 92 = .ok (.bipush 8, 2) := by decide +kernel
theorem dX12_feed_94 : decode cX12_feed 94 = .ok (.iload 6, 2) := by decide +kernel
theorem dX12_feed_96 : decode cX12_feed 96 = .ok (.iconst 4, 1) := by decide +kernel
theorem dX12_feed_97 : decode cX12_feed 97 = .ok (.irem, 1) := by decide +kernel
theorem dX12_feed_98 : decode cX12_feed 98 = .ok (.imul, 1) := by decide +kernel
theorem dX12_feed_99 : decode cX12_feed 99 = .ok (.isub, 1) := by decide +kernel
theorem dX12_feed_100 : decode cX12_feed 100 = .ok (.ishr, 1) := by decide +kernel
theorem dX12_feed_101 : decode cX12_feed 101 = .ok (.sipush 255, 3) := by decide +kernel
theorem dX12_feed_104 : decode cX12_feed 104 = .ok (.iand, 1) := by decide +kernel
theorem dX12_feed_105 : decode cX12_feed 105 = .ok (.iastore, 1) := by decide +kernel
theorem dX12_feed_106 : decode cX12_feed 106 = .ok (.aload_n 0, 1) := by decide +kernel
theorem dX12_feed_107 : decode cX12_feed 107 = .ok (.getfield 7, 3) := by decide +kernel
theorem dX12_feed_110 : decode cX12_feed 110 = .ok (.iconst 4, 1) := by decide +kernel
theorem dX12_feed_111 : decode cX12_feed 111 = .ok (.dup2, 1) := by decide +kernel
theorem dX12_feed_112 : decode cX12_feed 112 = .ok (.iaload, 1) := by decide +kernel
theorem dX12_feed_113 : decode cX12_feed 113 = .ok (.iconst 1, 1) := by decide +kernel
theorem dX12_feed_114 : decode cX12_feed 114 = .ok (.iadd, 1) := by decide +kernel
theorem dX12_feed_115 : decode cX12_feed 115 = .ok (.iastore, 1) := by decide +kernel
theorem dX12_feed_116 : decode cX12_feed 116 = .ok (.iinc 6 1, 3) := by decide +kernel
theorem dX12_feed_119 : decode cX12_feed 119 = .ok (.goto (-99), 3) := by decide +kernel
theorem dX12_feed_122 : decode cX12_feed 122 = .ok (.aload_n 0, 1) := by decide +kernel
theorem dX12_feed_123 : decode cX12_feed 123 = .ok (.getfield 7, 3) := by decide +kernel
theorem dX12_feed_126 : decode cX12_feed 126 = .ok (.iconst 4, 1) := by decide +kernel
theorem dX12_feed_127 : decode cX12_feed 127 = .ok (.iaload, 1) := by decide +kernel
theorem dX12_feed_128 : decode cX12_feed 128 = .ok (.ireturn, 1) := by decide +kernel
theorem dX12_end_0 : decode cX12_end 0 = .ok (.iload_n 1, 1) := by decide +kernel
theorem dX12_end_1 : decode cX12_end 1 = .ok (.ifCond .lt 13, 3) := by decide +kernel
theorem dX12_end_4 : decode cX12_end 4 = .ok (.iload_n 1, 1) := by decide +kernel
theorem dX12_end_5 : decode cX12_end 5 = .ok (.aload_n 0, 1) := by decide +kernel
theorem dX12_end_6 : decode cX12_end 6 = .ok (.getfield 7, 3) := by decide +kernel
theorem dX12_end_9 : decode cX12_end 9 = .ok (.iconst 4, 1) := by decide +kernel
theorem dX12_end_10 : decode cX12_end 10 = .ok (.iaload, 1) := by decide +kernel
theorem dX12_end_11 : decode cX12_end 11 = .ok (.if_icmp .le 5, 3) := by decide +kernel
theorem dX12_end_14 : decode cX12_end 14 = .ok (.iconst (-1), 1) := by decide +kernel
theorem dX12_end_15 : decode cX12_end 15 = .ok (.ireturn, 1) := by decide +kernel
theorem dX12_end_16 : decode cX12_end 16 = .ok (.aload_n 0, 1) := by decide +kernel
theorem dX12_end_17 : decode cX12_end 17 = .ok (.getfield 7, 3) := by decide +kernel
theorem dX12_end_20 : decode cX12_end 20 = .ok (.iconst 4, 1) := by decide +kernel
theorem dX12_end_21 : decode cX12_end 21 = .ok (.iload_n 1, 1) := by decide +kernel
theorem dX12_end_22 : decode cX12_end 22 = .ok (.iastore, 1) := by decide +kernel
theorem dX12_end_23 : decode cX12_end 23 = .ok (.iload_n 1, 1) := by decide +kernel
theorem dX12_end_24 : decode cX12_end 24 = .ok (.ireturn, 1) := by decide +kernel
theorem dX12_byteAt_0 : decode cX12_byteAt 0 = .ok (.iload_n 1, 1) := by decide +kernel
theorem dX12_byteAt_1 : decode cX12_byteAt 1 = .ok (.aload_n 0, 1) := by decide +kernel
theorem dX12_byteAt_2 : decode cX12_byteAt 2 = .ok (.getfield 83, 3) := by decide +kernel
theorem dX12_byteAt_5 : decode cX12_byteAt 5 = .ok (.if_icmp .ge 15, 3) := by decide +kernel
theorem dX12_byteAt_8 : decode cX12_byteAt 8 = .ok (.aload_n 0, 1) := by decide +kernel
theorem dX12_byteAt_9 : decode cX12_byteAt 9 = .ok (.getfield 7, 3) := by decide +kernel
theorem dX12_byteAt_12 : decode cX12_byteAt 12 = .ok (.bipush 10, 2) := by decide +kernel
theorem dX12_byteAt_14 : decode cX12_byteAt 14 = .ok (.iload_n 1, 1) := by decide +kernel
theorem dX12_byteAt_15 : decode cX12_byteAt 15 = .ok (.iadd, 1) := by decide +kernel
theorem dX12_byteAt_16 : decode cX12_byteAt 16 = .ok (.iaload, 1) := by decide +kernel
theorem dX12_byteAt_17 : decode cX12_byteAt 17 = .ok (.goto 4, 3) := by decide +kernel
theorem dX12_byteAt_20 : decode cX12_byteAt 20 = .ok (.iconst (-1), 1) := by decide +kernel
theorem dX12_byteAt_21 : decode cX12_byteAt 21 = .ok (.ireturn, 1) := by decide +kernel
theorem dX12_isLetter_0 : decode cX12_isLetter 0 = .ok (.iload_n 0, 1) := by decide +kernel
theorem dX12_isLetter_1 : decode cX12_isLetter 1 = .ok (.bipush 97, 2) := by decide +kernel
theorem dX12_isLetter_3 : decode cX12_isLetter 3 = .ok (.if_icmp .lt 13, 3) := by decide +kernel
theorem dX12_isLetter_6 : decode cX12_isLetter 6 = .ok (.iload_n 0, 1) := by decide +kernel
theorem dX12_isLetter_7 : decode cX12_isLetter 7 = .ok (.bipush 122, 2) := by decide +kernel
theorem dX12_isLetter_9 : decode cX12_isLetter 9 = .ok (.if_icmp .gt 7, 3) := by decide +kernel
theorem dX12_isLetter_12 : decode cX12_isLetter 12 = .ok (.iconst 1, 1) := by decide +kernel
theorem dX12_isLetter_13 : decode cX12_isLetter 13 = .ok (.goto 4, 3) := by decide +kernel
theorem dX12_isLetter_16 : decode cX12_isLetter 16 = .ok (.iconst 0, 1) := by decide +kernel
theorem dX12_isLetter_17 : decode cX12_isLetter 17 = .ok (.ireturn, 1) := by decide +kernel
theorem dX12_isDigit_0 : decode cX12_isDigit 0 = .ok (.iload_n 0, 1) := by decide +kernel
theorem dX12_isDigit_1 : decode cX12_isDigit 1 = .ok (.bipush 48, 2) := by decide +kernel
theorem dX12_isDigit_3 : decode cX12_isDigit 3 = .ok (.if_icmp .lt 13, 3) := by decide +kernel
theorem dX12_isDigit_6 : decode cX12_isDigit 6 = .ok (.iload_n 0, 1) := by decide +kernel
theorem dX12_isDigit_7 : decode cX12_isDigit 7 = .ok (.bipush 57, 2) := by decide +kernel
theorem dX12_isDigit_9 : decode cX12_isDigit 9 = .ok (.if_icmp .gt 7, 3) := by decide +kernel
theorem dX12_isDigit_12 : decode cX12_isDigit 12 = .ok (.iconst 1, 1) := by decide +kernel
theorem dX12_isDigit_13 : decode cX12_isDigit 13 = .ok (.goto 4, 3) := by decide +kernel
theorem dX12_isDigit_16 : decode cX12_isDigit 16 = .ok (.iconst 0, 1) := by decide +kernel
theorem dX12_isDigit_17 : decode cX12_isDigit 17 = .ok (.ireturn, 1) := by decide +kernel
theorem dX12_four_0 : decode cX12_four 0 = .ok (.iload_n 0, 1) := by decide +kernel
theorem dX12_four_1 : decode cX12_four 1 = .ok (.bipush 32, 2) := by decide +kernel
theorem dX12_four_3 : decode cX12_four 3 = .ok (.imul, 1) := by decide +kernel
theorem dX12_four_4 : decode cX12_four 4 = .ok (.iload_n 1, 1) := by decide +kernel
theorem dX12_four_5 : decode cX12_four 5 = .ok (.iadd, 1) := by decide +kernel
theorem dX12_four_6 : decode cX12_four 6 = .ok (.bipush 32, 2) := by decide +kernel
theorem dX12_four_8 : decode cX12_four 8 = .ok (.imul, 1) := by decide +kernel
theorem dX12_four_9 : decode cX12_four 9 = .ok (.iload_n 2, 1) := by decide +kernel
theorem dX12_four_10 : decode cX12_four 10 = .ok (.iadd, 1) := by decide +kernel
theorem dX12_four_11 : decode cX12_four 11 = .ok (.bipush 32, 2) := by decide +kernel
theorem dX12_four_13 : decode cX12_four 13 = .ok (.imul, 1) := by decide +kernel
theorem dX12_four_14 : decode cX12_four 14 = .ok (.iload_n 3, 1) := by decide +kernel
theorem dX12_four_15 : decode cX12_four 15 = .ok (.iadd, 1) := by decide +kernel
theorem dX12_four_16 : decode cX12_four 16 = .ok (.i2l, 1) := by decide +kernel
theorem dX12_four_17 : decode cX12_four 17 = .ok (.lreturn, 1) := by decide +kernel
theorem dX12_eight_0 : decode cX12_eight 0 = .ok (.iload_n 0, 1) := by decide +kernel
theorem dX12_eight_1 : decode cX12_eight 1 = .ok (.iload_n 1, 1) := by decide +kernel
theorem dX12_eight_2 : decode cX12_eight 2 = .ok (.iload_n 2, 1) := by decide +kernel
theorem dX12_eight_3 : decode cX12_eight 3 = .ok (.iload_n 3, 1) := by decide +kernel
theorem dX12_eight_4 : decode cX12_eight 4 = .ok (.invokestatic 87, 3) := by decide +kernel
theorem dX12_eight_7 : decode cX12_eight 7 = .ok (.ldc2_w 91, 3) := by decide +kernel
theorem dX12_eight_10 : decode cX12_eight 10 = .ok (.lmul, 1) := by decide +kernel
theorem dX12_eight_11 : decode cX12_eight 11 = .ok (.iload 4, 2) := by decide +kernel
theorem dX12_eight_13 : decode cX12_eight 13 = .ok (.iload 5, 2) := by decide +kernel
theorem dX12_eight_15 : decode cX12_eight 15 = .ok (.iload 6, 2) := by decide +kernel
theorem dX12_eight_17 : decode cX12_eight 17 = .ok (.iload 7, 2) := by decide +kernel
theorem dX12_eight_19 : decode cX12_eight 19 = .ok (.invokestatic 87, 3) := by decide +kernel
theorem dX12_eight_22 : decode cX12_eight 22 = .ok (.ladd, 1) := by decide +kernel
theorem dX12_eight_23 : decode cX12_eight 23 = .ok (.lreturn, 1) := by decide +kernel
theorem dX12_otherWord_0 : decode cX12_otherWord 0 = .ok (.lload_n 0, 1) := by decide +kernel
theorem dX12_otherWord_1 : decode cX12_otherWord 1 = .ok (.iconst 0, 1) := by decide +kernel
theorem dX12_otherWord_2 : decode cX12_otherWord 2 = .ok (.iconst 0, 1) := by decide +kernel
theorem dX12_otherWord_3 : decode cX12_otherWord 3 = .ok (.bipush 7, 2) := by decide +kernel
theorem dX12_otherWord_5 : decode cX12_otherWord 5 = .ok (.bipush 15, 2) := by decide +kernel
theorem dX12_otherWord_7 : decode cX12_otherWord 7 = .ok (.invokestatic 87, 3) := by decide +kernel
theorem dX12_otherWord_10 : decode cX12_otherWord 10 = .ok (.lcmp, 1) := by decide +kernel
theorem dX12_otherWord_11 : decode cX12_otherWord 11 = .ok (.ifCond .ne 6, 3) := by decide +kernel
theorem dX12_otherWord_14 : decode cX12_otherWord 14 = .ok (.bipush 14, 2) := by decide +kernel
theorem dX12_otherWord_16 : decode cX12_otherWord 16 = .ok (.ireturn, 1) := by decide +kernel
theorem dX12_otherWord_17 : decode cX12_otherWord 17 = .ok (.lload_n 0, 1) := by decide +kernel
theorem dX12_otherWord_18 : decode cX12_otherWord 18 = .ok (.bipush 20, 2) := by decide +kernel
theorem dX12_otherWord_20 : decode cX12_otherWord 20 = .ok (.bipush 21, 2) := by decide +kernel
theorem dX12_otherWord_22 : decode cX12_otherWord 22 = .ok (.bipush 18, 2) := by decide +kernel
theorem dX12_otherWord_24 : decode cX12_otherWord 24 = .ok (.bipush 14, 2) := by decide +kernel
theorem dX12_otherWord_26 : decode cX12_otherWord 26 = .ok (.invokestatic 87, 3) := by decide +kernel
theorem dX12_otherWord_29 : decode cX12_otherWord 29 = .ok (.lcmp, 1) := by decide +kernel
theorem dX12_otherWord_30 : decode cX12_otherWord 30 = .ok (.ifCond .ne 6, 3) := by decide +kernel
theorem dX12_otherWord_33 : decode cX12_otherWord 33 = .ok (.bipush 15, 2) := by decide +kernel
theorem dX12_otherWord_35 : decode cX12_otherWord 35 = .ok (.ireturn, 1) := by decide +kernel
theorem dX12_otherWord_36 : decode cX12_otherWord 36 = .ok (.lload_n 0, 1) := by decide +kernel
theorem dX12_otherWord_37 : decode cX12_otherWord 37 = .ok (.bipush 19, 2) := by decide +kernel
theorem dX12_otherWord_39 : decode cX12_otherWord 39 = .ok (.bipush 20, 2) := by decide +kernel
theorem dX12_otherWord_41 : decode cX12_otherWord 41 = .ok (.bipush 9, 2) := by decide +kernel
theorem dX12_otherWord_43 : decode cX12_otherWord 43 = .ok (.bipush 18, 2) := by decide +kernel
theorem dX12_otherWord_45 : decode cX12_otherWord 45 = .ok (.invokestatic 87, 3) := by decide +kernel
theorem dX12_otherWord_48 : decode cX12_otherWord 48 = .ok (.lcmp, 1) := by decide +kernel
theorem dX12_otherWord_49 : decode cX12_otherWord 49 = .ok (.ifCond .ne 6, 3) := by decide +kernel
theorem dX12_otherWord_52 : decode cX12_otherWord 52 = .ok (.bipush 16, 2) := by decide +kernel
theorem dX12_otherWord_54 : decode cX12_otherWord 54 = .ok (.ireturn, 1) := by decide +kernel
theorem dX12_otherWord_55 : decode cX12_otherWord 55 = .ok (.lload_n 0, 1) := by decide +kernel
theorem dX12_otherWord_56 : decode cX12_otherWord 56 = .ok (.iconst 3, 1) := by decide +kernel
theorem dX12_otherWord_57 : decode cX12_otherWord 57 = .ok (.iconst 1, 1) := by decide +kernel
theorem dX12_otherWord_58 : decode cX12_otherWord 58 = .ok (.bipush 12, 2) := by decide +kernel
theorem dX12_otherWord_60 : decode cX12_otherWord 60 = .ok (.bipush 13, 2) := by decide +kernel
theorem dX12_otherWord_62 : decode cX12_otherWord 62 = .ok (.invokestatic 87, 3) := by decide +kernel
theorem dX12_otherWord_65 : decode cX12_otherWord 65 = .ok (.lcmp, 1) := by decide +kernel
theorem dX12_otherWord_66 : decode cX12_otherWord 66 = .ok (.ifCond .ne 6, 3) := by decide +kernel
theorem dX12_otherWord_69 : decode cX12_otherWord 69 = .ok (.bipush 17, 2) := by decide +kernel
theorem dX12_otherWord_71 : decode cX12_otherWord 71 = .ok (.ireturn, 1) := by decide +kernel
theorem dX12_otherWord_72 : decode cX12_otherWord 72 = .ok (.lload_n 0, 1) := by decide +kernel
theorem dX12_otherWord_73 : decode cX12_otherWord 73 = .ok (.iconst 0, 1) := by decide +kernel
theorem dX12_otherWord_74 : decode cX12_otherWord 74 = .ok (.iconst 0, 1) := by decide +kernel
theorem dX12_otherWord_75 : decode cX12_otherWord 75 = .ok (.iconst 0, 1) := by decide +kernel
theorem dX12_otherWord_76 : decode cX12_otherWord 76 = .ok (.iconst 3, 1) := by decide +kernel
theorem dX12_otherWord_77 : decode cX12_otherWord 77 = .ok (.bipush 15, 2) := by decide +kernel
theorem dX12_otherWord_79 : decode cX12_otherWord 79 = .ok (.bipush 21, 2) := by decide +kernel
theorem dX12_otherWord_81 : decode cX12_otherWord 81 = .ok (.bipush 14, 2) := by decide +kernel
theorem dX12_otherWord_83 : decode cX12_otherWord 83 = .ok (.bipush 20, 2) := by decide +kernel
theorem dX12_otherWord_85 : decode cX12_otherWord 85 = .ok (.invokestatic 93, 3) := by decide +kernel
theorem dX12_otherWord_88 : decode cX12_otherWord 88 = .ok (.lcmp, 1) := by decide +kernel
theorem dX12_otherWord_89 : decode cX12_otherWord 89 = .ok (.ifCond .ne 6, 3) := by decide +kernel
theorem dX12_otherWord_92 : decode cX12_otherWord 92 = .ok (.bipush 18, 2) := by decide +kernel
theorem dX12_otherWord_94 : decode cX12_otherWord 94 = .ok (.ireturn, 1) := by decide +kernel
theorem dX12_otherWord_95 : decode cX12_otherWord 95 = .ok (.lload_n 0, 1) := by decide +kernel
theorem dX12_otherWord_96 : decode cX12_otherWord 96 = .ok (.bipush 20, 2) := by decide +kernel
theorem dX12_otherWord_98 : decode cX12_otherWord 98 = .ok (.bipush 15, 2) := by decide +kernel
theorem dX12_otherWord_100 : decode cX12_otherWord 100 = .ok (.bipush 12, 2) := by decide +kernel
theorem dX12_otherWord_102 : decode cX12_otherWord 102 = .ok (.iconst 4, 1) := by decide +kernel
theorem dX12_otherWord_103 : decode cX12_otherWord 103 = .ok (.invokestatic 87, 3) := by decide +kernel
theorem dX12_otherWord_106 : decode cX12_otherWord 106 = .ok (.lcmp, 1) := by decide +kernel
theorem dX12_otherWord_107 : decode cX12_otherWord 107 = .ok (.ifCond .ne 6, 3) := by decide +kernel
theorem dX12_otherWord_110 : decode cX12_otherWord 110 = .ok (.bipush 19, 2) := by decide +kernel
theorem dX12_otherWord_112 : decode cX12_otherWord 112 = .ok (.ireturn, 1) := by decide +kernel
theorem dX12_otherWord_113 : decode cX12_otherWord 113 = .ok (.lload_n 0, 1) := by decide +kernel
theorem dX12_otherWord_114 : decode cX12_otherWord 114 = .ok (.iconst 0, 1) := by decide +kernel
theorem dX12_otherWord_115 : decode cX12_otherWord 115 = .ok (.iconst 0, 1) := by decide +kernel
theorem dX12_otherWord_116 : decode cX12_otherWord 116 = .ok (.iconst 0, 1) := by decide +kernel
theorem dX12_otherWord_117 : decode cX12_otherWord 117 = .ok (.bipush 19, 2) := by decide +kernel
theorem dX12_otherWord_119 : decode cX12_otherWord 119 = .ok (.bipush 12, 2) := by decide +kernel
theorem dX12_otherWord_121 : decode cX12_otherWord 121 = .ok (.bipush 9, 2) := by decide +kernel
theorem dX12_otherWord_123 : decode cX12_otherWord 123 = .ok (.bipush 16, 2) := by decide +kernel
theorem dX12_otherWord_125 : decode cX12_otherWord 125 = .ok (.bipush 19, 2) := by decide +kernel
theorem dX12_otherWord_127 : decode cX12_otherWord 127 = .ok (.invokestatic 93, 3) := by decide +kernel
theorem dX12_otherWord_130 : decode cX12_otherWord 130 = .ok (.lcmp, 1) := by decide +kernel
theorem dX12_otherWord_131 : decode cX12_otherWord 131 = .ok (.ifCond .ne 8, 3) := by decide +kernel
theorem dX12_otherWord_134 : decode cX12_otherWord 134 = .ok (.bipush 20, 2) := by decide +kernel
theorem dX12_otherWord_136 : decode cX12_otherWord 136 = .ok (.goto 5, 3) := by decide +kernel
theorem dX12_otherWord_139 : decode cX12_otherWord 139 = .ok (.bipush 99, 2) := by decide +kernel
theorem dX12_otherWord_141 : decode cX12_otherWord 141 = .ok (.ireturn, 1) := by decide +kernel
theorem dX12_wordOf_0 : decode cX12_wordOf 0 = .ok (.lload_n 0, 1) := by decide +kernel
theorem dX12_wordOf_1 : decode cX12_wordOf 1 = .ok (.bipush 19, 2) := by decide +kernel
theorem dX12_wordOf_3 : decode cX12_wordOf 3 = .ok (.bipush 9, 2) := by decide +kernel
theorem dX12_wordOf_5 : decode cX12_wordOf 5 = .ok (.bipush 26, 2) := by decide +kernel
theorem dX12_wordOf_7 : decode cX12_wordOf 7 = .ok (.iconst 5, 1) := by decide +kernel
theorem dX12_wordOf_8 : decode cX12_wordOf 8 = .ok (.invokestatic 87, 3) := by decide +kernel
theorem dX12_wordOf_11 : decode cX12_wordOf 11 = .ok (.lcmp, 1) := by decide +kernel
theorem dX12_wordOf_12 : decode cX12_wordOf 12 = .ok (.ifCond .ne 5, 3) := by decide +kernel
theorem dX12_wordOf_15 : decode cX12_wordOf 15 = .ok (.iconst 1, 1) := by decide +kernel
theorem dX12_wordOf_16 : decode cX12_wordOf 16 = .ok (.ireturn, 1) := by decide +kernel
theorem dX12_wordOf_17 : decode cX12_wordOf 17 = .ok (.lload_n 0, 1) := by decide +kernel
theorem dX12_wordOf_18 : decode cX12_wordOf 18 = .ok (.bipush 23, 2) := by decide +kernel
theorem dX12_wordOf_20 : decode cX12_wordOf 20 = .ok (.iconst 1, 1) := by decide +kernel
theorem dX12_wordOf_21 : decode cX12_wordOf 21 = .ok (.bipush 12, 2) := by decide +kernel
theorem dX12_wordOf_23 : decode cX12_wordOf 23 = .ok (.bipush 12, 2) := by decide +kernel
theorem dX12_wordOf_25 : decode cX12_wordOf 25 = .ok (.invokestatic 87, 3) := by decide +kernel
theorem dX12_wordOf_28 : decode cX12_wordOf 28 = .ok (.lcmp, 1) := by decide +kernel
theorem dX12_wordOf_29 : decode cX12_wordOf 29 = .ok (.ifCond .ne 5, 3) := by decide +kernel
theorem dX12_wordOf_32 : decode cX12_wordOf 32 = .ok (.iconst 2, 1) := by decide +kernel
theorem dX12_wordOf_33 : decode cX12_wordOf 33 = .ok (.ireturn, 1) := by decide +kernel
theorem dX12_wordOf_34 : decode cX12_wordOf 34 = .ok (.lload_n 0, 1) := by decide +kernel
theorem dX12_wordOf_35 : decode cX12_wordOf 35 = .ok (.iconst 0, 1) := by decide +kernel
theorem dX12_wordOf_36 : decode cX12_wordOf 36 = .ok (.iconst 0, 1) := by decide +kernel
theorem dX12_wordOf_37 : decode cX12_wordOf 37 = .ok (.bipush 16, 2) := by decide +kernel
theorem dX12_wordOf_39 : decode cX12_wordOf 39 = .ok (.iconst 5, 1) := by decide +kernel
theorem dX12_wordOf_40 : decode cX12_wordOf 40 = .ok (.bipush 18, 2) := by decide +kernel
theorem dX12_wordOf_42 : decode cX12_wordOf 42 = .ok (.bipush 19, 2) := by decide +kernel
theorem dX12_wordOf_44 : decode cX12_wordOf 44 = .ok (.bipush 15, 2) := by decide +kernel
theorem dX12_wordOf_46 : decode cX12_wordOf 46 = .ok (.bipush 14, 2) := by decide +kernel
theorem dX12_wordOf_48 : decode cX12_wordOf 48 = .ok (.invokestatic 93, 3) := by decide +kernel
theorem dX12_wordOf_51 : decode cX12_wordOf 51 = .ok (.lcmp, 1) := by decide +kernel
theorem dX12_wordOf_52 : decode cX12_wordOf 52 = .ok (.ifCond .ne 5, 3) := by decide +kernel
theorem dX12_wordOf_55 : decode cX12_wordOf 55 = .ok (.iconst 3, 1) := by decide +kernel
theorem dX12_wordOf_56 : decode cX12_wordOf 56 = .ok (.ireturn, 1) := by decide +kernel
theorem dX12_wordOf_57 : decode cX12_wordOf 57 = .ok (.lload_n 0, 1) := by decide +kernel
theorem dX12_wordOf_58 : decode cX12_wordOf 58 = .ok (.bipush 16, 2) := by decide +kernel
theorem dX12_wordOf_60 : decode cX12_wordOf 60 = .ok (.bipush 15, 2) := by decide +kernel
theorem dX12_wordOf_62 : decode cX12_wordOf 62 = .ok (.bipush 14, 2) := by decide +kernel
theorem dX12_wordOf_64 : decode cX12_wordOf 64 = .ok (.iconst 4, 1) := by decide +kernel
theorem dX12_wordOf_65 : decode cX12_wordOf 65 = .ok (.invokestatic 87, 3) := by decide +kernel
theorem dX12_wordOf_68 : decode cX12_wordOf 68 = .ok (.lcmp, 1) := by decide +kernel
theorem dX12_wordOf_69 : decode cX12_wordOf 69 = .ok (.ifCond .ne 5, 3) := by decide +kernel
theorem dX12_wordOf_72 : decode cX12_wordOf 72 = .ok (.iconst 4, 1) := by decide +kernel
theorem dX12_wordOf_73 : decode cX12_wordOf 73 = .ok (.ireturn, 1) := by decide +kernel
theorem dX12_wordOf_74 : decode cX12_wordOf 74 = .ok (.lload_n 0, 1) := by decide +kernel
theorem dX12_wordOf_75 : decode cX12_wordOf 75 = .ok (.iconst 0, 1) := by decide +kernel
theorem dX12_wordOf_76 : decode cX12_wordOf 76 = .ok (.iconst 0, 1) := by decide +kernel
theorem dX12_wordOf_77 : decode cX12_wordOf 77 = .ok (.iconst 0, 1) := by decide +kernel
theorem dX12_wordOf_78 : decode cX12_wordOf 78 = .ok (.bipush 19, 2) := by decide +kernel
theorem dX12_wordOf_80 : decode cX12_wordOf 80 = .ok (.bipush 16, 2) := by decide +kernel
theorem dX12_wordOf_82 : decode cX12_wordOf 82 = .ok (.bipush 15, 2) := by decide +kernel
theorem dX12_wordOf_84 : decode cX12_wordOf 84 = .ok (.bipush 15, 2) := by decide +kernel
theorem dX12_wordOf_86 : decode cX12_wordOf 86 = .ok (.bipush 14, 2) := by decide +kernel
theorem dX12_wordOf_88 : decode cX12_wordOf 88 = .ok (.invokestatic 93, 3) := by decide +kernel
theorem dX12_wordOf_91 : decode cX12_wordOf 91 = .ok (.lcmp, 1) := by decide +kernel
theorem dX12_wordOf_92 : decode cX12_wordOf 92 = .ok (.ifCond .ne 5, 3) := by decide +kernel
theorem dX12_wordOf_95 : decode cX12_wordOf 95 = .ok (.iconst 5, 1) := by decide +kernel
theorem dX12_wordOf_96 : decode cX12_wordOf 96 = .ok (.ireturn, 1) := by decide +kernel
theorem dX12_wordOf_97 : decode cX12_wordOf 97 = .ok (.lload_n 0, 1) := by decide +kernel
theorem dX12_wordOf_98 : decode cX12_wordOf 98 = .ok (.iconst 0, 1) := by decide +kernel
theorem dX12_wordOf_99 : decode cX12_wordOf 99 = .ok (.iconst 0, 1) := by decide +kernel
theorem dX12_wordOf_100 : decode cX12_wordOf 100 = .ok (.bipush 13, 2) := by decide +kernel
theorem dX12_wordOf_102 : decode cX12_wordOf 102 = .ok (.bipush 9, 2) := by decide +kernel
theorem dX12_wordOf_104 : decode cX12_wordOf 104 = .ok (.bipush 18, 2) := by decide +kernel
theorem dX12_wordOf_106 : decode cX12_wordOf 106 = .ok (.bipush 18, 2) := by decide +kernel
theorem dX12_wordOf_108 : decode cX12_wordOf 108 = .ok (.bipush 15, 2) := by decide +kernel
theorem dX12_wordOf_110 : decode cX12_wordOf 110 = .ok (.bipush 18, 2) := by decide +kernel
theorem dX12_wordOf_112 : decode cX12_wordOf 112 = .ok (.invokestatic 93, 3) := by decide +kernel
theorem dX12_wordOf_115 : decode cX12_wordOf 115 = .ok (.lcmp, 1) := by decide +kernel
theorem dX12_wordOf_116 : decode cX12_wordOf 116 = .ok (.ifCond .ne 6, 3) := by decide +kernel
theorem dX12_wordOf_119 : decode cX12_wordOf 119 = .ok (.bipush 6, 2) := by decide +kernel
theorem dX12_wordOf_121 : decode cX12_wordOf 121 = .ok (.ireturn, 1) := by decide +kernel
theorem dX12_wordOf_122 : decode cX12_wordOf 122 = .ok (.lload_n 0, 1) := by decide +kernel
theorem dX12_wordOf_123 : decode cX12_wordOf 123 = .ok (.iconst 0, 1) := by decide +kernel
theorem dX12_wordOf_124 : decode cX12_wordOf 124 = .ok (.iconst 5, 1) := by decide +kernel
theorem dX12_wordOf_125 : decode cX12_wordOf 125 = .ok (.bipush 25, 2) := by decide +kernel
theorem dX12_wordOf_127 : decode cX12_wordOf 127 = .ok (.iconst 5, 1) := by decide +kernel
theorem dX12_wordOf_128 : decode cX12_wordOf 128 = .ok (.invokestatic 87, 3) := by decide +kernel
theorem dX12_wordOf_131 : decode cX12_wordOf 131 = .ok (.lcmp, 1) := by decide +kernel
theorem dX12_wordOf_132 : decode cX12_wordOf 132 = .ok (.ifCond .ne 6, 3) := by decide +kernel
theorem dX12_wordOf_135 : decode cX12_wordOf 135 = .ok (.bipush 7, 2) := by decide +kernel
theorem dX12_wordOf_137 : decode cX12_wordOf 137 = .ok (.ireturn, 1) := by decide +kernel
theorem dX12_wordOf_138 : decode cX12_wordOf 138 = .ok (.lload_n 0, 1) := by decide +kernel
theorem dX12_wordOf_139 : decode cX12_wordOf 139 = .ok (.iconst 0, 1) := by decide +kernel
theorem dX12_wordOf_140 : decode cX12_wordOf 140 = .ok (.iconst 3, 1) := by decide +kernel
theorem dX12_wordOf_141 : decode cX12_wordOf 141 = .ok (.bipush 15, 2) := by decide +kernel
theorem dX12_wordOf_143 : decode cX12_wordOf 143 = .ok (.bipush 21, 2) := by decide +kernel
theorem dX12_wordOf_145 : decode cX12_wordOf 145 = .ok (.bipush 19, 2) := by decide +kernel
theorem dX12_wordOf_147 : decode cX12_wordOf 147 = .ok (.bipush 9, 2) := by decide +kernel
theorem dX12_wordOf_149 : decode cX12_wordOf 149 = .ok (.bipush 14, 2) := by decide +kernel
theorem dX12_wordOf_151 : decode cX12_wordOf 151 = .ok (.bipush 19, 2) := by decide +kernel
theorem dX12_wordOf_153 : decode cX12_wordOf 153 = .ok (.invokestatic 93, 3) := by decide +kernel
theorem dX12_wordOf_156 : decode cX12_wordOf 156 = .ok (.lcmp, 1) := by decide +kernel
theorem dX12_wordOf_157 : decode cX12_wordOf 157 = .ok (.ifCond .ne 6, 3) := by decide +kernel
theorem dX12_wordOf_160 : decode cX12_wordOf 160 = .ok (.bipush 8, 2) := by decide +kernel
theorem dX12_wordOf_162 : decode cX12_wordOf 162 = .ok (.ireturn, 1) := by decide +kernel
theorem dX12_wordOf_163 : decode cX12_wordOf 163 = .ok (.lload_n 0, 1) := by decide +kernel
theorem dX12_wordOf_164 : decode cX12_wordOf 164 = .ok (.iconst 0, 1) := by decide +kernel
theorem dX12_wordOf_165 : decode cX12_wordOf 165 = .ok (.iconst 0, 1) := by decide +kernel
theorem dX12_wordOf_166 : decode cX12_wordOf 166 = .ok (.iconst 0, 1) := by decide +kernel
theorem dX12_wordOf_167 : decode cX12_wordOf 167 = .ok (.bipush 19, 2) := by decide +kernel
theorem dX12_wordOf_169 : decode cX12_wordOf 169 = .ok (.iconst 5, 1) := by decide +kernel
theorem dX12_wordOf_170 : decode cX12_wordOf 170 = .ok (.iconst 1, 1) := by decide +kernel
theorem dX12_wordOf_171 : decode cX12_wordOf 171 = .ok (.bipush 20, 2) := by decide +kernel
theorem dX12_wordOf_173 : decode cX12_wordOf 173 = .ok (.bipush 19, 2) := by decide +kernel
theorem dX12_wordOf_175 : decode cX12_wordOf 175 = .ok (.invokestatic 93, 3) := by decide +kernel
theorem dX12_wordOf_178 : decode cX12_wordOf 178 = .ok (.lcmp, 1) := by decide +kernel
theorem dX12_wordOf_179 : decode cX12_wordOf 179 = .ok (.ifCond .ne 6, 3) := by decide +kernel
theorem dX12_wordOf_182 : decode cX12_wordOf 182 = .ok (.bipush 9, 2) := by decide +kernel
theorem dX12_wordOf_184 : decode cX12_wordOf 184 = .ok (.ireturn, 1) := by decide +kernel
theorem dX12_wordOf_185 : decode cX12_wordOf 185 = .ok (.lload_n 0, 1) := by decide +kernel
theorem dX12_wordOf_186 : decode cX12_wordOf 186 = .ok (.iconst 0, 1) := by decide +kernel
theorem dX12_wordOf_187 : decode cX12_wordOf 187 = .ok (.bipush 23, 2) := by decide +kernel
theorem dX12_wordOf_189 : decode cX12_wordOf 189 = .ok (.iconst 1, 1) := by decide +kernel
theorem dX12_wordOf_190 : decode cX12_wordOf 190 = .ok (.bipush 25, 2) := by decide +kernel
theorem dX12_wordOf_192 : decode cX12_wordOf 192 = .ok (.invokestatic 87, 3) := by decide +kernel
theorem dX12_wordOf_195 : decode cX12_wordOf 195 = .ok (.lcmp, 1) := by decide +kernel
theorem dX12_wordOf_196 : decode cX12_wordOf 196 = .ok (.ifCond .ne 6, 3) := by decide +kernel
theorem dX12_wordOf_199 : decode cX12_wordOf 199 = .ok (.bipush 10, 2) := by decide +kernel
theorem dX12_wordOf_201 : decode cX12_wordOf 201 = .ok (.ireturn, 1) := by decide +kernel
theorem dX12_wordOf_202 : decode cX12_wordOf 202 = .ok (.lload_n 0, 1) := by decide +kernel
theorem dX12_wordOf_203 : decode cX12_wordOf 203 = .ok (.iconst 0, 1) := by decide +kernel
theorem dX12_wordOf_204 : decode cX12_wordOf 204 = .ok (.bipush 20, 2) := by decide +kernel
theorem dX12_wordOf_206 : decode cX12_wordOf 206 = .ok (.iconst 1, 1) := by decide +kernel
theorem dX12_wordOf_207 : decode cX12_wordOf 207 = .ok (.bipush 24, 2) := by decide +kernel
theorem dX12_wordOf_209 : decode cX12_wordOf 209 = .ok (.invokestatic 87, 3) := by decide +kernel
theorem dX12_wordOf_212 : decode cX12_wordOf 212 = .ok (.lcmp, 1) := by decide +kernel
theorem dX12_wordOf_213 : decode cX12_wordOf 213 = .ok (.ifCond .ne 6, 3) := by decide +kernel
theorem dX12_wordOf_216 : decode cX12_wordOf 216 = .ok (.bipush 11, 2) := by decide +kernel
theorem dX12_wordOf_218 : decode cX12_wordOf 218 = .ok (.ireturn, 1) := by decide +kernel
theorem dX12_wordOf_219 : decode cX12_wordOf 219 = .ok (.lload_n 0, 1) := by decide +kernel
theorem dX12_wordOf_220 : decode cX12_wordOf 220 = .ok (.iconst 0, 1) := by decide +kernel
theorem dX12_wordOf_221 : decode cX12_wordOf 221 = .ok (.iconst 0, 1) := by decide +kernel
theorem dX12_wordOf_222 : decode cX12_wordOf 222 = .ok (.iconst 0, 1) := by decide +kernel
theorem dX12_wordOf_223 : decode cX12_wordOf 223 = .ok (.bipush 20, 2) := by decide +kernel
theorem dX12_wordOf_225 : decode cX12_wordOf 225 = .ok (.bipush 23, 2) := by decide +kernel
theorem dX12_wordOf_227 : decode cX12_wordOf 227 = .ok (.bipush 9, 2) := by decide +kernel
theorem dX12_wordOf_229 : decode cX12_wordOf 229 = .ok (.bipush 14, 2) := by decide +kernel
theorem dX12_wordOf_231 : decode cX12_wordOf 231 = .ok (.bipush 19, 2) := by decide +kernel
theorem dX12_wordOf_233 : decode cX12_wordOf 233 = .ok (.invokestatic 93, 3) := by decide +kernel
theorem dX12_wordOf_236 : decode cX12_wordOf 236 = .ok (.lcmp, 1) := by decide +kernel
theorem dX12_wordOf_237 : decode cX12_wordOf 237 = .ok (.ifCond .ne 6, 3) := by decide +kernel
theorem dX12_wordOf_240 : decode cX12_wordOf 240 = .ok (.bipush 12, 2) := by decide +kernel
theorem dX12_wordOf_242 : decode cX12_wordOf 242 = .ok (.ireturn, 1) := by decide +kernel
theorem dX12_wordOf_243 : decode cX12_wordOf 243 = .ok (.lload_n 0, 1) := by decide +kernel
theorem dX12_wordOf_244 : decode cX12_wordOf 244 = .ok (.bipush 19, 2) := by decide +kernel
theorem dX12_wordOf_246 : decode cX12_wordOf 246 = .ok (.bipush 15, 2) := by decide +kernel
theorem dX12_wordOf_248 : decode cX12_wordOf 248 = .ok (.bipush 21, 2) := by decide +kernel
theorem dX12_wordOf_250 : decode cX12_wordOf 250 = .ok (.bipush 16, 2) := by decide +kernel
theorem dX12_wordOf_252 : decode cX12_wordOf 252 = .ok (.invokestatic 87, 3) := by decide +kernel
theorem dX12_wordOf_255 : decode cX12_wordOf 255 = .ok (.lcmp, 1) := by decide +kernel
theorem dX12_wordOf_256 : decode cX12_wordOf 256 = .ok (.ifCond .ne 6, 3) := by decide +kernel
theorem dX12_wordOf_259 : decode cX12_wordOf 259 = .ok (.bipush 13, 2) := by decide +kernel
theorem dX12_wordOf_261 : decode cX12_wordOf 261 = .ok (.ireturn, 1) := by decide +kernel
theorem dX12_wordOf_262 : decode cX12_wordOf 262 = .ok (.lload_n 0, 1) := by decide +kernel
theorem dX12_wordOf_263 : decode cX12_wordOf 263 = .ok (.invokestatic 97, 3) := by decide +kernel
theorem dX12_wordOf_266 : decode cX12_wordOf 266 = .ok (.ireturn, 1) := by decide +kernel
theorem dX12_advance_0 : decode cX12_advance 0 = .ok (.aload_n 0, 1) := by decide +kernel
theorem dX12_advance_1 : decode cX12_advance 1 = .ok (.aload_n 0, 1) := by decide +kernel
theorem dX12_advance_2 : decode cX12_advance 2 = .ok (.getfield 101, 3) := by decide +kernel
theorem dX12_advance_5 : decode cX12_advance 5 = .ok (.invokevirtual 104, 3) := by decide +kernel
theorem dX12_advance_8 : decode cX12_advance 8 = .ok (.bipush 10, 2) := by decide +kernel
theorem dX12_advance_10 : decode cX12_advance 10 = .ok (.if_icmp .eq 16, 3) := by decide +kernel
theorem dX12_advance_13 : decode cX12_advance 13 = .ok (.aload_n 0, 1) := by decide +kernel
theorem dX12_advance_14 : decode cX12_advance 14 = .ok (.aload_n 0, 1) := by decide +kernel
theorem dX12_advance_15 : decode cX12_advance 15 = .ok (.getfield 101, 3) := by decide +kernel
theorem dX12_advance_18 : decode cX12_advance 18 = .ok (.invokevirtual 104, 3) := by decide +kernel
theorem dX12_advance_21 : decode cX12_advance 21 = .ok (.bipush 32, 2) := by decide +kernel
theorem dX12_advance_23 : decode cX12_advance 23 = .ok (.if_icmp .ne 16, 3) := by decide +kernel
theorem dX12_advance_26 : decode cX12_advance 26 = .ok (.aload_n 0, 1) := by decide +kernel
theorem dX12_advance_27 : decode cX12_advance 27 = .ok (.dup, 1) := by decide +kernel
theorem dX12_advance_28 : decode cX12_advance 28 = .ok (.getfield 101, 3) := by decide +kernel
theorem dX12_advance_31 : decode cX12_advance 31 = .ok (.iconst 1, 1) := by decide +kernel
theorem dX12_advance_32 : decode cX12_advance 32 = .ok (.iadd, 1) := by decide +kernel
theorem dX12_advance_33 : decode cX12_advance 33 = .ok (.putfield 101, 3) := by decide +kernel
theorem dX12_advance_36 : decode cX12_advance 36 = .ok (.goto (-36), 3) := by decide +kernel
theorem dX12_advance_39 : decode cX12_advance 39 = .ok (.aload_n 0, 1) := by decide +kernel
theorem dX12_advance_40 : decode cX12_advance 40 = .ok (.aload_n 0, 1) := by decide +kernel
theorem dX12_advance_41 : decode cX12_advance 41 = .ok (.getfield 101, 3) := by decide +kernel
theorem dX12_advance_44 : decode cX12_advance 44 = .ok (.putfield 108, 3) := by decide +kernel
theorem dX12_advance_47 : decode cX12_advance 47 = .ok (.aload_n 0, 1) := by decide +kernel
theorem dX12_advance_48 : decode cX12_advance 48 = .ok (.aload_n 0, 1) := by decide +kernel
theorem dX12_advance_49 : decode cX12_advance 49 = .ok (.getfield 101, 3) := by decide +kernel
theorem dX12_advance_52 : decode cX12_advance 52 = .ok (.invokevirtual 104, 3) := by decide +kernel
theorem dX12_advance_55 : decode cX12_advance 55 = .ok (.istore_n 1, 1) := by decide +kernel
theorem dX12_advance_56 : decode cX12_advance 56 = .ok (.iload_n 1, 1) := by decide +kernel
theorem dX12_advance_57 : decode cX12_advance 57 = .ok (.ifCond .ge 11, 3) := by decide +kernel
theorem dX12_advance_60 : decode cX12_advance 60 = .ok (.aload_n 0, 1) := by decide +kernel
theorem dX12_advance_61 : decode cX12_advance 61 = .ok (.iconst 0, 1) := by decide +kernel
theorem dX12_advance_62 : decode cX12_advance 62 = .ok (.putfield 111, 3) := by decide +kernel
theorem dX12_advance_65 : decode cX12_advance 65 = .ok (.goto 246, 3) := by decide +kernel
theorem dX12_advance_68 : decode cX12_advance 68 = .ok (.iload_n 1, 1) := by decide +kernel
theorem dX12_advance_69 : decode cX12_advance 69 = .ok (.invokestatic 114, 3) := by decide +kernel
theorem dX12_advance_72 : decode cX12_advance 72 = .ok (.ifCond .eq 114, 3) := by decide +kernel
theorem dX12_advance_75 : decode cX12_advance 75 = .ok (.lconst 0, 1) := by decide +kernel
theorem dX12_advance_76 : decode cX12_advance 76 = .ok (.lstore_n 2, 1) := by decide +kernel
theorem dX12_advance_77 : decode cX12_advance 77 = .ok (.aload_n 0, 1) := by decide +kernel
theorem dX12_advance_78 : decode cX12_advance 78 = .ok (.aload_n 0, 1) := by decide +kernel
theorem dX12_advance_79 : decode cX12_advance 79 = .ok (.getfield 101, 3) := by decide +kernel
theorem dX12_advance_82 : decode cX12_advance 82 = .ok (.invokevirtual 104, 3) := by decide +kernel
theorem dX12_advance_85 : decode cX12_advance 85 = .ok (.invokestatic 114, 3) := by decide +kernel
theorem dX12_advance_88 : decode cX12_advance 88 = .ok (.ifCond .eq 50, 3) := by decide +kernel
theorem dX12_advance_91 : decode cX12_advance 91 = .ok (.aload_n 0, 1) := by decide +kernel
theorem dX12_advance_92 : decode cX12_advance 92 = .ok (.getfield 101, 3) := by decide +kernel
theorem dX12_advance_95 : decode cX12_advance 95 = .ok (.aload_n 0, 1) := by decide +kernel
theorem dX12_advance_96 : decode cX12_advance 96 = .ok (.getfield 108, 3) := by decide +kernel
theorem dX12_advance_99 : decode cX12_advance 99 = .ok (.isub, 1) := by decide +kernel
theorem dX12_advance_100 : decode cX12_advance 100 = .ok (.bipush 8, 2) := by decide +kernel
theorem dX12_advance_102 : decode cX12_advance 102 = .ok (.if_icmp .ge 23, 3) := by decide +kernel
theorem dX12_advance_105 : decode cX12_advance 105 = .ok (.ldc2_w 118, 3) := by decide +kernel
theorem dX12_advance_108 : decode cX12_advance 108 = .ok (.lload_n 2, 1) := by decide +kernel
theorem dX12_advance_109 : decode cX12_advance 109 = .ok (.lmul, 1) := by decide +kernel
theorem dX12_advance_110 : decode cX12_advance 110 = .ok (.aload_n 0, 1) := by decide +kernel
theorem dX12_advance_111 : decode cX12_advance 111 = .ok (.aload_n 0, 1) := by decide +kernel
theorem dX12_advance_112 : decode cX12_advance 112 = .ok (.getfield 101, 3) := by decide +kernel
theorem dX12_advance_115 : decode cX12_advance 115 = .ok (.invokevirtual 104, 3) := by decide +kernel
theorem dX12_advance_118 : decode cX12_advance 118 = .ok (.i2l, 1) := by decide +kernel
theorem dX12_advance_119 : decode cX12_advance 119 = .ok (.ladd, 1) := by decide +kernel
theorem dX12_advance_120 : decode cX12_advance 120 = .ok (.ldc2_w 120, 3) := by decide +kernel
theorem dX12_advance_123 : decode cX12_advance 123 = .ok (.lsub, 1) := by decide +kernel
theorem dX12_advance_124 : decode cX12_advance 124 = .ok (.lstore_n 2, 1) := by decide +kernel
theorem dX12_advance_125 : decode cX12_advance 125 = .ok (.aload_n 0, 1) := by decide +kernel
theorem dX12_advance_126 : decode cX12_advance 126 = .ok (.dup, 1) := by decide +kernel
theorem dX12_advance_127 : decode cX12_advance 127 = .ok (.getfield 101, 3) := by decide +kernel
theorem dX12_advance_130 : decode cX12_advance 130 = .ok (.iconst 1, 1) := by decide +kernel
theorem dX12_advance_131 : decode cX12_advance 131 = .ok (.iadd, 1) := by decide +kernel
theorem dX12_advance_132 : decode cX12_advance 132 = .ok (.putfield 101, 3) := by decide +kernel
theorem dX12_advance_135 : decode cX12_advance 135 = .ok (.goto (-58), 3) := by decide +kernel
theorem dX12_advance_138 : decode cX12_advance 138 = .ok (.aload_n 0, 1) := by decide +kernel
theorem dX12_advance_139 : decode cX12_advance 139 = .ok (.aload_n 0, 1) := by decide +kernel
theorem dX12_advance_140 : decode cX12_advance 140 = .ok (.getfield 101, 3) := by decide +kernel
theorem dX12_advance_143 : decode cX12_advance 143 = .ok (.aload_n 0, 1) := by decide +kernel
theorem dX12_advance_144 : decode cX12_advance 144 = .ok (.getfield 108, 3) := by decide +kernel
theorem dX12_advance_147 : decode cX12_advance 147 = .ok (.isub, 1) := by decide +kernel
theorem dX12_advance_148 : decode cX12_advance 148 = .ok (.bipush 8, 2) := by decide +kernel
theorem dX12_advance_150 : decode cX12_advance 150 = .ok (.if_icmp .le 8, 3) := by decide +kernel
theorem dX12_advance_153 : decode cX12_advance 153 = .ok (.bipush 99, 2) := by decide +kernel
theorem dX12_advance_155 : decode cX12_advance 155 = .ok (.goto 7, 3) := by decide +kernel
theorem dX12_advance_158 : decode cX12_advance 158 = .ok (.lload_n 2, 1) := by decide +kernel
theorem dX12_advance_159 : decode cX12_advance 159 = .ok (.invokestatic 122, 3) := by decide +kernel
theorem dX12_advance_162 : decode cX12_advance 162 = .ok (.putfield 125, 3) := by decide +kernel
theorem dX12_advance_165 : decode cX12_advance 165 = .ok (.aload_n 0, 1) := by decide +kernel
theorem dX12_advance_166 : decode cX12_advance 166 = .ok (.aload_n 0, 1) := by decide +kernel
theorem dX12_advance_167 : decode cX12_advance 167 = .ok (.getfield 125, 3) := by decide +kernel
theorem dX12_advance_170 : decode cX12_advance 170 = .ok (.bipush 99, 2) := by decide +kernel
theorem dX12_advance_172 : decode cX12_advance 172 = .ok (.if_icmp .ne 7, 3) := by decide +kernel
theorem dX12_advance_175 : decode cX12_advance 175 = .ok (.iconst 4, 1) := by decide +kernel
theorem dX12_advance_176 : decode cX12_advance 176 = .ok (.goto 4, 3) := by decide +kernel
theorem dX12_advance_179 : decode cX12_advance 179 = .ok (.iconst 3, 1) := by decide +kernel
theorem dX12_advance_180 : decode cX12_advance 180 = .ok (.putfield 111, 3) := by decide +kernel
theorem dX12_advance_183 : decode cX12_advance 183 = .ok (.goto 128, 3) := by decide +kernel
theorem dX12_advance_186 : decode cX12_advance 186 = .ok (.iload_n 1, 1) := by decide +kernel
theorem dX12_advance_187 : decode cX12_advance 187 = .ok (.invokestatic 128, 3) := by decide +kernel
theorem dX12_advance_190 : decode cX12_advance 190 = .ok (.ifCond .eq 96, 3) := by decide +kernel
theorem dX12_advance_193 : decode cX12_advance 193 = .ok (.aload_n 0, 1) := by decide +kernel
theorem dX12_advance_194 : decode cX12_advance 194 = .ok (.iconst 0, 1) := by decide +kernel
theorem dX12_advance_195 : decode cX12_advance 195 = .ok (.putfield 131, 3) := by decide +kernel
theorem dX12_advance_198 : decode cX12_advance 198 = .ok (.aload_n 0, 1) := by decide +kernel
theorem dX12_advance_199 : decode cX12_advance 199 = .ok (.aload_n 0, 1) := by decide +kernel
theorem dX12_advance_200 : decode cX12_advance 200 = .ok (.getfield 101, 3) := by decide +kernel
theorem dX12_advance_203 : decode cX12_advance 203 = .ok (.invokevirtual 104, 3) := by decide +kernel
theorem dX12_advance_206 : decode cX12_advance 206 = .ok (.invokestatic 128, 3) := by decide +kernel
theorem dX12_advance_209 : decode cX12_advance 209 = .ok (.ifCond .eq 52, 3) := by decide +kernel
theorem dX12_advance_212 : decode cX12_advance 212 = .ok (.aload_n 0, 1) := by decide +kernel
theorem dX12_advance_213 : decode cX12_advance 213 = .ok (.getfield 101, 3) := by decide +kernel
theorem dX12_advance_216 : decode cX12_advance 216 = .ok (.aload_n 0, 1) := by decide +kernel
theorem dX12_advance_217 : decode cX12_advance 217 = .ok (.getfield 108, 3) := by decide +kernel
theorem dX12_advance_220 : decode cX12_advance 220 = .ok (.isub, 1) := by decide +kernel
theorem dX12_advance_221 : decode cX12_advance 221 = .ok (.iconst 2, 1) := by decide +kernel
theorem dX12_advance_222 : decode cX12_advance 222 = .ok (.if_icmp .ge 26, 3) := by decide +kernel
theorem dX12_advance_225 : decode cX12_advance 225 = .ok (.aload_n 0, 1) := by decide +kernel
theorem dX12_advance_226 : decode cX12_advance 226 = .ok (.bipush 10, 2) := by decide +kernel
theorem dX12_advance_228 : decode cX12_advance 228 = .ok (.aload_n 0, 1) := by decide +kernel
theorem dX12_advance_229 : decode cX12_advance 229 = .ok (.getfield 131, 3) := by decide +kernel
theorem dX12_advance_232 : decode cX12_advance 232 = .ok (.imul, 1) := by decide +kernel
theorem dX12_advance_233 : decode cX12_advance 233 = .ok (.aload_n 0, 1) := by decide +kernel
theorem dX12_advance_234 : decode cX12_advance 234 = .ok (.aload_n 0, 1) := by decide +kernel
theorem dX12_advance_235 : decode cX12_advance 235 = .ok (.getfield 101, 3) := by decide +kernel
theorem dX12_advance_238 : decode cX12_advance 238 = .ok (.invokevirtual 104, 3) := by decide +kernel
theorem dX12_advance_241 : decode cX12_advance 241 = .ok (.iadd, 1) := by decide +kernel
theorem dX12_advance_242 : decode cX12_advance 242 = .ok (.bipush 48, 2) := by decide +kernel
theorem dX12_advance_244 : decode cX12_advance 244 = .ok (.isub, 1) := by decide +kernel
theorem dX12_advance_245 : decode cX12_advance 245 = .ok (.putfield 131, 3) := by decide +kernel
theorem dX12_advance_248 : decode cX12_advance 248 = .ok (.aload_n 0, 1) := by decide +kernel
theorem dX12_advance_249 : decode cX12_advance 249 = .ok (.dup, 1) := by decide +kernel
theorem dX12_advance_250 : decode cX12_advance 250 = .ok (.getfield 101, 3) := by decide +kernel
theorem dX12_advance_253 : decode cX12_advance 253 = .ok (.iconst 1, 1) := by decide +kernel
theorem dX12_advance_254 : decode cX12_advance 254 = .ok (.iadd, 1) := by decide +kernel
theorem dX12_advance_255 : decode cX12_advance 255 = .ok (.putfield 101, 3) := by decide +kernel
theorem dX12_advance_258 : decode cX12_advance 258 = .ok (.goto (-60), 3) := by decide +kernel
theorem dX12_advance_261 : decode cX12_advance 261 = .ok (.aload_n 0, 1) := by decide +kernel
theorem dX12_advance_262 : decode cX12_advance 262 = .ok (.aload_n 0, 1) := by decide +kernel
theorem dX12_advance_263 : decode cX12_advance 263 = .ok (.getfield 101, 3) := by decide +kernel
theorem dX12_advance_266 : decode cX12_advance 266 = .ok (.aload_n 0, 1) := by decide +kernel
theorem dX12_advance_267 : decode cX12_advance 267 = .ok (.getfield 108, 3) := by decide +kernel
theorem dX12_advance_270 : decode cX12_advance 270 = .ok (.isub, 1) := by decide +kernel
theorem dX12_advance_271 : decode cX12_advance 271 = .ok (.iconst 2, 1) := by decide +kernel
theorem dX12_advance_272 : decode cX12_advance 272 = .ok (.if_icmp .le 7, 3) := by decide +kernel
theorem dX12_advance_275 : decode cX12_advance 275 = .ok (.iconst 4, 1) := by decide +kernel
theorem dX12_advance_276 : decode cX12_advance 276 = .ok (.goto 4, 3) := by decide +kernel
theorem dX12_advance_279 : decode cX12_advance 279 = .ok (.iconst 1, 1) := by decide +kernel
theorem dX12_advance_280 : decode cX12_advance 280 = .ok (.putfield 111, 3) := by decide +kernel
theorem dX12_advance_283 : decode cX12_advance 283 = .ok (.goto 28, 3) := by decide +kernel
theorem dX12_advance_286 : decode cX12_advance 286 = .ok (.aload_n 0, 1) := by decide +kernel
theorem dX12_advance_287 : decode cX12_advance 287 = .ok (.dup, 1) := by decide +kernel
theorem dX12_advance_288 : decode cX12_advance 288 = .ok (.getfield 101, 3) := by decide +kernel
theorem dX12_advance_291 : decode cX12_advance 291 = .ok (.iconst 1, 1) := by decide +kernel
theorem dX12_advance_292 : decode cX12_advance 292 = .ok (.iadd, 1) := by decide +kernel
theorem dX12_advance_293 : decode cX12_advance 293 = .ok (.putfield 101, 3) := by decide +kernel
theorem dX12_advance_296 : decode cX12_advance 296 = .ok (.aload_n 0, 1) := by decide +kernel
theorem dX12_advance_297 : decode cX12_advance 297 = .ok (.iload_n 1, 1) := by decide +kernel
theorem dX12_advance_298 : decode cX12_advance 298 = .ok (.bipush 59, 2) := by decide +kernel
theorem dX12_advance_300 : decode cX12_advance 300 = .ok (.if_icmp .ne 7, 3) := by decide +kernel
theorem dX12_advance_303 : decode cX12_advance 303 = .ok (.iconst 2, 1) := by decide +kernel
theorem dX12_advance_304 : decode cX12_advance 304 = .ok (.goto 4, 3) := by decide +kernel
theorem dX12_advance_307 : decode cX12_advance 307 = .ok (.iconst 4, 1) := by decide +kernel
theorem dX12_advance_308 : decode cX12_advance 308 = .ok (.putfield 111, 3) := by decide +kernel
theorem dX12_advance_311 : decode cX12_advance 311 = .ok (.return_, 1) := by decide +kernel
theorem dX12_ends_0 : decode cX12_ends 0 = .ok (.aload_n 0, 1) := by decide +kernel
theorem dX12_ends_1 : decode cX12_ends 1 = .ok (.getfield 134, 3) := by decide +kernel
theorem dX12_ends_4 : decode cX12_ends 4 = .ok (.ifCond .eq 4, 3) := by decide +kernel
theorem dX12_ends_7 : decode cX12_ends 7 = .ok (.return_, 1) := by decide +kernel
theorem dX12_ends_8 : decode cX12_ends 8 = .ok (.aload_n 0, 1) := by decide +kernel
theorem dX12_ends_9 : decode cX12_ends 9 = .ok (.iconst 1, 1) := by decide +kernel
theorem dX12_ends_10 : decode cX12_ends 10 = .ok (.putfield 134, 3) := by decide +kernel
theorem dX12_ends_13 : decode cX12_ends 13 = .ok (.aload_n 0, 1) := by decide +kernel
theorem dX12_ends_14 : decode cX12_ends 14 = .ok (.getfield 7, 3) := by decide +kernel
theorem dX12_ends_17 : decode cX12_ends 17 = .ok (.iconst 5, 1) := by decide +kernel
theorem dX12_ends_18 : decode cX12_ends 18 = .ok (.iconst 1, 1) := by decide +kernel
theorem dX12_ends_19 : decode cX12_ends 19 = .ok (.iastore, 1) := by decide +kernel
theorem dX12_ends_20 : decode cX12_ends 20 = .ok (.aload_n 0, 1) := by decide +kernel
theorem dX12_ends_21 : decode cX12_ends 21 = .ok (.getfield 7, 3) := by decide +kernel
theorem dX12_ends_24 : decode cX12_ends 24 = .ok (.bipush 6, 2) := by decide +kernel
theorem dX12_ends_26 : decode cX12_ends 26 = .ok (.aload_n 0, 1) := by decide +kernel
theorem dX12_ends_27 : decode cX12_ends 27 = .ok (.getfield 108, 3) := by decide +kernel
theorem dX12_ends_30 : decode cX12_ends 30 = .ok (.iastore, 1) := by decide +kernel
theorem dX12_ends_31 : decode cX12_ends 31 = .ok (.return_, 1) := by decide +kernel
theorem dX12_also_0 : decode cX12_also 0 = .ok (.aload_n 0, 1) := by decide +kernel
theorem dX12_also_1 : decode cX12_also 1 = .ok (.getfield 134, 3) := by decide +kernel
theorem dX12_also_4 : decode cX12_also 4 = .ok (.ifCond .ne 44, 3) := by decide +kernel
theorem dX12_also_7 : decode cX12_also 7 = .ok (.aload_n 0, 1) := by decide +kernel
theorem dX12_also_8 : decode cX12_also 8 = .ok (.getfield 7, 3) := by decide +kernel
theorem dX12_also_11 : decode cX12_also 11 = .ok (.iconst 5, 1) := by decide +kernel
theorem dX12_also_12 : decode cX12_also 12 = .ok (.iaload, 1) := by decide +kernel
theorem dX12_also_13 : decode cX12_also 13 = .ok (.ifCond .eq 36, 3) := by decide +kernel
theorem dX12_also_16 : decode cX12_also 16 = .ok (.aload_n 0, 1) := by decide +kernel
theorem dX12_also_17 : decode cX12_also 17 = .ok (.getfield 7, 3) := by decide +kernel
theorem dX12_also_20 : decode cX12_also 20 = .ok (.bipush 6, 2) := by decide +kernel
theorem dX12_also_22 : decode cX12_also 22 = .ok (.iaload, 1) := by decide +kernel
theorem dX12_also_23 : decode cX12_also 23 = .ok (.iload_n 2, 1) := by decide +kernel
theorem dX12_also_24 : decode cX12_also 24 = .ok (.if_icmp .lt 24, 3) := by decide +kernel
theorem dX12_also_27 : decode cX12_also 27 = .ok (.aload_n 0, 1) := by decide +kernel
theorem dX12_also_28 : decode cX12_also 28 = .ok (.getfield 7, 3) := by decide +kernel
theorem dX12_also_31 : decode cX12_also 31 = .ok (.bipush 6, 2) := by decide +kernel
theorem dX12_also_33 : decode cX12_also 33 = .ok (.iaload, 1) := by decide +kernel
theorem dX12_also_34 : decode cX12_also 34 = .ok (.iload_n 2, 1) := by decide +kernel
theorem dX12_also_35 : decode cX12_also 35 = .ok (.if_icmp .ne 14, 3) := by decide +kernel
theorem dX12_also_38 : decode cX12_also 38 = .ok (.aload_n 0, 1) := by decide +kernel
theorem dX12_also_39 : decode cX12_also 39 = .ok (.getfield 7, 3) := by decide +kernel
theorem dX12_also_42 : decode cX12_also 42 = .ok (.iconst 5, 1) := by decide +kernel
theorem dX12_also_43 : decode cX12_also 43 = .ok (.iaload, 1) := by decide +kernel
theorem dX12_also_44 : decode cX12_also 44 = .ok (.iload_n 1, 1) := by decide +kernel
theorem dX12_also_45 : decode cX12_also 45 = .ok (.if_icmp .gt 4, 3) := by decide +kernel
theorem dX12_also_48 : decode cX12_also 48 = .ok (.return_, 1) := by decide +kernel
theorem dX12_also_49 : decode cX12_also 49 = .ok (.aload_n 0, 1) := by decide +kernel
theorem dX12_also_50 : decode cX12_also 50 = .ok (.getfield 7, 3) := by decide +kernel
theorem dX12_also_53 : decode cX12_also 53 = .ok (.iconst 5, 1) := by decide +kernel
theorem dX12_also_54 : decode cX12_also 54 = .ok (.iload_n 1, 1) := by decide +kernel
theorem dX12_also_55 : decode cX12_also 55 = .ok (.iastore, 1) := by decide +kernel
theorem dX12_also_56 : decode cX12_also 56 = .ok (.aload_n 0, 1) := by decide +kernel
theorem dX12_also_57 : decode cX12_also 57 = .ok (.getfield 7, 3) := by decide +kernel
theorem dX12_also_60 : decode cX12_also 60 = .ok (.bipush 6, 2) := by decide +kernel
theorem dX12_also_62 : decode cX12_also 62 = .ok (.iload_n 2, 1) := by decide +kernel
theorem dX12_also_63 : decode cX12_also 63 = .ok (.iastore, 1) := by decide +kernel
theorem dX12_also_64 : decode cX12_also 64 = .ok (.return_, 1) := by decide +kernel
theorem dX12_numbered_0 : decode cX12_numbered 0 = .ok (.aload_n 0, 1) := by decide +kernel
theorem dX12_numbered_1 : decode cX12_numbered 1 = .ok (.getfield 134, 3) := by decide +kernel
theorem dX12_numbered_4 : decode cX12_numbered 4 = .ok (.ifCond .ne 11, 3) := by decide +kernel
theorem dX12_numbered_7 : decode cX12_numbered 7 = .ok (.aload_n 0, 1) := by decide +kernel
theorem dX12_numbered_8 : decode cX12_numbered 8 = .ok (.getfield 111, 3) := by decide +kernel
theorem dX12_numbered_11 : decode cX12_numbered 11 = .ok (.iconst 1, 1) := by decide +kernel
theorem dX12_numbered_12 : decode cX12_numbered 12 = .ok (.if_icmp .eq 9, 3) := by decide +kernel
theorem dX12_numbered_15 : decode cX12_numbered 15 = .ok (.aload_n 0, 1) := by decide +kernel
theorem dX12_numbered_16 : decode cX12_numbered 16 = .ok (.invokevirtual 138, 3) := by decide +kernel
theorem dX12_numbered_19 : decode cX12_numbered 19 = .ok (.iload_n 1, 1) := by decide +kernel
theorem dX12_numbered_20 : decode cX12_numbered 20 = .ok (.ireturn, 1) := by decide +kernel
theorem dX12_numbered_21 : decode cX12_numbered 21 = .ok (.aload_n 0, 1) := by decide +kernel
theorem dX12_numbered_22 : decode cX12_numbered 22 = .ok (.getfield 131, 3) := by decide +kernel
theorem dX12_numbered_25 : decode cX12_numbered 25 = .ok (.istore_n 3, 1) := by decide +kernel
theorem dX12_numbered_26 : decode cX12_numbered 26 = .ok (.iload_n 3, 1) := by decide +kernel
theorem dX12_numbered_27 : decode cX12_numbered 27 = .ok (.iload_n 1, 1) := by decide +kernel
theorem dX12_numbered_28 : decode cX12_numbered 28 = .ok (.iload_n 2, 1) := by decide +kernel
theorem dX12_numbered_29 : decode cX12_numbered 29 = .ok (.invokestatic 141, 3) := by decide +kernel
theorem dX12_numbered_32 : decode cX12_numbered 32 = .ok (.ifCond .ne 12, 3) := by decide +kernel
theorem dX12_numbered_35 : decode cX12_numbered 35 = .ok (.aload_n 0, 1) := by decide +kernel
theorem dX12_numbered_36 : decode cX12_numbered 36 = .ok (.iconst 2, 1) := by decide +kernel
theorem dX12_numbered_37 : decode cX12_numbered 37 = .ok (.aload_n 0, 1) := by decide +kernel
theorem dX12_numbered_38 : decode cX12_numbered 38 = .ok (.getfield 108, 3) := by decide +kernel
theorem dX12_numbered_41 : decode cX12_numbered 41 = .ok (.invokevirtual 145, 3) := by decide +kernel
theorem dX12_numbered_44 : decode cX12_numbered 44 = .ok (.aload_n 0, 1) := by decide +kernel
theorem dX12_numbered_45 : decode cX12_numbered 45 = .ok (.invokevirtual 149, 3) := by decide +kernel
theorem dX12_numbered_48 : decode cX12_numbered 48 = .ok (.iload_n 3, 1) := by decide +kernel
theorem dX12_numbered_49 : decode cX12_numbered 49 = .ok (.iload_n 1, 1) := by decide +kernel
theorem dX12_numbered_50 : decode cX12_numbered 50 = .ok (.iload_n 2, 1) := by decide +kernel
theorem dX12_numbered_51 : decode cX12_numbered 51 = .ok (.invokestatic 141, 3) := by decide +kernel
theorem dX12_numbered_54 : decode cX12_numbered 54 = .ok (.ifCond .eq 7, 3) := by decide +kernel
theorem dX12_numbered_57 : decode cX12_numbered 57 = .ok (.iload_n 3, 1) := by decide +kernel
theorem dX12_numbered_58 : decode cX12_numbered 58 = .ok (.goto 4, 3) := by decide +kernel
theorem dX12_numbered_61 : decode cX12_numbered 61 = .ok (.iload_n 1, 1) := by decide +kernel
theorem dX12_numbered_62 : decode cX12_numbered 62 = .ok (.ireturn, 1) := by decide +kernel
theorem dX12_takes_0 : decode cX12_takes 0 = .ok (.aload_n 0, 1) := by decide +kernel
theorem dX12_takes_1 : decode cX12_takes 1 = .ok (.getfield 134, 3) := by decide +kernel
theorem dX12_takes_4 : decode cX12_takes 4 = .ok (.ifCond .ne 23, 3) := by decide +kernel
theorem dX12_takes_7 : decode cX12_takes 7 = .ok (.aload_n 0, 1) := by decide +kernel
theorem dX12_takes_8 : decode cX12_takes 8 = .ok (.getfield 111, 3) := by decide +kernel
theorem dX12_takes_11 : decode cX12_takes 11 = .ok (.iconst 3, 1) := by decide +kernel
theorem dX12_takes_12 : decode cX12_takes 12 = .ok (.if_icmp .ne 15, 3) := by decide +kernel
theorem dX12_takes_15 : decode cX12_takes 15 = .ok (.aload_n 0, 1) := by decide +kernel
theorem dX12_takes_16 : decode cX12_takes 16 = .ok (.getfield 125, 3) := by decide +kernel
theorem dX12_takes_19 : decode cX12_takes 19 = .ok (.iload_n 1, 1) := by decide +kernel
theorem dX12_takes_20 : decode cX12_takes 20 = .ok (.iload_n 2, 1) := by decide +kernel
theorem dX12_takes_21 : decode cX12_takes 21 = .ok (.invokestatic 141, 3) := by decide +kernel
theorem dX12_takes_24 : decode cX12_takes 24 = .ok (.ifCond .ne 9, 3) := by decide +kernel
theorem dX12_takes_27 : decode cX12_takes 27 = .ok (.aload_n 0, 1) := by decide +kernel
theorem dX12_takes_28 : decode cX12_takes 28 = .ok (.invokevirtual 138, 3) := by decide +kernel
theorem dX12_takes_31 : decode cX12_takes 31 = .ok (.iconst 0, 1) := by decide +kernel
theorem dX12_takes_32 : decode cX12_takes 32 = .ok (.ireturn, 1) := by decide +kernel
theorem dX12_takes_33 : decode cX12_takes 33 = .ok (.aload_n 0, 1) := by decide +kernel
theorem dX12_takes_34 : decode cX12_takes 34 = .ok (.getfield 125, 3) := by decide +kernel
theorem dX12_takes_37 : decode cX12_takes 37 = .ok (.istore_n 3, 1) := by decide +kernel
theorem dX12_takes_38 : decode cX12_takes 38 = .ok (.aload_n 0, 1) := by decide +kernel
theorem dX12_takes_39 : decode cX12_takes 39 = .ok (.invokevirtual 149, 3) := by decide +kernel
theorem dX12_takes_42 : decode cX12_takes 42 = .ok (.iload_n 3, 1) := by decide +kernel
theorem dX12_takes_43 : decode cX12_takes 43 = .ok (.ireturn, 1) := by decide +kernel
theorem dX12_endsLine_0 : decode cX12_endsLine 0 = .ok (.aload_n 0, 1) := by decide +kernel
theorem dX12_endsLine_1 : decode cX12_endsLine 1 = .ok (.getfield 134, 3) := by decide +kernel
theorem dX12_endsLine_4 : decode cX12_endsLine 4 = .ok (.ifCond .ne 18, 3) := by decide +kernel
theorem dX12_endsLine_7 : decode cX12_endsLine 7 = .ok (.aload_n 0, 1) := by decide +kernel
theorem dX12_endsLine_8 : decode cX12_endsLine 8 = .ok (.getfield 111, 3) := by decide +kernel
theorem dX12_endsLine_11 : decode cX12_endsLine 11 = .ok (.iconst 2, 1) := by decide +kernel
theorem dX12_endsLine_12 : decode cX12_endsLine 12 = .ok (.if_icmp .ne 10, 3) := by decide +kernel
theorem dX12_endsLine_15 : decode cX12_endsLine 15 = .ok (.aload_n 0, 1) := by decide +kernel
theorem dX12_endsLine_16 : decode cX12_endsLine 16 = .ok (.invokevirtual 149, 3) := by decide +kernel
theorem dX12_endsLine_19 : decode cX12_endsLine 19 = .ok (.goto 7, 3) := by decide +kernel
theorem dX12_endsLine_22 : decode cX12_endsLine 22 = .ok (.aload_n 0, 1) := by decide +kernel
theorem dX12_endsLine_23 : decode cX12_endsLine 23 = .ok (.invokevirtual 138, 3) := by decide +kernel
theorem dX12_endsLine_26 : decode cX12_endsLine 26 = .ok (.return_, 1) := by decide +kernel
theorem dX12_squareTold_0 : decode cX12_squareTold 0 = .ok (.aload_n 0, 1) := by decide +kernel
theorem dX12_squareTold_1 : decode cX12_squareTold 1 = .ok (.iconst 0, 1) := by decide +kernel
theorem dX12_squareTold_2 : decode cX12_squareTold 2 = .ok (.bipush 7, 2) := by decide +kernel
theorem dX12_squareTold_4 : decode cX12_squareTold 4 = .ok (.invokevirtual 152, 3) := by decide +kernel
theorem dX12_squareTold_7 : decode cX12_squareTold 7 = .ok (.istore_n 1, 1) := by decide +kernel
theorem dX12_squareTold_8 : decode cX12_squareTold 8 = .ok (.aload_n 0, 1) := by decide +kernel
theorem dX12_squareTold_9 : decode cX12_squareTold 9 = .ok (.iconst 0, 1) := by decide +kernel
theorem dX12_squareTold_10 : decode cX12_squareTold 10 = .ok (.bipush 7, 2) := by decide +kernel
theorem dX12_squareTold_12 : decode cX12_squareTold 12 = .ok (.invokevirtual 152, 3) := by decide +kernel
theorem dX12_squareTold_15 : decode cX12_squareTold 15 = .ok (.istore_n 2, 1) := by decide +kernel
theorem dX12_squareTold_16 : decode cX12_squareTold 16 = .ok (.aload_n 0, 1) := by decide +kernel
theorem dX12_squareTold_17 : decode cX12_squareTold 17 = .ok (.iload_n 1, 1) := by decide +kernel
theorem dX12_squareTold_18 : decode cX12_squareTold 18 = .ok (.aload_n 0, 1) := by decide +kernel
theorem dX12_squareTold_19 : decode cX12_squareTold 19 = .ok (.getfield 156, 3) := by decide +kernel
theorem dX12_squareTold_22 : decode cX12_squareTold 22 = .ok (.if_icmp .le 7, 3) := by decide +kernel
theorem dX12_squareTold_25 : decode cX12_squareTold 25 = .ok (.iload_n 1, 1) := by decide +kernel
theorem dX12_squareTold_26 : decode cX12_squareTold 26 = .ok (.goto 7, 3) := by decide +kernel
theorem dX12_squareTold_29 : decode cX12_squareTold 29 = .ok (.aload_n 0, 1) := by decide +kernel
theorem dX12_squareTold_30 : decode cX12_squareTold 30 = .ok (.getfield 156, 3) := by decide +kernel
theorem dX12_squareTold_33 : decode cX12_squareTold 33 = .ok (.putfield 156, 3) := by decide +kernel
theorem dX12_squareTold_36 : decode cX12_squareTold 36 = .ok (.aload_n 0, 1) := by decide +kernel
theorem dX12_squareTold_37 : decode cX12_squareTold 37 = .ok (.iload_n 2, 1) := by decide +kernel
theorem dX12_squareTold_38 : decode cX12_squareTold 38 = .ok (.aload_n 0, 1) := by decide +kernel
theorem dX12_squareTold_39 : decode cX12_squareTold 39 = .ok (.getfield 159, 3) := by decide +kernel
theorem dX12_squareTold_42 : decode cX12_squareTold 42 = .ok (.if_icmp .le 7, 3) := by decide +kernel
theorem dX12_squareTold_45 : decode cX12_squareTold 45 = .ok (.iload_n 2, 1) := by decide +kernel
theorem dX12_squareTold_46 : decode cX12_squareTold 46 = .ok (.goto 7, 3) := by decide +kernel
theorem dX12_squareTold_49 : decode cX12_squareTold 49 = .ok (.aload_n 0, 1) := by decide +kernel
theorem dX12_squareTold_50 : decode cX12_squareTold 50 = .ok (.getfield 159, 3) := by decide +kernel
theorem dX12_squareTold_53 : decode cX12_squareTold 53 = .ok (.putfield 159, 3) := by decide +kernel
theorem dX12_squareTold_56 : decode cX12_squareTold 56 = .ok (.bipush 8, 2) := by decide +kernel
theorem dX12_squareTold_58 : decode cX12_squareTold 58 = .ok (.iload_n 2, 1) := by decide +kernel
theorem dX12_squareTold_59 : decode cX12_squareTold 59 = .ok (.imul, 1) := by decide +kernel
theorem dX12_squareTold_60 : decode cX12_squareTold 60 = .ok (.iload_n 1, 1) := by decide +kernel
theorem dX12_squareTold_61 : decode cX12_squareTold 61 = .ok (.iadd, 1) := by decide +kernel
theorem dX12_squareTold_62 : decode cX12_squareTold 62 = .ok (.ireturn, 1) := by decide +kernel
theorem dX12_personLine_0 : decode cX12_personLine 0 = .ok (.aload_n 0, 1) := by decide +kernel
theorem dX12_personLine_1 : decode cX12_personLine 1 = .ok (.getfield 17, 3) := by decide +kernel
theorem dX12_personLine_4 : decode cX12_personLine 4 = .ok (.iconst 2, 1) := by decide +kernel
theorem dX12_personLine_5 : decode cX12_personLine 5 = .ok (.iaload, 1) := by decide +kernel
theorem dX12_personLine_6 : decode cX12_personLine 6 = .ok (.bipush 8, 2) := by decide +kernel
theorem dX12_personLine_8 : decode cX12_personLine 8 = .ok (.if_icmp .ge 7, 3) := by decide +kernel
theorem dX12_personLine_11 : decode cX12_personLine 11 = .ok (.iconst 1, 1) := by decide +kernel
theorem dX12_personLine_12 : decode cX12_personLine 12 = .ok (.goto 4, 3) := by decide +kernel
theorem dX12_personLine_15 : decode cX12_personLine 15 = .ok (.iconst 0, 1) := by decide +kernel
theorem dX12_personLine_16 : decode cX12_personLine 16 = .ok (.istore_n 2, 1) := by decide +kernel
theorem dX12_personLine_17 : decode cX12_personLine 17 = .ok (.iload_n 2, 1) := by decide +kernel
theorem dX12_personLine_18 : decode cX12_personLine 18 = .ok (.ifCond .ne 9, 3) := by decide +kernel
theorem dX12_personLine_21 : decode cX12_personLine 21 = .ok (.aload_n 0, 1) := by decide +kernel
theorem dX12_personLine_22 : decode cX12_personLine 22 = .ok (.iconst 3, 1) := by decide +kernel
theorem dX12_personLine_23 : decode cX12_personLine 23 = .ok (.iload_n 1, 1) := by decide +kernel
theorem dX12_personLine_24 : decode cX12_personLine 24 = .ok (.invokevirtual 145, 3) := by decide +kernel
theorem dX12_personLine_27 : decode cX12_personLine 27 = .ok (.aload_n 0, 1) := by decide +kernel
theorem dX12_personLine_28 : decode cX12_personLine 28 = .ok (.invokevirtual 162, 3) := by decide +kernel
theorem dX12_personLine_31 : decode cX12_personLine 31 = .ok (.istore_n 3, 1) := by decide +kernel
theorem dX12_personLine_32 : decode cX12_personLine 32 = .ok (.aload_n 0, 1) := by decide +kernel
theorem dX12_personLine_33 : decode cX12_personLine 33 = .ok (.iconst 0, 1) := by decide +kernel
theorem dX12_personLine_34 : decode cX12_personLine 34 = .ok (.bipush 9, 2) := by decide +kernel
theorem dX12_personLine_36 : decode cX12_personLine 36 = .ok (.invokevirtual 152, 3) := by decide +kernel
theorem dX12_personLine_39 : decode cX12_personLine 39 = .ok (.istore 4, 2) := by decide +kernel
theorem dX12_personLine_41 : decode cX12_personLine 41 = .ok (.iload_n 2, 1) := by decide +kernel
theorem dX12_personLine_42 : decode cX12_personLine 42 = .ok (.ifCond .ne 4, 3) := by decide +kernel
theorem dX12_personLine_45 : decode cX12_personLine 45 = .ok (.return_, 1) := by decide +kernel
theorem dX12_personLine_46 : decode cX12_personLine 46 = .ok (.aload_n 0, 1) := by decide +kernel
theorem dX12_personLine_47 : decode cX12_personLine 47 = .ok (.getfield 17, 3) := by decide +kernel
theorem dX12_personLine_50 : decode cX12_personLine 50 = .ok (.bipush 68, 2) := by decide +kernel
theorem dX12_personLine_52 : decode cX12_personLine 52 = .ok (.iconst 2, 1) := by decide +kernel
theorem dX12_personLine_53 : decode cX12_personLine 53 = .ok (.aload_n 0, 1) := by decide +kernel
theorem dX12_personLine_54 : decode cX12_personLine 54 = .ok (.getfield 17, 3) := by decide +kernel
theorem dX12_personLine_57 : decode cX12_personLine 57 = .ok (.iconst 2, 1) := by decide +kernel
theorem dX12_personLine_58 : decode cX12_personLine 58 = .ok (.iaload, 1) := by decide +kernel
theorem dX12_personLine_59 : decode cX12_personLine 59 = .ok (.imul, 1) := by decide +kernel
theorem dX12_personLine_60 : decode cX12_personLine 60 = .ok (.iadd, 1) := by decide +kernel
theorem dX12_personLine_61 : decode cX12_personLine 61 = .ok (.iload_n 3, 1) := by decide +kernel
theorem dX12_personLine_62 : decode cX12_personLine 62 = .ok (.iastore, 1) := by decide +kernel
theorem dX12_personLine_63 : decode cX12_personLine 63 = .ok (.aload_n 0, 1) := by decide +kernel
theorem dX12_personLine_64 : decode cX12_personLine 64 = .ok (.getfield 17, 3) := by decide +kernel
theorem dX12_personLine_67 : decode cX12_personLine 67 = .ok (.bipush 68, 2) := by decide +kernel
theorem dX12_personLine_69 : decode cX12_personLine 69 = .ok (.iconst 2, 1) := by decide +kernel
theorem dX12_personLine_70 : decode cX12_personLine 70 = .ok (.aload_n 0, 1) := by decide +kernel
theorem dX12_personLine_71 : decode cX12_personLine 71 = .ok (.getfield 17, 3) := by decide +kernel
theorem dX12_personLine_74 : decode cX12_personLine 74 = .ok (.iconst 2, 1) := by decide +kernel
theorem dX12_personLine_75 : decode cX12_personLine 75 = .ok (.iaload, 1) := by decide +kernel
theorem dX12_personLine_76 : decode cX12_personLine 76 = .ok (.imul, 1) := by decide +kernel
theorem dX12_personLine_77 : decode cX12_personLine 77 = .ok (.iadd, 1) := by decide +kernel
theorem dX12_personLine_78 : decode cX12_personLine 78 = .ok (.iconst 1, 1) := by decide +kernel
theorem dX12_personLine_79 : decode cX12_personLine 79 = .ok (.iadd, 1) := by decide +kernel
theorem dX12_personLine_80 : decode cX12_personLine 80 = .ok (.iload 4, 2) := by decide +kernel
theorem dX12_personLine_82 : decode cX12_personLine 82 = .ok (.iastore, 1) := by decide +kernel
theorem dX12_personLine_83 : decode cX12_personLine 83 = .ok (.aload_n 0, 1) := by decide +kernel
theorem dX12_personLine_84 : decode cX12_personLine 84 = .ok (.getfield 17, 3) := by decide +kernel
theorem dX12_personLine_87 : decode cX12_personLine 87 = .ok (.iconst 2, 1) := by decide +kernel
theorem dX12_personLine_88 : decode cX12_personLine 88 = .ok (.dup2, 1) := by decide +kernel
theorem dX12_personLine_89 : decode cX12_personLine 89 = .ok (.iaload, 1) := by decide +kernel
theorem dX12_personLine_90 : decode cX12_personLine 90 = .ok (.iconst 1, 1) := by decide +kernel
theorem dX12_personLine_91 : decode cX12_personLine 91 = .ok (.iadd, 1) := by decide +kernel
theorem dX12_personLine_92 : decode cX12_personLine 92 = .ok (.iastore, 1) := by decide +kernel
theorem dX12_personLine_93 : decode cX12_personLine 93 = .ok (.return_, 1) := by decide +kernel
theorem dX12_shineLine_0 : decode cX12_shineLine 0 = .ok (.aload_n 0, 1) := by decide +kernel
theorem dX12_shineLine_1 : decode cX12_shineLine 1 = .ok (.getfield 17, 3) := by decide +kernel
theorem dX12_shineLine_4 : decode cX12_shineLine 4 = .ok (.iconst 3, 1) := by decide +kernel
theorem dX12_shineLine_5 : decode cX12_shineLine 5 = .ok (.iaload, 1) := by decide +kernel
theorem dX12_shineLine_6 : decode cX12_shineLine 6 = .ok (.bipush 8, 2) := by decide +kernel
theorem dX12_shineLine_8 : decode cX12_shineLine 8 = .ok (.if_icmp .ge 7, 3) := by decide +kernel
theorem dX12_shineLine_11 : decode cX12_shineLine 11 = .ok (.iconst 1, 1) := by decide +kernel
theorem dX12_shineLine_12 : decode cX12_shineLine 12 = .ok (.goto 4, 3) := by decide +kernel
theorem dX12_shineLine_15 : decode cX12_shineLine 15 = .ok (.iconst 0, 1) := by decide +kernel
theorem dX12_shineLine_16 : decode cX12_shineLine 16 = .ok (.istore_n 3, 1) := by decide +kernel
theorem dX12_shineLine_17 : decode cX12_shineLine 17 = .ok (.iload_n 3, 1) := by decide +kernel
theorem dX12_shineLine_18 : decode cX12_shineLine 18 = .ok (.ifCond .ne 9, 3) := by decide +kernel
theorem dX12_shineLine_21 : decode cX12_shineLine 21 = .ok (.aload_n 0, 1) := by decide +kernel
theorem dX12_shineLine_22 : decode cX12_shineLine 22 = .ok (.iconst 3, 1) := by decide +kernel
theorem dX12_shineLine_23 : decode cX12_shineLine 23 = .ok (.iload_n 1, 1) := by decide +kernel
theorem dX12_shineLine_24 : decode cX12_shineLine 24 = .ok (.invokevirtual 145, 3) := by decide +kernel
theorem dX12_shineLine_27 : decode cX12_shineLine 27 = .ok (.aload_n 0, 1) := by decide +kernel
theorem dX12_shineLine_28 : decode cX12_shineLine 28 = .ok (.invokevirtual 162, 3) := by decide +kernel
theorem dX12_shineLine_31 : decode cX12_shineLine 31 = .ok (.istore 4, 2) := by decide +kernel
theorem dX12_shineLine_33 : decode cX12_shineLine 33 = .ok (.aload_n 0, 1) := by decide +kernel
theorem dX12_shineLine_34 : decode cX12_shineLine 34 = .ok (.iconst 0, 1) := by decide +kernel
theorem dX12_shineLine_35 : decode cX12_shineLine 35 = .ok (.bipush 7, 2) := by decide +kernel
theorem dX12_shineLine_37 : decode cX12_shineLine 37 = .ok (.invokevirtual 152, 3) := by decide +kernel
theorem dX12_shineLine_40 : decode cX12_shineLine 40 = .ok (.istore 5, 2) := by decide +kernel
theorem dX12_shineLine_42 : decode cX12_shineLine 42 = .ok (.aload_n 0, 1) := by decide +kernel
theorem dX12_shineLine_43 : decode cX12_shineLine 43 = .ok (.iconst 1, 1) := by decide +kernel
theorem dX12_shineLine_44 : decode cX12_shineLine 44 = .ok (.bipush 9, 2) := by decide +kernel
theorem dX12_shineLine_46 : decode cX12_shineLine 46 = .ok (.invokevirtual 152, 3) := by decide +kernel
theorem dX12_shineLine_49 : decode cX12_shineLine 49 = .ok (.istore 6, 2) := by decide +kernel
theorem dX12_shineLine_51 : decode cX12_shineLine 51 = .ok (.aload_n 0, 1) := by decide +kernel
theorem dX12_shineLine_52 : decode cX12_shineLine 52 = .ok (.iconst 0, 1) := by decide +kernel
theorem dX12_shineLine_53 : decode cX12_shineLine 53 = .ok (.iconst 3, 1) := by decide +kernel
theorem dX12_shineLine_54 : decode cX12_shineLine 54 = .ok (.invokevirtual 152, 3) := by decide +kernel
theorem dX12_shineLine_57 : decode cX12_shineLine 57 = .ok (.istore 7, 2) := by decide +kernel
theorem dX12_shineLine_59 : decode cX12_shineLine 59 = .ok (.iload_n 3, 1) := by decide +kernel
theorem dX12_shineLine_60 : decode cX12_shineLine 60 = .ok (.ifCond .ne 4, 3) := by decide +kernel
theorem dX12_shineLine_63 : decode cX12_shineLine 63 = .ok (.return_, 1) := by decide +kernel
theorem dX12_shineLine_64 : decode cX12_shineLine 64 = .ok (.bipush 84, 2) := by decide +kernel
theorem dX12_shineLine_66 : decode cX12_shineLine 66 = .ok (.iconst 5, 1) := by decide +kernel
theorem dX12_shineLine_67 : decode cX12_shineLine 67 = .ok (.aload_n 0, 1) := by decide +kernel
theorem dX12_shineLine_68 : decode cX12_shineLine 68 = .ok (.getfield 17, 3) := by decide +kernel
theorem dX12_shineLine_71 : decode cX12_shineLine 71 = .ok (.iconst 3, 1) := by decide +kernel
theorem dX12_shineLine_72 : decode cX12_shineLine 72 = .ok (.iaload, 1) := by decide +kernel
theorem dX12_shineLine_73 : decode cX12_shineLine 73 = .ok (.imul, 1) := by decide +kernel
theorem dX12_shineLine_74 : decode cX12_shineLine 74 = .ok (.iadd, 1) := by decide +kernel
theorem dX12_shineLine_75 : decode cX12_shineLine 75 = .ok (.istore 8, 2) := by decide +kernel
theorem dX12_shineLine_77 : decode cX12_shineLine 77 = .ok (.aload_n 0, 1) := by decide +kernel
theorem dX12_shineLine_78 : decode cX12_shineLine 78 = .ok (.getfield 17, 3) := by decide +kernel
theorem dX12_shineLine_81 : decode cX12_shineLine 81 = .ok (.iload 8, 2) := by decide +kernel
theorem dX12_shineLine_83 : decode cX12_shineLine 83 = .ok (.iload_n 2, 1) := by decide +kernel
theorem dX12_shineLine_84 : decode cX12_shineLine 84 = .ok (.iastore, 1) := by decide +kernel
theorem dX12_shineLine_85 : decode cX12_shineLine 85 = .ok (.aload_n 0, 1) := by decide +kernel
theorem dX12_shineLine_86 : decode cX12_shineLine 86 = .ok (.getfield 17, 3) := by decide +kernel
theorem dX12_shineLine_89 : decode cX12_shineLine 89 = .ok (.iload 8, 2) := by decide +kernel
theorem dX12_shineLine_91 : decode cX12_shineLine 91 = .ok (.iconst 1, 1) := by decide +kernel
theorem dX12_shineLine_92 : decode cX12_shineLine 92 = .ok (.iadd, 1) := by decide +kernel
theorem dX12_shineLine_93 : decode cX12_shineLine 93 = .ok (.iload 4, 2) := by decide +kernel
theorem dX12_shineLine_95 : decode cX12_shineLine 95 = .ok (.iastore, 1) := by decide +kernel
theorem dX12_shineLine_96 : decode cX12_shineLine 96 = .ok (.aload_n 0, 1) := by decide +kernel
theorem dX12_shineLine_97 : decode cX12_shineLine 97 = .ok (.getfield 17, 3) := by decide +kernel
theorem dX12_shineLine_100 : decode cX12_shineLine 100 = .ok (.iload 8, 2) := by decide +kernel
theorem dX12_shineLine_102 : decode cX12_shineLine 102 = .ok (.iconst 2, 1) := by decide +kernel
theorem dX12_shineLine_103 : decode cX12_shineLine 103 = .ok (.iadd, 1) := by decide +kernel
theorem dX12_shineLine_104 : decode cX12_shineLine 104 = .ok (.iload 5, 2) := by decide +kernel
theorem dX12_shineLine_106 : decode cX12_shineLine 106 = .ok (.iastore, 1) := by decide +kernel
theorem dX12_shineLine_107 : decode cX12_shineLine 107 = .ok (.aload_n 0, 1) := by decide +kernel
theorem dX12_shineLine_108 : decode cX12_shineLine 108 = .ok (.getfield 17, 3) := by decide +kernel
theorem dX12_shineLine_111 : decode cX12_shineLine 111 = .ok (.iload 8, 2) := by decide +kernel
theorem dX12_shineLine_113 : decode cX12_shineLine 113 = .ok (.iconst 3, 1) := by decide +kernel
theorem dX12_shineLine_114 : decode cX12_shineLine 114 = .ok (.iadd, 1) := by decide +kernel
theorem dX12_shineLine_115 : decode cX12_shineLine 115 = .ok (.iload 6, 2) := by decide +kernel
theorem dX12_shineLine_117 : decode cX12_shineLine 117 = .ok (.iastore, 1) := by decide +kernel
theorem dX12_shineLine_118 : decode cX12_shineLine 118 = .ok (.aload_n 0, 1) := by decide +kernel
theorem dX12_shineLine_119 : decode cX12_shineLine 119 = .ok (.getfield 17, 3) := by decide +kernel
theorem dX12_shineLine_122 : decode cX12_shineLine 122 = .ok (.iload 8, 2) := by decide +kernel
theorem dX12_shineLine_124 : decode cX12_shineLine 124 = .ok (.iconst 4, 1) := by decide +kernel
theorem dX12_shineLine_125 : decode cX12_shineLine 125 = .ok (.iadd, 1) := by decide +kernel
theorem dX12_shineLine_126 : decode cX12_shineLine 126 = .ok (.iload 7, 2) := by decide +kernel
theorem dX12_shineLine_128 : decode cX12_shineLine 128 = .ok (.iastore, 1) := by decide +kernel
theorem dX12_shineLine_129 : decode cX12_shineLine 129 = .ok (.aload_n 0, 1) := by decide +kernel
theorem dX12_shineLine_130 : decode cX12_shineLine 130 = .ok (.getfield 17, 3) := by decide +kernel
theorem dX12_shineLine_133 : decode cX12_shineLine 133 = .ok (.iconst 3, 1) := by decide +kernel
theorem dX12_shineLine_134 : decode cX12_shineLine 134 = .ok (.dup2, 1) := by decide +kernel
theorem dX12_shineLine_135 : decode cX12_shineLine 135 = .ok (.iaload, 1) := by decide +kernel
theorem dX12_shineLine_136 : decode cX12_shineLine 136 = .ok (.iconst 1, 1) := by decide +kernel
theorem dX12_shineLine_137 : decode cX12_shineLine 137 = .ok (.iadd, 1) := by decide +kernel
theorem dX12_shineLine_138 : decode cX12_shineLine 138 = .ok (.iastore, 1) := by decide +kernel
theorem dX12_shineLine_139 : decode cX12_shineLine 139 = .ok (.return_, 1) := by decide +kernel
theorem dX12_parishLine_0 : decode cX12_parishLine 0 = .ok (.aload_n 0, 1) := by decide +kernel
theorem dX12_parishLine_1 : decode cX12_parishLine 1 = .ok (.getfield 108, 3) := by decide +kernel
theorem dX12_parishLine_4 : decode cX12_parishLine 4 = .ok (.istore_n 1, 1) := by decide +kernel
theorem dX12_parishLine_5 : decode cX12_parishLine 5 = .ok (.aload_n 0, 1) := by decide +kernel
theorem dX12_parishLine_6 : decode cX12_parishLine 6 = .ok (.iconst 1, 1) := by decide +kernel
theorem dX12_parishLine_7 : decode cX12_parishLine 7 = .ok (.bipush 7, 2) := by decide +kernel
theorem dX12_parishLine_9 : decode cX12_parishLine 9 = .ok (.invokevirtual 166, 3) := by decide +kernel
theorem dX12_parishLine_12 : decode cX12_parishLine 12 = .ok (.istore_n 2, 1) := by decide +kernel
theorem dX12_parishLine_13 : decode cX12_parishLine 13 = .ok (.iload_n 2, 1) := by decide +kernel
theorem dX12_parishLine_14 : decode cX12_parishLine 14 = .ok (.tableswitch 85 0 3 #[30, 33, 62, 77], 30) := by decide +kernel
theorem dX12_parishLine_44 : decode cX12_parishLine 44 = .ok (.goto 63, 3) := by decide +kernel
theorem dX12_parishLine_47 : decode cX12_parishLine 47 = .ok (.aload_n 0, 1) := by decide +kernel
theorem dX12_parishLine_48 : decode cX12_parishLine 48 = .ok (.getfield 17, 3) := by decide +kernel
theorem dX12_parishLine_51 : decode cX12_parishLine 51 = .ok (.iconst 0, 1) := by decide +kernel
theorem dX12_parishLine_52 : decode cX12_parishLine 52 = .ok (.aload_n 0, 1) := by decide +kernel
theorem dX12_parishLine_53 : decode cX12_parishLine 53 = .ok (.iconst 2, 1) := by decide +kernel
theorem dX12_parishLine_54 : decode cX12_parishLine 54 = .ok (.bipush 8, 2) := by decide +kernel
theorem dX12_parishLine_56 : decode cX12_parishLine 56 = .ok (.invokevirtual 152, 3) := by decide +kernel
theorem dX12_parishLine_59 : decode cX12_parishLine 59 = .ok (.iastore, 1) := by decide +kernel
theorem dX12_parishLine_60 : decode cX12_parishLine 60 = .ok (.aload_n 0, 1) := by decide +kernel
theorem dX12_parishLine_61 : decode cX12_parishLine 61 = .ok (.getfield 17, 3) := by decide +kernel
theorem dX12_parishLine_64 : decode cX12_parishLine 64 = .ok (.iconst 1, 1) := by decide +kernel
theorem dX12_parishLine_65 : decode cX12_parishLine 65 = .ok (.aload_n 0, 1) := by decide +kernel
theorem dX12_parishLine_66 : decode cX12_parishLine 66 = .ok (.iconst 2, 1) := by decide +kernel
theorem dX12_parishLine_67 : decode cX12_parishLine 67 = .ok (.bipush 8, 2) := by decide +kernel
theorem dX12_parishLine_69 : decode cX12_parishLine 69 = .ok (.invokevirtual 152, 3) := by decide +kernel
theorem dX12_parishLine_72 : decode cX12_parishLine 72 = .ok (.iastore, 1) := by decide +kernel
theorem dX12_parishLine_73 : decode cX12_parishLine 73 = .ok (.goto 34, 3) := by decide +kernel
theorem dX12_parishLine_76 : decode cX12_parishLine 76 = .ok (.aload_n 0, 1) := by decide +kernel
theorem dX12_parishLine_77 : decode cX12_parishLine 77 = .ok (.getfield 17, 3) := by decide +kernel
theorem dX12_parishLine_80 : decode cX12_parishLine 80 = .ok (.iconst 4, 1) := by decide +kernel
theorem dX12_parishLine_81 : decode cX12_parishLine 81 = .ok (.aload_n 0, 1) := by decide +kernel
theorem dX12_parishLine_82 : decode cX12_parishLine 82 = .ok (.invokevirtual 162, 3) := by decide +kernel
theorem dX12_parishLine_85 : decode cX12_parishLine 85 = .ok (.iadd, 1) := by decide +kernel
theorem dX12_parishLine_86 : decode cX12_parishLine 86 = .ok (.iconst 1, 1) := by decide +kernel
theorem dX12_parishLine_87 : decode cX12_parishLine 87 = .ok (.iastore, 1) := by decide +kernel
theorem dX12_parishLine_88 : decode cX12_parishLine 88 = .ok (.goto 19, 3) := by decide +kernel
theorem dX12_parishLine_91 : decode cX12_parishLine 91 = .ok (.aload_n 0, 1) := by decide +kernel
theorem dX12_parishLine_92 : decode cX12_parishLine 92 = .ok (.iload_n 1, 1) := by decide +kernel
theorem dX12_parishLine_93 : decode cX12_parishLine 93 = .ok (.invokevirtual 169, 3) := by decide +kernel
theorem dX12_parishLine_96 : decode cX12_parishLine 96 = .ok (.goto 11, 3) := by decide +kernel
theorem dX12_parishLine_99 : decode cX12_parishLine 99 = .ok (.aload_n 0, 1) := by decide +kernel
theorem dX12_parishLine_100 : decode cX12_parishLine 100 = .ok (.iload_n 1, 1) := by decide +kernel
theorem dX12_parishLine_101 : decode cX12_parishLine 101 = .ok (.iload_n 2, 1) := by decide +kernel
theorem dX12_parishLine_102 : decode cX12_parishLine 102 = .ok (.iconst 4, 1) := by decide +kernel
theorem dX12_parishLine_103 : decode cX12_parishLine 103 = .ok (.isub, 1) := by decide +kernel
theorem dX12_parishLine_104 : decode cX12_parishLine 104 = .ok (.invokevirtual 173, 3) := by decide +kernel
theorem dX12_parishLine_107 : decode cX12_parishLine 107 = .ok (.aload_n 0, 1) := by decide +kernel
theorem dX12_parishLine_108 : decode cX12_parishLine 108 = .ok (.invokevirtual 176, 3) := by decide +kernel
theorem dX12_parishLine_111 : decode cX12_parishLine 111 = .ok (.return_, 1) := by decide +kernel
theorem dX12_lawLine_0 : decode cX12_lawLine 0 = .ok (.aload_n 0, 1) := by decide +kernel
theorem dX12_lawLine_1 : decode cX12_lawLine 1 = .ok (.bipush 8, 2) := by decide +kernel
theorem dX12_lawLine_3 : decode cX12_lawLine 3 = .ok (.bipush 13, 2) := by decide +kernel
theorem dX12_lawLine_5 : decode cX12_lawLine 5 = .ok (.invokevirtual 166, 3) := by decide +kernel
theorem dX12_lawLine_8 : decode cX12_lawLine 8 = .ok (.istore_n 1, 1) := by decide +kernel
theorem dX12_lawLine_9 : decode cX12_lawLine 9 = .ok (.iload_n 1, 1) := by decide +kernel
theorem dX12_lawLine_10 : decode cX12_lawLine 10 = .ok (.tableswitch 143 8 13 #[38, 54, 70, 85, 101, 111], 38) := by decide +kernel
theorem dX12_lawLine_48 : decode cX12_lawLine 48 = .ok (.aload_n 0, 1) := by decide +kernel
theorem dX12_lawLine_49 : decode cX12_lawLine 49 = .ok (.getfield 17, 3) := by decide +kernel
theorem dX12_lawLine_52 : decode cX12_lawLine 52 = .ok (.iconst 0, 1) := by decide +kernel
theorem dX12_lawLine_53 : decode cX12_lawLine 53 = .ok (.aload_n 0, 1) := by decide +kernel
theorem dX12_lawLine_54 : decode cX12_lawLine 54 = .ok (.iconst 0, 1) := by decide +kernel
theorem dX12_lawLine_55 : decode cX12_lawLine 55 = .ok (.bipush 9, 2) := by decide +kernel
theorem dX12_lawLine_57 : decode cX12_lawLine 57 = .ok (.invokevirtual 152, 3) := by decide +kernel
theorem dX12_lawLine_60 : decode cX12_lawLine 60 = .ok (.iastore, 1) := by decide +kernel
theorem dX12_lawLine_61 : decode cX12_lawLine 61 = .ok (.goto 92, 3) := by decide +kernel
theorem dX12_lawLine_64 : decode cX12_lawLine 64 = .ok (.aload_n 0, 1) := by decide +kernel
theorem dX12_lawLine_65 : decode cX12_lawLine 65 = .ok (.getfield 17, 3) := by decide +kernel
theorem dX12_lawLine_68 : decode cX12_lawLine 68 = .ok (.iconst 3, 1) := by decide +kernel
theorem dX12_lawLine_69 : decode cX12_lawLine 69 = .ok (.aload_n 0, 1) := by decide +kernel
theorem dX12_lawLine_70 : decode cX12_lawLine 70 = .ok (.iconst 1, 1) := by decide +kernel
theorem dX12_lawLine_71 : decode cX12_lawLine 71 = .ok (.bipush 20, 2) := by decide +kernel
theorem dX12_lawLine_73 : decode cX12_lawLine 73 = .ok (.invokevirtual 152, 3) := by decide +kernel
theorem dX12_lawLine_76 : decode cX12_lawLine 76 = .ok (.iastore, 1) := by decide +kernel
theorem dX12_lawLine_77 : decode cX12_lawLine 77 = .ok (.goto 76, 3) := by decide +kernel
theorem dX12_lawLine_80 : decode cX12_lawLine 80 = .ok (.aload_n 0, 1) := by decide +kernel
theorem dX12_lawLine_81 : decode cX12_lawLine 81 = .ok (.getfield 17, 3) := by decide +kernel
theorem dX12_lawLine_84 : decode cX12_lawLine 84 = .ok (.iconst 4, 1) := by decide +kernel
theorem dX12_lawLine_85 : decode cX12_lawLine 85 = .ok (.aload_n 0, 1) := by decide +kernel
theorem dX12_lawLine_86 : decode cX12_lawLine 86 = .ok (.iconst 0, 1) := by decide +kernel
theorem dX12_lawLine_87 : decode cX12_lawLine 87 = .ok (.iconst 2, 1) := by decide +kernel
theorem dX12_lawLine_88 : decode cX12_lawLine 88 = .ok (.invokevirtual 152, 3) := by decide +kernel
theorem dX12_lawLine_91 : decode cX12_lawLine 91 = .ok (.iastore, 1) := by decide +kernel
theorem dX12_lawLine_92 : decode cX12_lawLine 92 = .ok (.goto 61, 3) := by decide +kernel
theorem dX12_lawLine_95 : decode cX12_lawLine 95 = .ok (.aload_n 0, 1) := by decide +kernel
theorem dX12_lawLine_96 : decode cX12_lawLine 96 = .ok (.getfield 17, 3) := by decide +kernel
theorem dX12_lawLine_99 : decode cX12_lawLine 99 = .ok (.iconst 5, 1) := by decide +kernel
theorem dX12_lawLine_100 : decode cX12_lawLine 100 = .ok (.aload_n 0, 1) := by decide +kernel
theorem dX12_lawLine_101 : decode cX12_lawLine 101 = .ok (.iconst 0, 1) := by decide +kernel
theorem dX12_lawLine_102 : decode cX12_lawLine 102 = .ok (.bipush 9, 2) := by decide +kernel
theorem dX12_lawLine_104 : decode cX12_lawLine 104 = .ok (.invokevirtual 152, 3) := by decide +kernel
theorem dX12_lawLine_107 : decode cX12_lawLine 107 = .ok (.iastore, 1) := by decide +kernel
theorem dX12_lawLine_108 : decode cX12_lawLine 108 = .ok (.goto 45, 3) := by decide +kernel
theorem dX12_lawLine_111 : decode cX12_lawLine 111 = .ok (.aload_n 0, 1) := by decide +kernel
theorem dX12_lawLine_112 : decode cX12_lawLine 112 = .ok (.getfield 17, 3) := by decide +kernel
theorem dX12_lawLine_115 : decode cX12_lawLine 115 = .ok (.iconst 1, 1) := by decide +kernel
theorem dX12_lawLine_116 : decode cX12_lawLine 116 = .ok (.iconst 0, 1) := by decide +kernel
theorem dX12_lawLine_117 : decode cX12_lawLine 117 = .ok (.iastore, 1) := by decide +kernel
theorem dX12_lawLine_118 : decode cX12_lawLine 118 = .ok (.goto 35, 3) := by decide +kernel
theorem dX12_lawLine_121 : decode cX12_lawLine 121 = .ok (.aload_n 0, 1) := by decide +kernel
theorem dX12_lawLine_122 : decode cX12_lawLine 122 = .ok (.iconst 4, 1) := by decide +kernel
theorem dX12_lawLine_123 : decode cX12_lawLine 123 = .ok (.bipush 7, 2) := by decide +kernel
theorem dX12_lawLine_125 : decode cX12_lawLine 125 = .ok (.invokevirtual 166, 3) := by decide +kernel
theorem dX12_lawLine_128 : decode cX12_lawLine 128 = .ok (.iconst 4, 1) := by decide +kernel
theorem dX12_lawLine_129 : decode cX12_lawLine 129 = .ok (.isub, 1) := by decide +kernel
theorem dX12_lawLine_130 : decode cX12_lawLine 130 = .ok (.istore_n 2, 1) := by decide +kernel
theorem dX12_lawLine_131 : decode cX12_lawLine 131 = .ok (.aload_n 0, 1) := by decide +kernel
theorem dX12_lawLine_132 : decode cX12_lawLine 132 = .ok (.getfield 134, 3) := by decide +kernel
theorem dX12_lawLine_135 : decode cX12_lawLine 135 = .ok (.ifCond .ne 18, 3) := by decide +kernel
theorem dX12_lawLine_138 : decode cX12_lawLine 138 = .ok (.aload_n 0, 1) := by decide +kernel
theorem dX12_lawLine_139 : decode cX12_lawLine 139 = .ok (.getfield 17, 3) := by decide +kernel
theorem dX12_lawLine_142 : decode cX12_lawLine 142 = .ok (.iconst 2, 1) := by decide +kernel
theorem dX12_lawLine_143 : decode cX12_lawLine 143 = .ok (.dup2, 1) := by decide +kernel
theorem dX12_lawLine_144 : decode cX12_lawLine 144 = .ok (.iaload, 1) := by decide +kernel
theorem dX12_lawLine_145 : decode cX12_lawLine 145 = .ok (.iconst 1, 1) := by decide +kernel
theorem dX12_lawLine_146 : decode cX12_lawLine 146 = .ok (.iload_n 2, 1) := by decide +kernel
theorem dX12_lawLine_147 : decode cX12_lawLine 147 = .ok (.ishl, 1) := by decide +kernel
theorem dX12_lawLine_148 : decode cX12_lawLine 148 = .ok (.ior, 1) := by decide +kernel
theorem dX12_lawLine_149 : decode cX12_lawLine 149 = .ok (.iastore, 1) := by decide +kernel
theorem dX12_lawLine_150 : decode cX12_lawLine 150 = .ok (.goto 3, 3) := by decide +kernel
theorem dX12_lawLine_153 : decode cX12_lawLine 153 = .ok (.aload_n 0, 1) := by decide +kernel
theorem dX12_lawLine_154 : decode cX12_lawLine 154 = .ok (.invokevirtual 176, 3) := by decide +kernel
theorem dX12_lawLine_157 : decode cX12_lawLine 157 = .ok (.return_, 1) := by decide +kernel
theorem dX12_eveningLine_0 : decode cX12_eveningLine 0 = .ok (.aload_n 0, 1) := by decide +kernel
theorem dX12_eveningLine_1 : decode cX12_eveningLine 1 = .ok (.getfield 108, 3) := by decide +kernel
theorem dX12_eveningLine_4 : decode cX12_eveningLine 4 = .ok (.istore_n 1, 1) := by decide +kernel
theorem dX12_eveningLine_5 : decode cX12_eveningLine 5 = .ok (.aload_n 0, 1) := by decide +kernel
theorem dX12_eveningLine_6 : decode cX12_eveningLine 6 = .ok (.bipush 14, 2) := by decide +kernel
theorem dX12_eveningLine_8 : decode cX12_eveningLine 8 = .ok (.bipush 18, 2) := by decide +kernel
theorem dX12_eveningLine_10 : decode cX12_eveningLine 10 = .ok (.invokevirtual 166, 3) := by decide +kernel
theorem dX12_eveningLine_13 : decode cX12_eveningLine 13 = .ok (.bipush 14, 2) := by decide +kernel
theorem dX12_eveningLine_15 : decode cX12_eveningLine 15 = .ok (.isub, 1) := by decide +kernel
theorem dX12_eveningLine_16 : decode cX12_eveningLine 16 = .ok (.istore_n 2, 1) := by decide +kernel
theorem dX12_eveningLine_17 : decode cX12_eveningLine 17 = .ok (.aload_n 0, 1) := by decide +kernel
theorem dX12_eveningLine_18 : decode cX12_eveningLine 18 = .ok (.getfield 134, 3) := by decide +kernel
theorem dX12_eveningLine_21 : decode cX12_eveningLine 21 = .ok (.ifCond .ne 20, 3) := by decide +kernel
theorem dX12_eveningLine_24 : decode cX12_eveningLine 24 = .ok (.aload_n 0, 1) := by decide +kernel
theorem dX12_eveningLine_25 : decode cX12_eveningLine 25 = .ok (.getfield 17, 3) := by decide +kernel
theorem dX12_eveningLine_28 : decode cX12_eveningLine 28 = .ok (.iconst 0, 1) := by decide +kernel
theorem dX12_eveningLine_29 : decode cX12_eveningLine 29 = .ok (.iaload, 1) := by decide +kernel
theorem dX12_eveningLine_30 : decode cX12_eveningLine 30 = .ok (.bipush 40, 2) := by decide +kernel
theorem dX12_eveningLine_32 : decode cX12_eveningLine 32 = .ok (.if_icmp .lt 9, 3) := by decide +kernel
theorem dX12_eveningLine_35 : decode cX12_eveningLine 35 = .ok (.aload_n 0, 1) := by decide +kernel
theorem dX12_eveningLine_36 : decode cX12_eveningLine 36 = .ok (.iconst 3, 1) := by decide +kernel
theorem dX12_eveningLine_37 : decode cX12_eveningLine 37 = .ok (.iload_n 1, 1) := by decide +kernel
theorem dX12_eveningLine_38 : decode cX12_eveningLine 38 = .ok (.invokevirtual 145, 3) := by decide +kernel
theorem dX12_eveningLine_41 : decode cX12_eveningLine 41 = .ok (.iload_n 2, 1) := by decide +kernel
theorem dX12_eveningLine_42 : decode cX12_eveningLine 42 = .ok (.iconst 4, 1) := by decide +kernel
theorem dX12_eveningLine_43 : decode cX12_eveningLine 43 = .ok (.if_icmp .ge 13, 3) := by decide +kernel
theorem dX12_eveningLine_46 : decode cX12_eveningLine 46 = .ok (.aload_n 0, 1) := by decide +kernel
theorem dX12_eveningLine_47 : decode cX12_eveningLine 47 = .ok (.iconst 0, 1) := by decide +kernel
theorem dX12_eveningLine_48 : decode cX12_eveningLine 48 = .ok (.bipush 7, 2) := by decide +kernel
theorem dX12_eveningLine_50 : decode cX12_eveningLine 50 = .ok (.invokevirtual 152, 3) := by decide +kernel
theorem dX12_eveningLine_53 : decode cX12_eveningLine 53 = .ok (.goto 4, 3) := by decide +kernel
theorem dX12_eveningLine_56 : decode cX12_eveningLine 56 = .ok (.iconst (-1), 1) := by decide +kernel
theorem dX12_eveningLine_57 : decode cX12_eveningLine 57 = .ok (.istore_n 3, 1) := by decide +kernel
theorem dX12_eveningLine_58 : decode cX12_eveningLine 58 = .ok (.iload_n 2, 1) := by decide +kernel
theorem dX12_eveningLine_59 : decode cX12_eveningLine 59 = .ok (.iconst 2, 1) := by decide +kernel
theorem dX12_eveningLine_60 : decode cX12_eveningLine 60 = .ok (.if_icmp .ge 13, 3) := by decide +kernel
theorem dX12_eveningLine_63 : decode cX12_eveningLine 63 = .ok (.aload_n 0, 1) := by decide +kernel
theorem dX12_eveningLine_64 : decode cX12_eveningLine 64 = .ok (.iconst 0, 1) := by decide +kernel
theorem dX12_eveningLine_65 : decode cX12_eveningLine 65 = .ok (.bipush 7, 2) := by decide +kernel
theorem dX12_eveningLine_67 : decode cX12_eveningLine 67 = .ok (.invokevirtual 152, 3) := by decide +kernel
theorem dX12_eveningLine_70 : decode cX12_eveningLine 70 = .ok (.goto 4, 3) := by decide +kernel
theorem dX12_eveningLine_73 : decode cX12_eveningLine 73 = .ok (.iconst (-1), 1) := by decide +kernel
theorem dX12_eveningLine_74 : decode cX12_eveningLine 74 = .ok (.istore 4, 2) := by decide +kernel
theorem dX12_eveningLine_76 : decode cX12_eveningLine 76 = .ok (.aload_n 0, 1) := by decide +kernel
theorem dX12_eveningLine_77 : decode cX12_eveningLine 77 = .ok (.getfield 17, 3) := by decide +kernel
theorem dX12_eveningLine_80 : decode cX12_eveningLine 80 = .ok (.iconst 0, 1) := by decide +kernel
theorem dX12_eveningLine_81 : decode cX12_eveningLine 81 = .ok (.iaload, 1) := by decide +kernel
theorem dX12_eveningLine_82 : decode cX12_eveningLine 82 = .ok (.bipush 40, 2) := by decide +kernel
theorem dX12_eveningLine_84 : decode cX12_eveningLine 84 = .ok (.if_icmp .ge 54, 3) := by decide +kernel
theorem dX12_eveningLine_87 : decode cX12_eveningLine 87 = .ok (.iconst 1, 1) := by decide +kernel
theorem dX12_eveningLine_88 : decode cX12_eveningLine 88 = .ok (.iconst 3, 1) := by decide +kernel
theorem dX12_eveningLine_89 : decode cX12_eveningLine 89 = .ok (.aload_n 0, 1) := by decide +kernel
theorem dX12_eveningLine_90 : decode cX12_eveningLine 90 = .ok (.getfield 17, 3) := by decide +kernel
theorem dX12_eveningLine_93 : decode cX12_eveningLine 93 = .ok (.iconst 0, 1) := by decide +kernel
theorem dX12_eveningLine_94 : decode cX12_eveningLine 94 = .ok (.iaload, 1) := by decide +kernel
theorem dX12_eveningLine_95 : decode cX12_eveningLine 95 = .ok (.imul, 1) := by decide +kernel
theorem dX12_eveningLine_96 : decode cX12_eveningLine 96 = .ok (.iadd, 1) := by decide +kernel
theorem dX12_eveningLine_97 : decode cX12_eveningLine 97 = .ok (.istore 5, 2) := by decide +kernel
theorem dX12_eveningLine_99 : decode cX12_eveningLine 99 = .ok (.aload_n 0, 1) := by decide +kernel
theorem dX12_eveningLine_100 : decode cX12_eveningLine 100 = .ok (.getfield 17, 3) := by decide +kernel
theorem dX12_eveningLine_103 : decode cX12_eveningLine 103 = .ok (.iload 5, 2) := by decide +kernel
theorem dX12_eveningLine_105 : decode cX12_eveningLine 105 = .ok (.iload_n 2, 1) := by decide +kernel
theorem dX12_eveningLine_106 : decode cX12_eveningLine 106 = .ok (.iastore, 1) := by decide +kernel
theorem dX12_eveningLine_107 : decode cX12_eveningLine 107 = .ok (.aload_n 0, 1) := by decide +kernel
theorem dX12_eveningLine_108 : decode cX12_eveningLine 108 = .ok (.getfield 17, 3) := by decide +kernel
theorem dX12_eveningLine_111 : decode cX12_eveningLine 111 = .ok (.iload 5, 2) := by decide +kernel
theorem dX12_eveningLine_113 : decode cX12_eveningLine 113 = .ok (.iconst 1, 1) := by decide +kernel
theorem dX12_eveningLine_114 : decode cX12_eveningLine 114 = .ok (.iadd, 1) := by decide +kernel
theorem dX12_eveningLine_115 : decode cX12_eveningLine 115 = .ok (.iload_n 3, 1) := by decide +kernel
theorem dX12_eveningLine_116 : decode cX12_eveningLine 116 = .ok (.iastore, 1) := by decide +kernel
theorem dX12_eveningLine_117 : decode cX12_eveningLine 117 = .ok (.aload_n 0, 1) := by decide +kernel
theorem dX12_eveningLine_118 : decode cX12_eveningLine 118 = .ok (.getfield 17, 3) := by decide +kernel
theorem dX12_eveningLine_121 : decode cX12_eveningLine 121 = .ok (.iload 5, 2) := by decide +kernel
theorem dX12_eveningLine_123 : decode cX12_eveningLine 123 = .ok (.iconst 2, 1) := by decide +kernel
theorem dX12_eveningLine_124 : decode cX12_eveningLine 124 = .ok (.iadd, 1) := by decide +kernel
theorem dX12_eveningLine_125 : decode cX12_eveningLine 125 = .ok (.iload 4, 2) := by decide +kernel
theorem dX12_eveningLine_127 : decode cX12_eveningLine 127 = .ok (.iastore, 1) := by decide +kernel
theorem dX12_eveningLine_128 : decode cX12_eveningLine 128 = .ok (.aload_n 0, 1) := by decide +kernel
theorem dX12_eveningLine_129 : decode cX12_eveningLine 129 = .ok (.getfield 17, 3) := by decide +kernel
theorem dX12_eveningLine_132 : decode cX12_eveningLine 132 = .ok (.iconst 0, 1) := by decide +kernel
theorem dX12_eveningLine_133 : decode cX12_eveningLine 133 = .ok (.dup2, 1) := by decide +kernel
theorem dX12_eveningLine_134 : decode cX12_eveningLine 134 = .ok (.iaload, 1) := by decide +kernel
theorem dX12_eveningLine_135 : decode cX12_eveningLine 135 = .ok (.iconst 1, 1) := by decide +kernel
theorem dX12_eveningLine_136 : decode cX12_eveningLine 136 = .ok (.iadd, 1) := by decide +kernel
theorem dX12_eveningLine_137 : decode cX12_eveningLine 137 = .ok (.iastore, 1) := by decide +kernel
theorem dX12_eveningLine_138 : decode cX12_eveningLine 138 = .ok (.aload_n 0, 1) := by decide +kernel
theorem dX12_eveningLine_139 : decode cX12_eveningLine 139 = .ok (.invokevirtual 176, 3) := by decide +kernel
theorem dX12_eveningLine_142 : decode cX12_eveningLine 142 = .ok (.return_, 1) := by decide +kernel
theorem dX12_sightLine_0 : decode cX12_sightLine 0 = .ok (.aload_n 0, 1) := by decide +kernel
theorem dX12_sightLine_1 : decode cX12_sightLine 1 = .ok (.bipush 19, 2) := by decide +kernel
theorem dX12_sightLine_3 : decode cX12_sightLine 3 = .ok (.bipush 20, 2) := by decide +kernel
theorem dX12_sightLine_5 : decode cX12_sightLine 5 = .ok (.invokevirtual 166, 3) := by decide +kernel
theorem dX12_sightLine_8 : decode cX12_sightLine 8 = .ok (.istore_n 1, 1) := by decide +kernel
theorem dX12_sightLine_9 : decode cX12_sightLine 9 = .ok (.iload_n 1, 1) := by decide +kernel
theorem dX12_sightLine_10 : decode cX12_sightLine 10 = .ok (.bipush 20, 2) := by decide +kernel
theorem dX12_sightLine_12 : decode cX12_sightLine 12 = .ok (.if_icmp .ne 19, 3) := by decide +kernel
theorem dX12_sightLine_15 : decode cX12_sightLine 15 = .ok (.aload_n 0, 1) := by decide +kernel
theorem dX12_sightLine_16 : decode cX12_sightLine 16 = .ok (.getfield 17, 3) := by decide +kernel
theorem dX12_sightLine_19 : decode cX12_sightLine 19 = .ok (.iconst 0, 1) := by decide +kernel
theorem dX12_sightLine_20 : decode cX12_sightLine 20 = .ok (.aload_n 0, 1) := by decide +kernel
theorem dX12_sightLine_21 : decode cX12_sightLine 21 = .ok (.iconst 0, 1) := by decide +kernel
theorem dX12_sightLine_22 : decode cX12_sightLine 22 = .ok (.bipush 9, 2) := by decide +kernel
theorem dX12_sightLine_24 : decode cX12_sightLine 24 = .ok (.invokevirtual 152, 3) := by decide +kernel
theorem dX12_sightLine_27 : decode cX12_sightLine 27 = .ok (.iastore, 1) := by decide +kernel
theorem dX12_sightLine_28 : decode cX12_sightLine 28 = .ok (.goto 28, 3) := by decide +kernel
theorem dX12_sightLine_31 : decode cX12_sightLine 31 = .ok (.aload_n 0, 1) := by decide +kernel
theorem dX12_sightLine_32 : decode cX12_sightLine 32 = .ok (.iconst 0, 1) := by decide +kernel
theorem dX12_sightLine_33 : decode cX12_sightLine 33 = .ok (.bipush 7, 2) := by decide +kernel
theorem dX12_sightLine_35 : decode cX12_sightLine 35 = .ok (.invokevirtual 152, 3) := by decide +kernel
theorem dX12_sightLine_38 : decode cX12_sightLine 38 = .ok (.istore_n 2, 1) := by decide +kernel
theorem dX12_sightLine_39 : decode cX12_sightLine 39 = .ok (.aload_n 0, 1) := by decide +kernel
theorem dX12_sightLine_40 : decode cX12_sightLine 40 = .ok (.getfield 17, 3) := by decide +kernel
theorem dX12_sightLine_43 : decode cX12_sightLine 43 = .ok (.iconst 1, 1) := by decide +kernel
theorem dX12_sightLine_44 : decode cX12_sightLine 44 = .ok (.iload_n 2, 1) := by decide +kernel
theorem dX12_sightLine_45 : decode cX12_sightLine 45 = .ok (.iadd, 1) := by decide +kernel
theorem dX12_sightLine_46 : decode cX12_sightLine 46 = .ok (.iconst 1, 1) := by decide +kernel
theorem dX12_sightLine_47 : decode cX12_sightLine 47 = .ok (.aload_n 0, 1) := by decide +kernel
theorem dX12_sightLine_48 : decode cX12_sightLine 48 = .ok (.iconst 0, 1) := by decide +kernel
theorem dX12_sightLine_49 : decode cX12_sightLine 49 = .ok (.bipush 9, 2) := by decide +kernel
theorem dX12_sightLine_51 : decode cX12_sightLine 51 = .ok (.invokevirtual 152, 3) := by decide +kernel
theorem dX12_sightLine_54 : decode cX12_sightLine 54 = .ok (.iadd, 1) := by decide +kernel
theorem dX12_sightLine_55 : decode cX12_sightLine 55 = .ok (.iastore, 1) := by decide +kernel
theorem dX12_sightLine_56 : decode cX12_sightLine 56 = .ok (.aload_n 0, 1) := by decide +kernel
theorem dX12_sightLine_57 : decode cX12_sightLine 57 = .ok (.invokevirtual 176, 3) := by decide +kernel
theorem dX12_sightLine_60 : decode cX12_sightLine 60 = .ok (.return_, 1) := by decide +kernel
theorem dX12_placeOf_0 : decode cX12_placeOf 0 = .ok (.iload_n 0, 1) := by decide +kernel
theorem dX12_placeOf_1 : decode cX12_placeOf 1 = .ok (.ifCond .ne 14, 3) := by decide +kernel
theorem dX12_placeOf_4 : decode cX12_placeOf 4 = .ok (.sipush 610, 3) := by decide +kernel
theorem dX12_placeOf_7 : decode cX12_placeOf 7 = .ok (.bipush 124, 2) := by decide +kernel
theorem dX12_placeOf_9 : decode cX12_placeOf 9 = .ok (.iload_n 1, 1) := by decide +kernel
theorem dX12_placeOf_10 : decode cX12_placeOf 10 = .ok (.imul, 1) := by decide +kernel
theorem dX12_placeOf_11 : decode cX12_placeOf 11 = .ok (.iadd, 1) := by decide +kernel
theorem dX12_placeOf_12 : decode cX12_placeOf 12 = .ok (.goto 43, 3) := by decide +kernel
theorem dX12_placeOf_15 : decode cX12_placeOf 15 = .ok (.iload_n 0, 1) := by decide +kernel
theorem dX12_placeOf_16 : decode cX12_placeOf 16 = .ok (.iconst 1, 1) := by decide +kernel
theorem dX12_placeOf_17 : decode cX12_placeOf 17 = .ok (.if_icmp .ne 14, 3) := by decide +kernel
theorem dX12_placeOf_20 : decode cX12_placeOf 20 = .ok (.sipush 858, 3) := by decide +kernel
theorem dX12_placeOf_23 : decode cX12_placeOf 23 = .ok (.bipush 6, 2) := by decide +kernel
theorem dX12_placeOf_25 : decode cX12_placeOf 25 = .ok (.iload_n 1, 1) := by decide +kernel
theorem dX12_placeOf_26 : decode cX12_placeOf 26 = .ok (.imul, 1) := by decide +kernel
theorem dX12_placeOf_27 : decode cX12_placeOf 27 = .ok (.iadd, 1) := by decide +kernel
theorem dX12_placeOf_28 : decode cX12_placeOf 28 = .ok (.goto 27, 3) := by decide +kernel
theorem dX12_placeOf_31 : decode cX12_placeOf 31 = .ok (.iload_n 0, 1) := by decide +kernel
theorem dX12_placeOf_32 : decode cX12_placeOf 32 = .ok (.iconst 2, 1) := by decide +kernel
theorem dX12_placeOf_33 : decode cX12_placeOf 33 = .ok (.if_icmp .ne 14, 3) := by decide +kernel
theorem dX12_placeOf_36 : decode cX12_placeOf 36 = .ok (.sipush 870, 3) := by decide +kernel
theorem dX12_placeOf_39 : decode cX12_placeOf 39 = .ok (.bipush 121, 2) := by decide +kernel
theorem dX12_placeOf_41 : decode cX12_placeOf 41 = .ok (.iload_n 1, 1) := by decide +kernel
theorem dX12_placeOf_42 : decode cX12_placeOf 42 = .ok (.imul, 1) := by decide +kernel
theorem dX12_placeOf_43 : decode cX12_placeOf 43 = .ok (.iadd, 1) := by decide +kernel
theorem dX12_placeOf_44 : decode cX12_placeOf 44 = .ok (.goto 11, 3) := by decide +kernel
theorem dX12_placeOf_47 : decode cX12_placeOf 47 = .ok (.sipush 1112, 3) := by decide +kernel
theorem dX12_placeOf_50 : decode cX12_placeOf 50 = .ok (.bipush 9, 2) := by decide +kernel
theorem dX12_placeOf_52 : decode cX12_placeOf 52 = .ok (.iload_n 1, 1) := by decide +kernel
theorem dX12_placeOf_53 : decode cX12_placeOf 53 = .ok (.imul, 1) := by decide +kernel
theorem dX12_placeOf_54 : decode cX12_placeOf 54 = .ok (.iadd, 1) := by decide +kernel
theorem dX12_placeOf_55 : decode cX12_placeOf 55 = .ok (.ireturn, 1) := by decide +kernel
theorem dX12_sizeOf_0 : decode cX12_sizeOf 0 = .ok (.iload_n 0, 1) := by decide +kernel
theorem dX12_sizeOf_1 : decode cX12_sizeOf 1 = .ok (.ifCond .ne 8, 3) := by decide +kernel
theorem dX12_sizeOf_4 : decode cX12_sizeOf 4 = .ok (.bipush 124, 2) := by decide +kernel
theorem dX12_sizeOf_6 : decode cX12_sizeOf 6 = .ok (.goto 25, 3) := by decide +kernel
theorem dX12_sizeOf_9 : decode cX12_sizeOf 9 = .ok (.iload_n 0, 1) := by decide +kernel
theorem dX12_sizeOf_10 : decode cX12_sizeOf 10 = .ok (.iconst 1, 1) := by decide +kernel
theorem dX12_sizeOf_11 : decode cX12_sizeOf 11 = .ok (.if_icmp .ne 8, 3) := by decide +kernel
theorem dX12_sizeOf_14 : decode cX12_sizeOf 14 = .ok (.bipush 6, 2) := by decide +kernel
theorem dX12_sizeOf_16 : decode cX12_sizeOf 16 = .ok (.goto 15, 3) := by decide +kernel
theorem dX12_sizeOf_19 : decode cX12_sizeOf 19 = .ok (.iload_n 0, 1) := by decide +kernel
theorem dX12_sizeOf_20 : decode cX12_sizeOf 20 = .ok (.iconst 2, 1) := by decide +kernel
theorem dX12_sizeOf_21 : decode cX12_sizeOf 21 = .ok (.if_icmp .ne 8, 3) := by decide +kernel
theorem dX12_sizeOf_24 : decode cX12_sizeOf 24 = .ok (.bipush 121, 2) := by decide +kernel
theorem dX12_sizeOf_26 : decode cX12_sizeOf 26 = .ok (.goto 5, 3) := by decide +kernel
theorem dX12_sizeOf_29 : decode cX12_sizeOf 29 = .ok (.bipush 9, 2) := by decide +kernel
theorem dX12_sizeOf_31 : decode cX12_sizeOf 31 = .ok (.ireturn, 1) := by decide +kernel
theorem dX12_isOf_0 : decode cX12_isOf 0 = .ok (.iload_n 2, 1) := by decide +kernel
theorem dX12_isOf_1 : decode cX12_isOf 1 = .ok (.iconst 0, 1) := by decide +kernel
theorem dX12_isOf_2 : decode cX12_isOf 2 = .ok (.aload_n 0, 1) := by decide +kernel
theorem dX12_isOf_3 : decode cX12_isOf 3 = .ok (.getfield 7, 3) := by decide +kernel
theorem dX12_isOf_6 : decode cX12_isOf 6 = .ok (.iload_n 1, 1) := by decide +kernel
theorem dX12_isOf_7 : decode cX12_isOf 7 = .ok (.iaload, 1) := by decide +kernel
theorem dX12_isOf_8 : decode cX12_isOf 8 = .ok (.iconst 1, 1) := by decide +kernel
theorem dX12_isOf_9 : decode cX12_isOf 9 = .ok (.isub, 1) := by decide +kernel
theorem dX12_isOf_10 : decode cX12_isOf 10 = .ok (.invokestatic 141, 3) := by decide +kernel
theorem dX12_isOf_13 : decode cX12_isOf 13 = .ok (.ireturn, 1) := by decide +kernel
theorem dX12_clears_0 : decode cX12_clears 0 = .ok (.iconst 0, 1) := by decide +kernel
theorem dX12_clears_1 : decode cX12_clears 1 = .ok (.istore_n 2, 1) := by decide +kernel
theorem dX12_clears_2 : decode cX12_clears 2 = .ok (.iload_n 2, 1) := by decide +kernel
theorem dX12_clears_3 : decode cX12_clears 3 = .ok (.bipush 124, 2) := by decide +kernel
theorem dX12_clears_5 : decode cX12_clears 5 = .ok (.if_icmp .ge 16, 3) := by decide +kernel
theorem dX12_clears_8 : decode cX12_clears 8 = .ok (.aload_n 0, 1) := by decide +kernel
theorem dX12_clears_9 : decode cX12_clears 9 = .ok (.getfield 17, 3) := by decide +kernel
theorem dX12_clears_12 : decode cX12_clears 12 = .ok (.iload_n 2, 1) := by decide +kernel
theorem dX12_clears_13 : decode cX12_clears 13 = .ok (.iconst 0, 1) := by decide +kernel
theorem dX12_clears_14 : decode cX12_clears 14 = .ok (.iastore, 1) := by decide +kernel
theorem dX12_clears_15 : decode cX12_clears 15 = .ok (.iinc 2 1, 3) := by decide +kernel
theorem dX12_clears_18 : decode cX12_clears 18 = .ok (.goto (-16), 3) := by decide +kernel
theorem dX12_clears_21 : decode cX12_clears 21 = .ok (.iload_n 1, 1) := by decide +kernel
theorem dX12_clears_22 : decode cX12_clears 22 = .ok (.ifCond .ne 19, 3) := by decide +kernel
theorem dX12_clears_25 : decode cX12_clears 25 = .ok (.aload_n 0, 1) := by decide +kernel
theorem dX12_clears_26 : decode cX12_clears 26 = .ok (.getfield 17, 3) := by decide +kernel
theorem dX12_clears_29 : decode cX12_clears 29 = .ok (.iconst 0, 1) := by decide +kernel
theorem dX12_clears_30 : decode cX12_clears 30 = .ok (.bipush 6, 2) := by decide +kernel
theorem dX12_clears_32 : decode cX12_clears 32 = .ok (.iastore, 1) := by decide +kernel
theorem dX12_clears_33 : decode cX12_clears 33 = .ok (.aload_n 0, 1) := by decide +kernel
theorem dX12_clears_34 : decode cX12_clears 34 = .ok (.getfield 17, 3) := by decide +kernel
theorem dX12_clears_37 : decode cX12_clears 37 = .ok (.iconst 1, 1) := by decide +kernel
theorem dX12_clears_38 : decode cX12_clears 38 = .ok (.bipush 6, 2) := by decide +kernel
theorem dX12_clears_40 : decode cX12_clears 40 = .ok (.iastore, 1) := by decide +kernel
theorem dX12_clears_41 : decode cX12_clears 41 = .ok (.iload_n 1, 1) := by decide +kernel
theorem dX12_clears_42 : decode cX12_clears 42 = .ok (.iconst 1, 1) := by decide +kernel
theorem dX12_clears_43 : decode cX12_clears 43 = .ok (.if_icmp .ne 24, 3) := by decide +kernel
theorem dX12_clears_46 : decode cX12_clears 46 = .ok (.aload_n 0, 1) := by decide +kernel
theorem dX12_clears_47 : decode cX12_clears 47 = .ok (.getfield 17, 3) := by decide +kernel
theorem dX12_clears_50 : decode cX12_clears 50 = .ok (.iconst 1, 1) := by decide +kernel
theorem dX12_clears_51 : decode cX12_clears 51 = .ok (.iconst 1, 1) := by decide +kernel
theorem dX12_clears_52 : decode cX12_clears 52 = .ok (.iastore, 1) := by decide +kernel
theorem dX12_clears_53 : decode cX12_clears 53 = .ok (.aload_n 0, 1) := by decide +kernel
theorem dX12_clears_54 : decode cX12_clears 54 = .ok (.getfield 17, 3) := by decide +kernel
theorem dX12_clears_57 : decode cX12_clears 57 = .ok (.iconst 3, 1) := by decide +kernel
theorem dX12_clears_58 : decode cX12_clears 58 = .ok (.iconst 5, 1) := by decide +kernel
theorem dX12_clears_59 : decode cX12_clears 59 = .ok (.iastore, 1) := by decide +kernel
theorem dX12_clears_60 : decode cX12_clears 60 = .ok (.aload_n 0, 1) := by decide +kernel
theorem dX12_clears_61 : decode cX12_clears 61 = .ok (.getfield 17, 3) := by decide +kernel
theorem dX12_clears_64 : decode cX12_clears 64 = .ok (.iconst 5, 1) := by decide +kernel
theorem dX12_clears_65 : decode cX12_clears 65 = .ok (.iconst 1, 1) := by decide +kernel
theorem dX12_clears_66 : decode cX12_clears 66 = .ok (.iastore, 1) := by decide +kernel
theorem dX12_clears_67 : decode cX12_clears 67 = .ok (.return_, 1) := by decide +kernel
theorem dX12_wrongAtEnd_0 : decode cX12_wrongAtEnd 0 = .ok (.aload_n 0, 1) := by decide +kernel
theorem dX12_wrongAtEnd_1 : decode cX12_wrongAtEnd 1 = .ok (.getfield 156, 3) := by decide +kernel
theorem dX12_wrongAtEnd_4 : decode cX12_wrongAtEnd 4 = .ok (.aload_n 0, 1) := by decide +kernel
theorem dX12_wrongAtEnd_5 : decode cX12_wrongAtEnd 5 = .ok (.getfield 17, 3) := by decide +kernel
theorem dX12_wrongAtEnd_8 : decode cX12_wrongAtEnd 8 = .ok (.iconst 0, 1) := by decide +kernel
theorem dX12_wrongAtEnd_9 : decode cX12_wrongAtEnd 9 = .ok (.iaload, 1) := by decide +kernel
theorem dX12_wrongAtEnd_10 : decode cX12_wrongAtEnd 10 = .ok (.if_icmp .ge 16, 3) := by decide +kernel
theorem dX12_wrongAtEnd_13 : decode cX12_wrongAtEnd 13 = .ok (.aload_n 0, 1) := by decide +kernel
theorem dX12_wrongAtEnd_14 : decode cX12_wrongAtEnd 14 = .ok (.getfield 159, 3) := by decide +kernel
theorem dX12_wrongAtEnd_17 : decode cX12_wrongAtEnd 17 = .ok (.aload_n 0, 1) := by decide +kernel
theorem dX12_wrongAtEnd_18 : decode cX12_wrongAtEnd 18 = .ok (.getfield 17, 3) := by decide +kernel
theorem dX12_wrongAtEnd_21 : decode cX12_wrongAtEnd 21 = .ok (.iconst 1, 1) := by decide +kernel
theorem dX12_wrongAtEnd_22 : decode cX12_wrongAtEnd 22 = .ok (.iaload, 1) := by decide +kernel
theorem dX12_wrongAtEnd_23 : decode cX12_wrongAtEnd 23 = .ok (.if_icmp .lt 5, 3) := by decide +kernel
theorem dX12_wrongAtEnd_26 : decode cX12_wrongAtEnd 26 = .ok (.iconst 4, 1) := by decide +kernel
theorem dX12_wrongAtEnd_27 : decode cX12_wrongAtEnd 27 = .ok (.ireturn, 1) := by decide +kernel
theorem dX12_wrongAtEnd_28 : decode cX12_wrongAtEnd 28 = .ok (.iconst 0, 1) := by decide +kernel
theorem dX12_wrongAtEnd_29 : decode cX12_wrongAtEnd 29 = .ok (.istore_n 1, 1) := by decide +kernel
theorem dX12_wrongAtEnd_30 : decode cX12_wrongAtEnd 30 = .ok (.iload_n 1, 1) := by decide +kernel
theorem dX12_wrongAtEnd_31 : decode cX12_wrongAtEnd 31 = .ok (.bipush 64, 2) := by decide +kernel
theorem dX12_wrongAtEnd_33 : decode cX12_wrongAtEnd 33 = .ok (.if_icmp .ge 109, 3) := by decide +kernel
theorem dX12_wrongAtEnd_36 : decode cX12_wrongAtEnd 36 = .ok (.aload_n 0, 1) := by decide +kernel
theorem dX12_wrongAtEnd_37 : decode cX12_wrongAtEnd 37 = .ok (.getfield 17, 3) := by decide +kernel
theorem dX12_wrongAtEnd_40 : decode cX12_wrongAtEnd 40 = .ok (.iconst 4, 1) := by decide +kernel
theorem dX12_wrongAtEnd_41 : decode cX12_wrongAtEnd 41 = .ok (.iload_n 1, 1) := by decide +kernel
theorem dX12_wrongAtEnd_42 : decode cX12_wrongAtEnd 42 = .ok (.iadd, 1) := by decide +kernel
theorem dX12_wrongAtEnd_43 : decode cX12_wrongAtEnd 43 = .ok (.iaload, 1) := by decide +kernel
theorem dX12_wrongAtEnd_44 : decode cX12_wrongAtEnd 44 = .ok (.istore_n 2, 1) := by decide +kernel
theorem dX12_wrongAtEnd_45 : decode cX12_wrongAtEnd 45 = .ok (.iconst 0, 1) := by decide +kernel
theorem dX12_wrongAtEnd_46 : decode cX12_wrongAtEnd 46 = .ok (.istore_n 3, 1) := by decide +kernel
theorem dX12_wrongAtEnd_47 : decode cX12_wrongAtEnd 47 = .ok (.iload_n 3, 1) := by decide +kernel
theorem dX12_wrongAtEnd_48 : decode cX12_wrongAtEnd 48 = .ok (.aload_n 0, 1) := by decide +kernel
theorem dX12_wrongAtEnd_49 : decode cX12_wrongAtEnd 49 = .ok (.getfield 17, 3) := by decide +kernel
theorem dX12_wrongAtEnd_52 : decode cX12_wrongAtEnd 52 = .ok (.iconst 2, 1) := by decide +kernel
theorem dX12_wrongAtEnd_53 : decode cX12_wrongAtEnd 53 = .ok (.iaload, 1) := by decide +kernel
theorem dX12_wrongAtEnd_54 : decode cX12_wrongAtEnd 54 = .ok (.if_icmp .ge 32, 3) := by decide +kernel
theorem dX12_wrongAtEnd_57 : decode cX12_wrongAtEnd 57 = .ok (.iload_n 2, 1) := by decide +kernel
theorem dX12_wrongAtEnd_58 : decode cX12_wrongAtEnd 58 = .ok (.aload_n 0, 1) := by decide +kernel
theorem dX12_wrongAtEnd_59 : decode cX12_wrongAtEnd 59 = .ok (.getfield 17, 3) := by decide +kernel
theorem dX12_wrongAtEnd_62 : decode cX12_wrongAtEnd 62 = .ok (.bipush 68, 2) := by decide +kernel
theorem dX12_wrongAtEnd_64 : decode cX12_wrongAtEnd 64 = .ok (.iconst 2, 1) := by decide +kernel
theorem dX12_wrongAtEnd_65 : decode cX12_wrongAtEnd 65 = .ok (.iload_n 3, 1) := by decide +kernel
theorem dX12_wrongAtEnd_66 : decode cX12_wrongAtEnd 66 = .ok (.imul, 1) := by decide +kernel
theorem dX12_wrongAtEnd_67 : decode cX12_wrongAtEnd 67 = .ok (.iadd, 1) := by decide +kernel
theorem dX12_wrongAtEnd_68 : decode cX12_wrongAtEnd 68 = .ok (.iaload, 1) := by decide +kernel
theorem dX12_wrongAtEnd_69 : decode cX12_wrongAtEnd 69 = .ok (.iload_n 1, 1) := by decide +kernel
theorem dX12_wrongAtEnd_70 : decode cX12_wrongAtEnd 70 = .ok (.if_icmp .ne 7, 3) := by decide +kernel
theorem dX12_wrongAtEnd_73 : decode cX12_wrongAtEnd 73 = .ok (.iconst 1, 1) := by decide +kernel
theorem dX12_wrongAtEnd_74 : decode cX12_wrongAtEnd 74 = .ok (.goto 4, 3) := by decide +kernel
theorem dX12_wrongAtEnd_77 : decode cX12_wrongAtEnd 77 = .ok (.iconst 0, 1) := by decide +kernel
theorem dX12_wrongAtEnd_78 : decode cX12_wrongAtEnd 78 = .ok (.iadd, 1) := by decide +kernel
theorem dX12_wrongAtEnd_79 : decode cX12_wrongAtEnd 79 = .ok (.istore_n 2, 1) := by decide +kernel
theorem dX12_wrongAtEnd_80 : decode cX12_wrongAtEnd 80 = .ok (.iinc 3 1, 3) := by decide +kernel
theorem dX12_wrongAtEnd_83 : decode cX12_wrongAtEnd 83 = .ok (.goto (-36), 3) := by decide +kernel
theorem dX12_wrongAtEnd_86 : decode cX12_wrongAtEnd 86 = .ok (.iconst 0, 1) := by decide +kernel
theorem dX12_wrongAtEnd_87 : decode cX12_wrongAtEnd 87 = .ok (.istore_n 3, 1) := by decide +kernel
theorem dX12_wrongAtEnd_88 : decode cX12_wrongAtEnd 88 = .ok (.iload_n 3, 1) := by decide +kernel
theorem dX12_wrongAtEnd_89 : decode cX12_wrongAtEnd 89 = .ok (.aload_n 0, 1) := by decide +kernel
theorem dX12_wrongAtEnd_90 : decode cX12_wrongAtEnd 90 = .ok (.getfield 17, 3) := by decide +kernel
theorem dX12_wrongAtEnd_93 : decode cX12_wrongAtEnd 93 = .ok (.iconst 3, 1) := by decide +kernel
theorem dX12_wrongAtEnd_94 : decode cX12_wrongAtEnd 94 = .ok (.iaload, 1) := by decide +kernel
theorem dX12_wrongAtEnd_95 : decode cX12_wrongAtEnd 95 = .ok (.if_icmp .ge 34, 3) := by decide +kernel
theorem dX12_wrongAtEnd_98 : decode cX12_wrongAtEnd 98 = .ok (.iload_n 2, 1) := by decide +kernel
theorem dX12_wrongAtEnd_99 : decode cX12_wrongAtEnd 99 = .ok (.aload_n 0, 1) := by decide +kernel
theorem dX12_wrongAtEnd_100 : decode cX12_wrongAtEnd 100 = .ok (.getfield 17, 3) := by decide +kernel
theorem dX12_wrongAtEnd_103 : decode cX12_wrongAtEnd 103 = .ok (.bipush 84, 2) := by decide +kernel
theorem dX12_wrongAtEnd_105 : decode cX12_wrongAtEnd 105 = .ok (.iconst 5, 1) := by decide +kernel
theorem dX12_wrongAtEnd_106 : decode cX12_wrongAtEnd 106 = .ok (.iload_n 3, 1) := by decide +kernel
theorem dX12_wrongAtEnd_107 : decode cX12_wrongAtEnd 107 = .ok (.imul, 1) := by decide +kernel
theorem dX12_wrongAtEnd_108 : decode cX12_wrongAtEnd 108 = .ok (.iadd, 1) := by decide +kernel
theorem dX12_wrongAtEnd_109 : decode cX12_wrongAtEnd 109 = .ok (.iconst 1, 1) := by decide +kernel
theorem dX12_wrongAtEnd_110 : decode cX12_wrongAtEnd 110 = .ok (.iadd, 1) := by decide +kernel
theorem dX12_wrongAtEnd_111 : decode cX12_wrongAtEnd 111 = .ok (.iaload, 1) := by decide +kernel
theorem dX12_wrongAtEnd_112 : decode cX12_wrongAtEnd 112 = .ok (.iload_n 1, 1) := by decide +kernel
theorem dX12_wrongAtEnd_113 : decode cX12_wrongAtEnd 113 = .ok (.if_icmp .ne 7, 3) := by decide +kernel
theorem dX12_wrongAtEnd_116 : decode cX12_wrongAtEnd 116 = .ok (.iconst 1, 1) := by decide +kernel
theorem dX12_wrongAtEnd_117 : decode cX12_wrongAtEnd 117 = .ok (.goto 4, 3) := by decide +kernel
theorem dX12_wrongAtEnd_120 : decode cX12_wrongAtEnd 120 = .ok (.iconst 0, 1) := by decide +kernel
theorem dX12_wrongAtEnd_121 : decode cX12_wrongAtEnd 121 = .ok (.iadd, 1) := by decide +kernel
theorem dX12_wrongAtEnd_122 : decode cX12_wrongAtEnd 122 = .ok (.istore_n 2, 1) := by decide +kernel
theorem dX12_wrongAtEnd_123 : decode cX12_wrongAtEnd 123 = .ok (.iinc 3 1, 3) := by decide +kernel
theorem dX12_wrongAtEnd_126 : decode cX12_wrongAtEnd 126 = .ok (.goto (-38), 3) := by decide +kernel
theorem dX12_wrongAtEnd_129 : decode cX12_wrongAtEnd 129 = .ok (.iload_n 2, 1) := by decide +kernel
theorem dX12_wrongAtEnd_130 : decode cX12_wrongAtEnd 130 = .ok (.iconst 1, 1) := by decide +kernel
theorem dX12_wrongAtEnd_131 : decode cX12_wrongAtEnd 131 = .ok (.if_icmp .le 5, 3) := by decide +kernel
theorem dX12_wrongAtEnd_134 : decode cX12_wrongAtEnd 134 = .ok (.iconst 5, 1) := by decide +kernel
theorem dX12_wrongAtEnd_135 : decode cX12_wrongAtEnd 135 = .ok (.ireturn, 1) := by decide +kernel
theorem dX12_wrongAtEnd_136 : decode cX12_wrongAtEnd 136 = .ok (.iinc 1 1, 3) := by decide +kernel
theorem dX12_wrongAtEnd_139 : decode cX12_wrongAtEnd 139 = .ok (.goto (-109), 3) := by decide +kernel
theorem dX12_wrongAtEnd_142 : decode cX12_wrongAtEnd 142 = .ok (.iconst 0, 1) := by decide +kernel
theorem dX12_wrongAtEnd_143 : decode cX12_wrongAtEnd 143 = .ok (.ireturn, 1) := by decide +kernel
theorem dX12_text_0 : decode cX12_text 0 = .ok (.aload_n 0, 1) := by decide +kernel
theorem dX12_text_1 : decode cX12_text 1 = .ok (.aload_n 0, 1) := by decide +kernel
theorem dX12_text_2 : decode cX12_text 2 = .ok (.getfield 7, 3) := by decide +kernel
theorem dX12_text_5 : decode cX12_text 5 = .ok (.iconst 4, 1) := by decide +kernel
theorem dX12_text_6 : decode cX12_text 6 = .ok (.iaload, 1) := by decide +kernel
theorem dX12_text_7 : decode cX12_text 7 = .ok (.putfield 83, 3) := by decide +kernel
theorem dX12_text_10 : decode cX12_text 10 = .ok (.aload_n 0, 1) := by decide +kernel
theorem dX12_text_11 : decode cX12_text 11 = .ok (.getfield 7, 3) := by decide +kernel
theorem dX12_text_14 : decode cX12_text 14 = .ok (.iconst 4, 1) := by decide +kernel
theorem dX12_text_15 : decode cX12_text 15 = .ok (.iconst 0, 1) := by decide +kernel
theorem dX12_text_16 : decode cX12_text 16 = .ok (.iastore, 1) := by decide +kernel
theorem dX12_text_17 : decode cX12_text 17 = .ok (.aload_n 0, 1) := by decide +kernel
theorem dX12_text_18 : decode cX12_text 18 = .ok (.getfield 7, 3) := by decide +kernel
theorem dX12_text_21 : decode cX12_text 21 = .ok (.iconst 5, 1) := by decide +kernel
theorem dX12_text_22 : decode cX12_text 22 = .ok (.iconst 0, 1) := by decide +kernel
theorem dX12_text_23 : decode cX12_text 23 = .ok (.iastore, 1) := by decide +kernel
theorem dX12_text_24 : decode cX12_text 24 = .ok (.aload_n 0, 1) := by decide +kernel
theorem dX12_text_25 : decode cX12_text 25 = .ok (.getfield 7, 3) := by decide +kernel
theorem dX12_text_28 : decode cX12_text 28 = .ok (.bipush 6, 2) := by decide +kernel
theorem dX12_text_30 : decode cX12_text 30 = .ok (.iconst (-1), 1) := by decide +kernel
theorem dX12_text_31 : decode cX12_text 31 = .ok (.iastore, 1) := by decide +kernel
theorem dX12_text_32 : decode cX12_text 32 = .ok (.iload_n 1, 1) := by decide +kernel
theorem dX12_text_33 : decode cX12_text 33 = .ok (.iconst 0, 1) := by decide +kernel
theorem dX12_text_34 : decode cX12_text 34 = .ok (.iconst 3, 1) := by decide +kernel
theorem dX12_text_35 : decode cX12_text 35 = .ok (.invokestatic 141, 3) := by decide +kernel
theorem dX12_text_38 : decode cX12_text 38 = .ok (.ifCond .eq 30, 3) := by decide +kernel
theorem dX12_text_41 : decode cX12_text 41 = .ok (.iload_n 2, 1) := by decide +kernel
theorem dX12_text_42 : decode cX12_text 42 = .ok (.iconst (-1), 1) := by decide +kernel
theorem dX12_text_43 : decode cX12_text 43 = .ok (.if_icmp .ne 16, 3) := by decide +kernel
theorem dX12_text_46 : decode cX12_text 46 = .ok (.aload_n 0, 1) := by decide +kernel
theorem dX12_text_47 : decode cX12_text 47 = .ok (.getfield 7, 3) := by decide +kernel
theorem dX12_text_50 : decode cX12_text 50 = .ok (.iload_n 1, 1) := by decide +kernel
theorem dX12_text_51 : decode cX12_text 51 = .ok (.iaload, 1) := by decide +kernel
theorem dX12_text_52 : decode cX12_text 52 = .ok (.iconst 2, 1) := by decide +kernel
theorem dX12_text_53 : decode cX12_text 53 = .ok (.if_icmp .lt 18, 3) := by decide +kernel
theorem dX12_text_56 : decode cX12_text 56 = .ok (.goto 12, 3) := by decide +kernel
theorem dX12_text_59 : decode cX12_text 59 = .ok (.aload_n 0, 1) := by decide +kernel
theorem dX12_text_60 : decode cX12_text 60 = .ok (.iload_n 1, 1) := by decide +kernel
theorem dX12_text_61 : decode cX12_text 61 = .ok (.iload_n 2, 1) := by decide +kernel
theorem dX12_text_62 : decode cX12_text 62 = .ok (.invokevirtual 179, 3) := by decide +kernel
theorem dX12_text_65 : decode cX12_text 65 = .ok (.ifCond .ne 6, 3) := by decide +kernel
theorem dX12_text_68 : decode cX12_text 68 = .ok (.bipush (-2), 2) := by decide +kernel
theorem dX12_text_70 : decode cX12_text 70 = .ok (.ireturn, 1) := by decide +kernel
theorem dX12_text_71 : decode cX12_text 71 = .ok (.aload_n 0, 1) := by decide +kernel
theorem dX12_text_72 : decode cX12_text 72 = .ok (.iconst 0, 1) := by decide +kernel
theorem dX12_text_73 : decode cX12_text 73 = .ok (.putfield 101, 3) := by decide +kernel
theorem dX12_text_76 : decode cX12_text 76 = .ok (.aload_n 0, 1) := by decide +kernel
theorem dX12_text_77 : decode cX12_text 77 = .ok (.iconst 0, 1) := by decide +kernel
theorem dX12_text_78 : decode cX12_text 78 = .ok (.putfield 134, 3) := by decide +kernel
theorem dX12_text_81 : decode cX12_text 81 = .ok (.aload_n 0, 1) := by decide +kernel
theorem dX12_text_82 : decode cX12_text 82 = .ok (.iconst (-1), 1) := by decide +kernel
theorem dX12_text_83 : decode cX12_text 83 = .ok (.putfield 156, 3) := by decide +kernel
theorem dX12_text_86 : decode cX12_text 86 = .ok (.aload_n 0, 1) := by decide +kernel
theorem dX12_text_87 : decode cX12_text 87 = .ok (.iconst (-1), 1) := by decide +kernel
theorem dX12_text_88 : decode cX12_text 88 = .ok (.putfield 159, 3) := by decide +kernel
theorem dX12_text_91 : decode cX12_text 91 = .ok (.aload_n 0, 1) := by decide +kernel
theorem dX12_text_92 : decode cX12_text 92 = .ok (.iload_n 1, 1) := by decide +kernel
theorem dX12_text_93 : decode cX12_text 93 = .ok (.invokevirtual 183, 3) := by decide +kernel
theorem dX12_text_96 : decode cX12_text 96 = .ok (.aload_n 0, 1) := by decide +kernel
theorem dX12_text_97 : decode cX12_text 97 = .ok (.invokevirtual 149, 3) := by decide +kernel
theorem dX12_text_100 : decode cX12_text 100 = .ok (.aload_n 0, 1) := by decide +kernel
theorem dX12_text_101 : decode cX12_text 101 = .ok (.getfield 134, 3) := by decide +kernel
theorem dX12_text_104 : decode cX12_text 104 = .ok (.ifCond .ne 64, 3) := by decide +kernel
theorem dX12_text_107 : decode cX12_text 107 = .ok (.aload_n 0, 1) := by decide +kernel
theorem dX12_text_108 : decode cX12_text 108 = .ok (.getfield 111, 3) := by decide +kernel
theorem dX12_text_111 : decode cX12_text 111 = .ok (.ifCond .eq 57, 3) := by decide +kernel
theorem dX12_text_114 : decode cX12_text 114 = .ok (.iload_n 1, 1) := by decide +kernel
theorem dX12_text_115 : decode cX12_text 115 = .ok (.tableswitch 46 0 2 #[25, 32, 39], 25) := by decide +kernel
theorem dX12_text_140 : decode cX12_text 140 = .ok (.aload_n 0, 1) := by decide +kernel
theorem dX12_text_141 : decode cX12_text 141 = .ok (.invokevirtual 186, 3) := by decide +kernel
theorem dX12_text_144 : decode cX12_text 144 = .ok (.goto (-44), 3) := by decide +kernel
theorem dX12_text_147 : decode cX12_text 147 = .ok (.aload_n 0, 1) := by decide +kernel
theorem dX12_text_148 : decode cX12_text 148 = .ok (.invokevirtual 189, 3) := by decide +kernel
theorem dX12_text_151 : decode cX12_text 151 = .ok (.goto (-51), 3) := by decide +kernel
theorem dX12_text_154 : decode cX12_text 154 = .ok (.aload_n 0, 1) := by decide +kernel
theorem dX12_text_155 : decode cX12_text 155 = .ok (.invokevirtual 192, 3) := by decide +kernel
theorem dX12_text_158 : decode cX12_text 158 = .ok (.goto (-58), 3) := by decide +kernel
theorem dX12_text_161 : decode cX12_text 161 = .ok (.aload_n 0, 1) := by decide +kernel
theorem dX12_text_162 : decode cX12_text 162 = .ok (.invokevirtual 195, 3) := by decide +kernel
theorem dX12_text_165 : decode cX12_text 165 = .ok (.goto (-65), 3) := by decide +kernel
theorem dX12_text_168 : decode cX12_text 168 = .ok (.aload_n 0, 1) := by decide +kernel
theorem dX12_text_169 : decode cX12_text 169 = .ok (.getfield 7, 3) := by decide +kernel
theorem dX12_text_172 : decode cX12_text 172 = .ok (.iconst 5, 1) := by decide +kernel
theorem dX12_text_173 : decode cX12_text 173 = .ok (.iaload, 1) := by decide +kernel
theorem dX12_text_174 : decode cX12_text 174 = .ok (.ifCond .ne 14, 3) := by decide +kernel
theorem dX12_text_177 : decode cX12_text 177 = .ok (.iload_n 1, 1) := by decide +kernel
theorem dX12_text_178 : decode cX12_text 178 = .ok (.ifCond .ne 10, 3) := by decide +kernel
theorem dX12_text_181 : decode cX12_text 181 = .ok (.aload_n 0, 1) := by decide +kernel
theorem dX12_text_182 : decode cX12_text 182 = .ok (.invokevirtual 198, 3) := by decide +kernel
theorem dX12_text_185 : decode cX12_text 185 = .ok (.goto 4, 3) := by decide +kernel
theorem dX12_text_188 : decode cX12_text 188 = .ok (.iconst 0, 1) := by decide +kernel
theorem dX12_text_189 : decode cX12_text 189 = .ok (.istore_n 3, 1) := by decide +kernel
theorem dX12_text_190 : decode cX12_text 190 = .ok (.iload_n 3, 1) := by decide +kernel
theorem dX12_text_191 : decode cX12_text 191 = .ok (.ifCond .eq 12, 3) := by decide +kernel
theorem dX12_text_194 : decode cX12_text 194 = .ok (.aload_n 0, 1) := by decide +kernel
theorem dX12_text_195 : decode cX12_text 195 = .ok (.iload_n 3, 1) := by decide +kernel
theorem dX12_text_196 : decode cX12_text 196 = .ok (.aload_n 0, 1) := by decide +kernel
theorem dX12_text_197 : decode cX12_text 197 = .ok (.getfield 108, 3) := by decide +kernel
theorem dX12_text_200 : decode cX12_text 200 = .ok (.invokevirtual 145, 3) := by decide +kernel
theorem dX12_text_203 : decode cX12_text 203 = .ok (.aload_n 0, 1) := by decide +kernel
theorem dX12_text_204 : decode cX12_text 204 = .ok (.getfield 7, 3) := by decide +kernel
theorem dX12_text_207 : decode cX12_text 207 = .ok (.iconst 5, 1) := by decide +kernel
theorem dX12_text_208 : decode cX12_text 208 = .ok (.iaload, 1) := by decide +kernel
theorem dX12_text_209 : decode cX12_text 209 = .ok (.ifCond .eq 5, 3) := by decide +kernel
theorem dX12_text_212 : decode cX12_text 212 = .ok (.iconst (-1), 1) := by decide +kernel
theorem dX12_text_213 : decode cX12_text 213 = .ok (.ireturn, 1) := by decide +kernel
theorem dX12_text_214 : decode cX12_text 214 = .ok (.iload_n 2, 1) := by decide +kernel
theorem dX12_text_215 : decode cX12_text 215 = .ok (.iconst (-1), 1) := by decide +kernel
theorem dX12_text_216 : decode cX12_text 216 = .ok (.if_icmp .ne 12, 3) := by decide +kernel
theorem dX12_text_219 : decode cX12_text 219 = .ok (.aload_n 0, 1) := by decide +kernel
theorem dX12_text_220 : decode cX12_text 220 = .ok (.getfield 7, 3) := by decide +kernel
theorem dX12_text_223 : decode cX12_text 223 = .ok (.iload_n 1, 1) := by decide +kernel
theorem dX12_text_224 : decode cX12_text 224 = .ok (.iaload, 1) := by decide +kernel
theorem dX12_text_225 : decode cX12_text 225 = .ok (.goto 4, 3) := by decide +kernel
theorem dX12_text_228 : decode cX12_text 228 = .ok (.iload_n 2, 1) := by decide +kernel
theorem dX12_text_229 : decode cX12_text 229 = .ok (.istore 4, 2) := by decide +kernel
theorem dX12_text_231 : decode cX12_text 231 = .ok (.iload_n 2, 1) := by decide +kernel
theorem dX12_text_232 : decode cX12_text 232 = .ok (.iconst (-1), 1) := by decide +kernel
theorem dX12_text_233 : decode cX12_text 233 = .ok (.if_icmp .ne 13, 3) := by decide +kernel
theorem dX12_text_236 : decode cX12_text 236 = .ok (.aload_n 0, 1) := by decide +kernel
theorem dX12_text_237 : decode cX12_text 237 = .ok (.getfield 7, 3) := by decide +kernel
theorem dX12_text_240 : decode cX12_text 240 = .ok (.iload_n 1, 1) := by decide +kernel
theorem dX12_text_241 : decode cX12_text 241 = .ok (.dup2, 1) := by decide +kernel
theorem dX12_text_242 : decode cX12_text 242 = .ok (.iaload, 1) := by decide +kernel
theorem dX12_text_243 : decode cX12_text 243 = .ok (.iconst 1, 1) := by decide +kernel
theorem dX12_text_244 : decode cX12_text 244 = .ok (.iadd, 1) := by decide +kernel
theorem dX12_text_245 : decode cX12_text 245 = .ok (.iastore, 1) := by decide +kernel
theorem dX12_text_246 : decode cX12_text 246 = .ok (.iconst 0, 1) := by decide +kernel
theorem dX12_text_247 : decode cX12_text 247 = .ok (.istore 5, 2) := by decide +kernel
theorem dX12_text_249 : decode cX12_text 249 = .ok (.iload 5, 2) := by decide +kernel
theorem dX12_text_251 : decode cX12_text 251 = .ok (.iload_n 1, 1) := by decide +kernel
theorem dX12_text_252 : decode cX12_text 252 = .ok (.invokestatic 201, 3) := by decide +kernel
theorem dX12_text_255 : decode cX12_text 255 = .ok (.if_icmp .ge 30, 3) := by decide +kernel
theorem dX12_text_258 : decode cX12_text 258 = .ok (.aload_n 0, 1) := by decide +kernel
theorem dX12_text_259 : decode cX12_text 259 = .ok (.getfield 7, 3) := by decide +kernel
theorem dX12_text_262 : decode cX12_text 262 = .ok (.iload_n 1, 1) := by decide +kernel
theorem dX12_text_263 : decode cX12_text 263 = .ok (.iload 4, 2) := by decide +kernel
theorem dX12_text_265 : decode cX12_text 265 = .ok (.invokestatic 204, 3) := by decide +kernel
theorem dX12_text_268 : decode cX12_text 268 = .ok (.iload 5, 2) := by decide +kernel
theorem dX12_text_270 : decode cX12_text 270 = .ok (.iadd, 1) := by decide +kernel
theorem dX12_text_271 : decode cX12_text 271 = .ok (.aload_n 0, 1) := by decide +kernel
theorem dX12_text_272 : decode cX12_text 272 = .ok (.getfield 17, 3) := by decide +kernel
theorem dX12_text_275 : decode cX12_text 275 = .ok (.iload 5, 2) := by decide +kernel
theorem dX12_text_277 : decode cX12_text 277 = .ok (.iaload, 1) := by decide +kernel
theorem dX12_text_278 : decode cX12_text 278 = .ok (.iastore, 1) := by decide +kernel
theorem dX12_text_279 : decode cX12_text 279 = .ok (.iinc 5 1, 3) := by decide +kernel
theorem dX12_text_282 : decode cX12_text 282 = .ok (.goto (-33), 3) := by decide +kernel
theorem dX12_text_285 : decode cX12_text 285 = .ok (.iload 4, 2) := by decide +kernel
theorem dX12_text_287 : decode cX12_text 287 = .ok (.ireturn, 1) := by decide +kernel
theorem dX12_fault_0 : decode cX12_fault 0 = .ok (.iload_n 1, 1) := by decide +kernel
theorem dX12_fault_1 : decode cX12_fault 1 = .ok (.ifCond .ne 12, 3) := by decide +kernel
theorem dX12_fault_4 : decode cX12_fault 4 = .ok (.aload_n 0, 1) := by decide +kernel
theorem dX12_fault_5 : decode cX12_fault 5 = .ok (.getfield 7, 3) := by decide +kernel
theorem dX12_fault_8 : decode cX12_fault 8 = .ok (.iconst 5, 1) := by decide +kernel
theorem dX12_fault_9 : decode cX12_fault 9 = .ok (.iaload, 1) := by decide +kernel
theorem dX12_fault_10 : decode cX12_fault 10 = .ok (.goto 19, 3) := by decide +kernel
theorem dX12_fault_13 : decode cX12_fault 13 = .ok (.iload_n 1, 1) := by decide +kernel
theorem dX12_fault_14 : decode cX12_fault 14 = .ok (.iconst 1, 1) := by decide +kernel
theorem dX12_fault_15 : decode cX12_fault 15 = .ok (.if_icmp .ne 13, 3) := by decide +kernel
theorem dX12_fault_18 : decode cX12_fault 18 = .ok (.aload_n 0, 1) := by decide +kernel
theorem dX12_fault_19 : decode cX12_fault 19 = .ok (.getfield 7, 3) := by decide +kernel
theorem dX12_fault_22 : decode cX12_fault 22 = .ok (.bipush 6, 2) := by decide +kernel
theorem dX12_fault_24 : decode cX12_fault 24 = .ok (.iaload, 1) := by decide +kernel
theorem dX12_fault_25 : decode cX12_fault 25 = .ok (.goto 4, 3) := by decide +kernel
theorem dX12_fault_28 : decode cX12_fault 28 = .ok (.iconst (-1), 1) := by decide +kernel
theorem dX12_fault_29 : decode cX12_fault 29 = .ok (.ireturn, 1) := by decide +kernel
theorem dX12_isParish_0 : decode cX12_isParish 0 = .ok (.aload_n 0, 1) := by decide +kernel
theorem dX12_isParish_1 : decode cX12_isParish 1 = .ok (.iconst 0, 1) := by decide +kernel
theorem dX12_isParish_2 : decode cX12_isParish 2 = .ok (.iload_n 1, 1) := by decide +kernel
theorem dX12_isParish_3 : decode cX12_isParish 3 = .ok (.invokevirtual 179, 3) := by decide +kernel
theorem dX12_isParish_6 : decode cX12_isParish 6 = .ok (.ifCond .ne 5, 3) := by decide +kernel
theorem dX12_isParish_9 : decode cX12_isParish 9 = .ok (.iconst 0, 1) := by decide +kernel
theorem dX12_isParish_10 : decode cX12_isParish 10 = .ok (.ireturn, 1) := by decide +kernel
theorem dX12_isParish_11 : decode cX12_isParish 11 = .ok (.aload_n 0, 1) := by decide +kernel
theorem dX12_isParish_12 : decode cX12_isParish 12 = .ok (.iconst 0, 1) := by decide +kernel
theorem dX12_isParish_13 : decode cX12_isParish 13 = .ok (.iload_n 1, 1) := by decide +kernel
theorem dX12_isParish_14 : decode cX12_isParish 14 = .ok (.invokestatic 204, 3) := by decide +kernel
theorem dX12_isParish_17 : decode cX12_isParish 17 = .ok (.putfield 207, 3) := by decide +kernel
theorem dX12_isParish_20 : decode cX12_isParish 20 = .ok (.aload_n 0, 1) := by decide +kernel
theorem dX12_isParish_21 : decode cX12_isParish 21 = .ok (.iconst (-1), 1) := by decide +kernel
theorem dX12_isParish_22 : decode cX12_isParish 22 = .ok (.putfield 210, 3) := by decide +kernel
theorem dX12_isParish_25 : decode cX12_isParish 25 = .ok (.aload_n 0, 1) := by decide +kernel
theorem dX12_isParish_26 : decode cX12_isParish 26 = .ok (.aload_n 0, 1) := by decide +kernel
theorem dX12_isParish_27 : decode cX12_isParish 27 = .ok (.getfield 7, 3) := by decide +kernel
theorem dX12_isParish_30 : decode cX12_isParish 30 = .ok (.aload_n 0, 1) := by decide +kernel
theorem dX12_isParish_31 : decode cX12_isParish 31 = .ok (.getfield 207, 3) := by decide +kernel
theorem dX12_isParish_34 : decode cX12_isParish 34 = .ok (.iconst 2, 1) := by decide +kernel
theorem dX12_isParish_35 : decode cX12_isParish 35 = .ok (.iadd, 1) := by decide +kernel
theorem dX12_isParish_36 : decode cX12_isParish 36 = .ok (.iaload, 1) := by decide +kernel
theorem dX12_isParish_37 : decode cX12_isParish 37 = .ok (.putfield 213, 3) := by decide +kernel
theorem dX12_isParish_40 : decode cX12_isParish 40 = .ok (.aload_n 0, 1) := by decide +kernel
theorem dX12_isParish_41 : decode cX12_isParish 41 = .ok (.aload_n 0, 1) := by decide +kernel
theorem dX12_isParish_42 : decode cX12_isParish 42 = .ok (.getfield 7, 3) := by decide +kernel
theorem dX12_isParish_45 : decode cX12_isParish 45 = .ok (.aload_n 0, 1) := by decide +kernel
theorem dX12_isParish_46 : decode cX12_isParish 46 = .ok (.getfield 207, 3) := by decide +kernel
theorem dX12_isParish_49 : decode cX12_isParish 49 = .ok (.iconst 3, 1) := by decide +kernel
theorem dX12_isParish_50 : decode cX12_isParish 50 = .ok (.iadd, 1) := by decide +kernel
theorem dX12_isParish_51 : decode cX12_isParish 51 = .ok (.iaload, 1) := by decide +kernel
theorem dX12_isParish_52 : decode cX12_isParish 52 = .ok (.putfield 216, 3) := by decide +kernel
theorem dX12_isParish_55 : decode cX12_isParish 55 = .ok (.iconst 0, 1) := by decide +kernel
theorem dX12_isParish_56 : decode cX12_isParish 56 = .ok (.istore_n 2, 1) := by decide +kernel
theorem dX12_isParish_57 : decode cX12_isParish 57 = .ok (.iload_n 2, 1) := by decide +kernel
theorem dX12_isParish_58 : decode cX12_isParish 58 = .ok (.bipush 8, 2) := by decide +kernel
theorem dX12_isParish_60 : decode cX12_isParish 60 = .ok (.if_icmp .ge 192, 3) := by decide +kernel
theorem dX12_isParish_63 : decode cX12_isParish 63 = .ok (.aload_n 0, 1) := by decide +kernel
theorem dX12_isParish_64 : decode cX12_isParish 64 = .ok (.getfield 20, 3) := by decide +kernel
theorem dX12_isParish_67 : decode cX12_isParish 67 = .ok (.iload_n 2, 1) := by decide +kernel
theorem dX12_isParish_68 : decode cX12_isParish 68 = .ok (.iload_n 2, 1) := by decide +kernel
theorem dX12_isParish_69 : decode cX12_isParish 69 = .ok (.aload_n 0, 1) := by decide +kernel
theorem dX12_isParish_70 : decode cX12_isParish 70 = .ok (.getfield 213, 3) := by decide +kernel
theorem dX12_isParish_73 : decode cX12_isParish 73 = .ok (.if_icmp .ge 22, 3) := by decide +kernel
theorem dX12_isParish_76 : decode cX12_isParish 76 = .ok (.aload_n 0, 1) := by decide +kernel
theorem dX12_isParish_77 : decode cX12_isParish 77 = .ok (.getfield 7, 3) := by decide +kernel
theorem dX12_isParish_80 : decode cX12_isParish 80 = .ok (.aload_n 0, 1) := by decide +kernel
theorem dX12_isParish_81 : decode cX12_isParish 81 = .ok (.getfield 207, 3) := by decide +kernel
theorem dX12_isParish_84 : decode cX12_isParish 84 = .ok (.bipush 68, 2) := by decide +kernel
theorem dX12_isParish_86 : decode cX12_isParish 86 = .ok (.iadd, 1) := by decide +kernel
theorem dX12_isParish_87 : decode cX12_isParish 87 = .ok (.iconst 2, 1) := by decide +kernel
theorem dX12_isParish_88 : decode cX12_isParish 88 = .ok (.iload_n 2, 1) := by decide +kernel
theorem dX12_isParish_89 : decode cX12_isParish 89 = .ok (.imul, 1) := by decide +kernel
theorem dX12_isParish_90 : decode cX12_isParish 90 = .ok (.iadd, 1) := by decide +kernel
theorem dX12_isParish_91 : decode cX12_isParish 91 = .ok (.iaload, 1) := by decide +kernel
theorem dX12_isParish_92 : decode cX12_isParish 92 = .ok (.goto 4, 3) := by decide +kernel
theorem dX12_isParish_95 : decode cX12_isParish 95 = .ok (.iconst (-1), 1) := by decide +kernel
theorem dX12_isParish_96 : decode cX12_isParish 96 = .ok (.iastore, 1) := by decide +kernel
theorem dX12_isParish_97 : decode cX12_isParish 97 = .ok (.aload_n 0, 1) := by decide +kernel
theorem dX12_isParish_98 : decode cX12_isParish 98 = .ok (.getfield 23, 3) := by decide +kernel
theorem dX12_isParish_101 : decode cX12_isParish 101 = .ok (.iload_n 2, 1) := by decide +kernel
theorem dX12_isParish_102 : decode cX12_isParish 102 = .ok (.aload_n 0, 1) := by decide +kernel
theorem dX12_isParish_103 : decode cX12_isParish 103 = .ok (.getfield 7, 3) := by decide +kernel
theorem dX12_isParish_106 : decode cX12_isParish 106 = .ok (.aload_n 0, 1) := by decide +kernel
theorem dX12_isParish_107 : decode cX12_isParish 107 = .ok (.getfield 207, 3) := by decide +kernel
theorem dX12_isParish_110 : decode cX12_isParish 110 = .ok (.bipush 68, 2) := by decide +kernel
theorem dX12_isParish_112 : decode cX12_isParish 112 = .ok (.iadd, 1) := by decide +kernel
theorem dX12_isParish_113 : decode cX12_isParish 113 = .ok (.iconst 2, 1) := by decide +kernel
theorem dX12_isParish_114 : decode cX12_isParish 114 = .ok (.iload_n 2, 1) := by decide +kernel
theorem dX12_isParish_115 : decode cX12_isParish 115 = .ok (.imul, 1) := by decide +kernel
theorem dX12_isParish_116 : decode cX12_isParish 116 = .ok (.iadd, 1) := by decide +kernel
theorem dX12_isParish_117 : decode cX12_isParish 117 = .ok (.iconst 1, 1) := by decide +kernel
theorem dX12_isParish_118 : decode cX12_isParish 118 = .ok (.iadd, 1) := by decide +kernel
theorem dX12_isParish_119 : decode cX12_isParish 119 = .ok (.iaload, 1) := by decide +kernel
theorem dX12_isParish_120 : decode cX12_isParish 120 = .ok (.iastore, 1) := by decide +kernel
theorem dX12_isParish_121 : decode cX12_isParish 121 = .ok (.aload_n 0, 1) := by decide +kernel
theorem dX12_isParish_122 : decode cX12_isParish 122 = .ok (.getfield 26, 3) := by decide +kernel
theorem dX12_isParish_125 : decode cX12_isParish 125 = .ok (.iload_n 2, 1) := by decide +kernel
theorem dX12_isParish_126 : decode cX12_isParish 126 = .ok (.aload_n 0, 1) := by decide +kernel
theorem dX12_isParish_127 : decode cX12_isParish 127 = .ok (.getfield 7, 3) := by decide +kernel
theorem dX12_isParish_130 : decode cX12_isParish 130 = .ok (.aload_n 0, 1) := by decide +kernel
theorem dX12_isParish_131 : decode cX12_isParish 131 = .ok (.getfield 207, 3) := by decide +kernel
theorem dX12_isParish_134 : decode cX12_isParish 134 = .ok (.bipush 84, 2) := by decide +kernel
theorem dX12_isParish_136 : decode cX12_isParish 136 = .ok (.iadd, 1) := by decide +kernel
theorem dX12_isParish_137 : decode cX12_isParish 137 = .ok (.iconst 5, 1) := by decide +kernel
theorem dX12_isParish_138 : decode cX12_isParish 138 = .ok (.iload_n 2, 1) := by decide +kernel
theorem dX12_isParish_139 : decode cX12_isParish 139 = .ok (.imul, 1) := by decide +kernel
theorem dX12_isParish_140 : decode cX12_isParish 140 = .ok (.iadd, 1) := by decide +kernel
theorem dX12_isParish_141 : decode cX12_isParish 141 = .ok (.iaload, 1) := by decide +kernel
theorem dX12_isParish_142 : decode cX12_isParish 142 = .ok (.iastore, 1) := by decide +kernel
theorem dX12_isParish_143 : decode cX12_isParish 143 = .ok (.aload_n 0, 1) := by decide +kernel
theorem dX12_isParish_144 : decode cX12_isParish 144 = .ok (.getfield 29, 3) := by decide +kernel
theorem dX12_isParish_147 : decode cX12_isParish 147 = .ok (.iload_n 2, 1) := by decide +kernel
theorem dX12_isParish_148 : decode cX12_isParish 148 = .ok (.aload_n 0, 1) := by decide +kernel
theorem dX12_isParish_149 : decode cX12_isParish 149 = .ok (.getfield 7, 3) := by decide +kernel
theorem dX12_isParish_152 : decode cX12_isParish 152 = .ok (.aload_n 0, 1) := by decide +kernel
theorem dX12_isParish_153 : decode cX12_isParish 153 = .ok (.getfield 207, 3) := by decide +kernel
theorem dX12_isParish_156 : decode cX12_isParish 156 = .ok (.bipush 84, 2) := by decide +kernel
theorem dX12_isParish_158 : decode cX12_isParish 158 = .ok (.iadd, 1) := by decide +kernel
theorem dX12_isParish_159 : decode cX12_isParish 159 = .ok (.iconst 5, 1) := by decide +kernel
theorem dX12_isParish_160 : decode cX12_isParish 160 = .ok (.iload_n 2, 1) := by decide +kernel
theorem dX12_isParish_161 : decode cX12_isParish 161 = .ok (.imul, 1) := by decide +kernel
theorem dX12_isParish_162 : decode cX12_isParish 162 = .ok (.iadd, 1) := by decide +kernel
theorem dX12_isParish_163 : decode cX12_isParish 163 = .ok (.iconst 1, 1) := by decide +kernel
theorem dX12_isParish_164 : decode cX12_isParish 164 = .ok (.iadd, 1) := by decide +kernel
theorem dX12_isParish_165 : decode cX12_isParish 165 = .ok (.iaload, 1) := by decide +kernel
theorem dX12_isParish_166 : decode cX12_isParish 166 = .ok (.iastore, 1) := by decide +kernel
theorem dX12_isParish_167 : decode cX12_isParish 167 = .ok (.aload_n 0, 1) := by decide +kernel
theorem dX12_isParish_168 : decode cX12_isParish 168 = .ok (.getfield 32, 3) := by decide +kernel
theorem dX12_isParish_171 : decode cX12_isParish 171 = .ok (.iload_n 2, 1) := by decide +kernel
theorem dX12_isParish_172 : decode cX12_isParish 172 = .ok (.aload_n 0, 1) := by decide +kernel
theorem dX12_isParish_173 : decode cX12_isParish 173 = .ok (.getfield 7, 3) := by decide +kernel
theorem dX12_isParish_176 : decode cX12_isParish 176 = .ok (.aload_n 0, 1) := by decide +kernel
theorem dX12_isParish_177 : decode cX12_isParish 177 = .ok (.getfield 207, 3) := by decide +kernel
theorem dX12_isParish_180 : decode cX12_isParish 180 = .ok (.bipush 84, 2) := by decide +kernel
theorem dX12_isParish_182 : decode cX12_isParish 182 = .ok (.iadd, 1) := by decide +kernel
theorem dX12_isParish_183 : decode cX12_isParish 183 = .ok (.iconst 5, 1) := by decide +kernel
theorem dX12_isParish_184 : decode cX12_isParish 184 = .ok (.iload_n 2, 1) := by decide +kernel
theorem dX12_isParish_185 : decode cX12_isParish 185 = .ok (.imul, 1) := by decide +kernel
theorem dX12_isParish_186 : decode cX12_isParish 186 = .ok (.iadd, 1) := by decide +kernel
theorem dX12_isParish_187 : decode cX12_isParish 187 = .ok (.iconst 2, 1) := by decide +kernel
theorem dX12_isParish_188 : decode cX12_isParish 188 = .ok (.iadd, 1) := by decide +kernel
theorem dX12_isParish_189 : decode cX12_isParish 189 = .ok (.iaload, 1) := by decide +kernel
theorem dX12_isParish_190 : decode cX12_isParish 190 = .ok (.iastore, 1) := by decide +kernel
theorem dX12_isParish_191 : decode cX12_isParish 191 = .ok (.aload_n 0, 1) := by decide +kernel
theorem dX12_isParish_192 : decode cX12_isParish 192 = .ok (.getfield 35, 3) := by decide +kernel
theorem dX12_isParish_195 : decode cX12_isParish 195 = .ok (.iload_n 2, 1) := by decide +kernel
theorem dX12_isParish_196 : decode cX12_isParish 196 = .ok (.aload_n 0, 1) := by decide +kernel
theorem dX12_isParish_197 : decode cX12_isParish 197 = .ok (.getfield 7, 3) := by decide +kernel
theorem dX12_isParish_200 : decode cX12_isParish 200 = .ok (.aload_n 0, 1) := by decide +kernel
theorem dX12_isParish_201 : decode cX12_isParish 201 = .ok (.getfield 207, 3) := by decide +kernel
theorem dX12_isParish_204 : decode cX12_isParish 204 = .ok (.bipush 84, 2) := by decide +kernel
theorem dX12_isParish_206 : decode cX12_isParish 206 = .ok (.iadd, 1) := by decide +kernel
theorem dX12_isParish_207 : decode cX12_isParish 207 = .ok (.iconst 5, 1) := by decide +kernel
theorem dX12_isParish_208 : decode cX12_isParish 208 = .ok (.iload_n 2, 1) := by decide +kernel
theorem dX12_isParish_209 : decode cX12_isParish 209 = .ok (.imul, 1) := by decide +kernel
theorem dX12_isParish_210 : decode cX12_isParish 210 = .ok (.iadd, 1) := by decide +kernel
theorem dX12_isParish_211 : decode cX12_isParish 211 = .ok (.iconst 3, 1) := by decide +kernel
theorem dX12_isParish_212 : decode cX12_isParish 212 = .ok (.iadd, 1) := by decide +kernel
theorem dX12_isParish_213 : decode cX12_isParish 213 = .ok (.iaload, 1) := by decide +kernel
theorem dX12_isParish_214 : decode cX12_isParish 214 = .ok (.iastore, 1) := by decide +kernel
theorem dX12_isParish_215 : decode cX12_isParish 215 = .ok (.aload_n 0, 1) := by decide +kernel
theorem dX12_isParish_216 : decode cX12_isParish 216 = .ok (.getfield 38, 3) := by decide +kernel
theorem dX12_isParish_219 : decode cX12_isParish 219 = .ok (.iload_n 2, 1) := by decide +kernel
theorem dX12_isParish_220 : decode cX12_isParish 220 = .ok (.aload_n 0, 1) := by decide +kernel
theorem dX12_isParish_221 : decode cX12_isParish 221 = .ok (.getfield 7, 3) := by decide +kernel
theorem dX12_isParish_224 : decode cX12_isParish 224 = .ok (.aload_n 0, 1) := by decide +kernel
theorem dX12_isParish_225 : decode cX12_isParish 225 = .ok (.getfield 207, 3) := by decide +kernel
theorem dX12_isParish_228 : decode cX12_isParish 228 = .ok (.bipush 84, 2) := by decide +kernel
theorem dX12_isParish_230 : decode cX12_isParish 230 = .ok (.iadd, 1) := by decide +kernel
theorem dX12_isParish_231 : decode cX12_isParish 231 = .ok (.iconst 5, 1) := by decide +kernel
theorem dX12_isParish_232 : decode cX12_isParish 232 = .ok (.iload_n 2, 1) := by decide +kernel
theorem dX12_isParish_233 : decode cX12_isParish 233 = .ok (.imul, 1) := by decide +kernel
theorem dX12_isParish_234 : decode cX12_isParish 234 = .ok (.iadd, 1) := by decide +kernel
theorem dX12_isParish_235 : decode cX12_isParish 235 = .ok (.iconst 4, 1) := by decide +kernel
theorem dX12_isParish_236 : decode cX12_isParish 236 = .ok (.iadd, 1) := by decide +kernel
theorem dX12_isParish_237 : decode cX12_isParish 237 = .ok (.iaload, 1) := by decide +kernel
theorem dX12_isParish_238 : decode cX12_isParish 238 = .ok (.iastore, 1) := by decide +kernel
theorem dX12_isParish_239 : decode cX12_isParish 239 = .ok (.aload_n 0, 1) := by decide +kernel
theorem dX12_isParish_240 : decode cX12_isParish 240 = .ok (.getfield 41, 3) := by decide +kernel
theorem dX12_isParish_243 : decode cX12_isParish 243 = .ok (.iload_n 2, 1) := by decide +kernel
theorem dX12_isParish_244 : decode cX12_isParish 244 = .ok (.iconst 0, 1) := by decide +kernel
theorem dX12_isParish_245 : decode cX12_isParish 245 = .ok (.bastore, 1) := by decide +kernel
theorem dX12_isParish_246 : decode cX12_isParish 246 = .ok (.iinc 2 1, 3) := by decide +kernel
theorem dX12_isParish_249 : decode cX12_isParish 249 = .ok (.goto (-192), 3) := by decide +kernel
theorem dX12_isParish_252 : decode cX12_isParish 252 = .ok (.iconst 1, 1) := by decide +kernel
theorem dX12_isParish_253 : decode cX12_isParish 253 = .ok (.ireturn, 1) := by decide +kernel
theorem dX12_wide_0 : decode cX12_wide 0 = .ok (.aload_n 0, 1) := by decide +kernel
theorem dX12_wide_1 : decode cX12_wide 1 = .ok (.getfield 7, 3) := by decide +kernel
theorem dX12_wide_4 : decode cX12_wide 4 = .ok (.aload_n 0, 1) := by decide +kernel
theorem dX12_wide_5 : decode cX12_wide 5 = .ok (.getfield 207, 3) := by decide +kernel
theorem dX12_wide_8 : decode cX12_wide 8 = .ok (.iconst 0, 1) := by decide +kernel
theorem dX12_wide_9 : decode cX12_wide 9 = .ok (.iadd, 1) := by decide +kernel
theorem dX12_wide_10 : decode cX12_wide 10 = .ok (.iaload, 1) := by decide +kernel
theorem dX12_wide_11 : decode cX12_wide 11 = .ok (.ireturn, 1) := by decide +kernel
theorem dX12_high_0 : decode cX12_high 0 = .ok (.aload_n 0, 1) := by decide +kernel
theorem dX12_high_1 : decode cX12_high 1 = .ok (.getfield 7, 3) := by decide +kernel
theorem dX12_high_4 : decode cX12_high 4 = .ok (.aload_n 0, 1) := by decide +kernel
theorem dX12_high_5 : decode cX12_high 5 = .ok (.getfield 207, 3) := by decide +kernel
theorem dX12_high_8 : decode cX12_high 8 = .ok (.iconst 1, 1) := by decide +kernel
theorem dX12_high_9 : decode cX12_high 9 = .ok (.iadd, 1) := by decide +kernel
theorem dX12_high_10 : decode cX12_high 10 = .ok (.iaload, 1) := by decide +kernel
theorem dX12_high_11 : decode cX12_high 11 = .ok (.ireturn, 1) := by decide +kernel
theorem dX12_isSquare_0 : decode cX12_isSquare 0 = .ok (.iload_n 1, 1) := by decide +kernel
theorem dX12_isSquare_1 : decode cX12_isSquare 1 = .ok (.iconst 0, 1) := by decide +kernel
theorem dX12_isSquare_2 : decode cX12_isSquare 2 = .ok (.aload_n 0, 1) := by decide +kernel
theorem dX12_isSquare_3 : decode cX12_isSquare 3 = .ok (.invokevirtual 219, 3) := by decide +kernel
theorem dX12_isSquare_6 : decode cX12_isSquare 6 = .ok (.aload_n 0, 1) := by decide +kernel
theorem dX12_isSquare_7 : decode cX12_isSquare 7 = .ok (.invokevirtual 222, 3) := by decide +kernel
theorem dX12_isSquare_10 : decode cX12_isSquare 10 = .ok (.imul, 1) := by decide +kernel
theorem dX12_isSquare_11 : decode cX12_isSquare 11 = .ok (.iconst 1, 1) := by decide +kernel
theorem dX12_isSquare_12 : decode cX12_isSquare 12 = .ok (.isub, 1) := by decide +kernel
theorem dX12_isSquare_13 : decode cX12_isSquare 13 = .ok (.invokestatic 141, 3) := by decide +kernel
theorem dX12_isSquare_16 : decode cX12_isSquare 16 = .ok (.ireturn, 1) := by decide +kernel
theorem dX12_inside_0 : decode cX12_inside 0 = .ok (.bipush 8, 2) := by decide +kernel
theorem dX12_inside_2 : decode cX12_inside 2 = .ok (.iload_n 1, 1) := by decide +kernel
theorem dX12_inside_3 : decode cX12_inside 3 = .ok (.aload_n 0, 1) := by decide +kernel
theorem dX12_inside_4 : decode cX12_inside 4 = .ok (.invokevirtual 219, 3) := by decide +kernel
theorem dX12_inside_7 : decode cX12_inside 7 = .ok (.idiv, 1) := by decide +kernel
theorem dX12_inside_8 : decode cX12_inside 8 = .ok (.imul, 1) := by decide +kernel
theorem dX12_inside_9 : decode cX12_inside 9 = .ok (.iload_n 1, 1) := by decide +kernel
theorem dX12_inside_10 : decode cX12_inside 10 = .ok (.aload_n 0, 1) := by decide +kernel
theorem dX12_inside_11 : decode cX12_inside 11 = .ok (.invokevirtual 219, 3) := by decide +kernel
theorem dX12_inside_14 : decode cX12_inside 14 = .ok (.irem, 1) := by decide +kernel
theorem dX12_inside_15 : decode cX12_inside 15 = .ok (.iadd, 1) := by decide +kernel
theorem dX12_inside_16 : decode cX12_inside 16 = .ok (.ireturn, 1) := by decide +kernel
theorem dX12_outside_0 : decode cX12_outside 0 = .ok (.aload_n 0, 1) := by decide +kernel
theorem dX12_outside_1 : decode cX12_outside 1 = .ok (.invokevirtual 219, 3) := by decide +kernel
theorem dX12_outside_4 : decode cX12_outside 4 = .ok (.iload_n 1, 1) := by decide +kernel
theorem dX12_outside_5 : decode cX12_outside 5 = .ok (.bipush 8, 2) := by decide +kernel
theorem dX12_outside_7 : decode cX12_outside 7 = .ok (.idiv, 1) := by decide +kernel
theorem dX12_outside_8 : decode cX12_outside 8 = .ok (.imul, 1) := by decide +kernel
theorem dX12_outside_9 : decode cX12_outside 9 = .ok (.iload_n 1, 1) := by decide +kernel
theorem dX12_outside_10 : decode cX12_outside 10 = .ok (.bipush 8, 2) := by decide +kernel
theorem dX12_outside_12 : decode cX12_outside 12 = .ok (.irem, 1) := by decide +kernel
theorem dX12_outside_13 : decode cX12_outside 13 = .ok (.iadd, 1) := by decide +kernel
theorem dX12_outside_14 : decode cX12_outside 14 = .ok (.ireturn, 1) := by decide +kernel
theorem dX12_isPerson_0 : decode cX12_isPerson 0 = .ok (.iload_n 1, 1) := by decide +kernel
theorem dX12_isPerson_1 : decode cX12_isPerson 1 = .ok (.iconst 0, 1) := by decide +kernel
theorem dX12_isPerson_2 : decode cX12_isPerson 2 = .ok (.aload_n 0, 1) := by decide +kernel
theorem dX12_isPerson_3 : decode cX12_isPerson 3 = .ok (.getfield 213, 3) := by decide +kernel
theorem dX12_isPerson_6 : decode cX12_isPerson 6 = .ok (.iconst 1, 1) := by decide +kernel
theorem dX12_isPerson_7 : decode cX12_isPerson 7 = .ok (.isub, 1) := by decide +kernel
theorem dX12_isPerson_8 : decode cX12_isPerson 8 = .ok (.invokestatic 141, 3) := by decide +kernel
theorem dX12_isPerson_11 : decode cX12_isPerson 11 = .ok (.ireturn, 1) := by decide +kernel
theorem dX12_isShine_0 : decode cX12_isShine 0 = .ok (.iload_n 1, 1) := by decide +kernel
theorem dX12_isShine_1 : decode cX12_isShine 1 = .ok (.iconst 0, 1) := by decide +kernel
theorem dX12_isShine_2 : decode cX12_isShine 2 = .ok (.aload_n 0, 1) := by decide +kernel
theorem dX12_isShine_3 : decode cX12_isShine 3 = .ok (.getfield 216, 3) := by decide +kernel
theorem dX12_isShine_6 : decode cX12_isShine 6 = .ok (.iconst 1, 1) := by decide +kernel
theorem dX12_isShine_7 : decode cX12_isShine 7 = .ok (.isub, 1) := by decide +kernel
theorem dX12_isShine_8 : decode cX12_isShine 8 = .ok (.invokestatic 141, 3) := by decide +kernel
theorem dX12_isShine_11 : decode cX12_isShine 11 = .ok (.ireturn, 1) := by decide +kernel
theorem dX12_on_0 : decode cX12_on 0 = .ok (.iconst 0, 1) := by decide +kernel
theorem dX12_on_1 : decode cX12_on 1 = .ok (.istore_n 2, 1) := by decide +kernel
theorem dX12_on_2 : decode cX12_on 2 = .ok (.iload_n 2, 1) := by decide +kernel
theorem dX12_on_3 : decode cX12_on 3 = .ok (.aload_n 0, 1) := by decide +kernel
theorem dX12_on_4 : decode cX12_on 4 = .ok (.getfield 213, 3) := by decide +kernel
theorem dX12_on_7 : decode cX12_on 7 = .ok (.if_icmp .ge 24, 3) := by decide +kernel
theorem dX12_on_10 : decode cX12_on 10 = .ok (.aload_n 0, 1) := by decide +kernel
theorem dX12_on_11 : decode cX12_on 11 = .ok (.getfield 20, 3) := by decide +kernel
theorem dX12_on_14 : decode cX12_on 14 = .ok (.iload_n 2, 1) := by decide +kernel
theorem dX12_on_15 : decode cX12_on 15 = .ok (.iaload, 1) := by decide +kernel
theorem dX12_on_16 : decode cX12_on 16 = .ok (.iload_n 1, 1) := by decide +kernel
theorem dX12_on_17 : decode cX12_on 17 = .ok (.if_icmp .ne 8, 3) := by decide +kernel
theorem dX12_on_20 : decode cX12_on 20 = .ok (.bipush 10, 2) := by decide +kernel
theorem dX12_on_22 : decode cX12_on 22 = .ok (.iload_n 2, 1) := by decide +kernel
theorem dX12_on_23 : decode cX12_on 23 = .ok (.iadd, 1) := by decide +kernel
theorem dX12_on_24 : decode cX12_on 24 = .ok (.ireturn, 1) := by decide +kernel
theorem dX12_on_25 : decode cX12_on 25 = .ok (.iinc 2 1, 3) := by decide +kernel
theorem dX12_on_28 : decode cX12_on 28 = .ok (.goto (-26), 3) := by decide +kernel
theorem dX12_on_31 : decode cX12_on 31 = .ok (.iconst 0, 1) := by decide +kernel
theorem dX12_on_32 : decode cX12_on 32 = .ok (.istore_n 2, 1) := by decide +kernel
theorem dX12_on_33 : decode cX12_on 33 = .ok (.iload_n 2, 1) := by decide +kernel
theorem dX12_on_34 : decode cX12_on 34 = .ok (.aload_n 0, 1) := by decide +kernel
theorem dX12_on_35 : decode cX12_on 35 = .ok (.getfield 216, 3) := by decide +kernel
theorem dX12_on_38 : decode cX12_on 38 = .ok (.if_icmp .ge 24, 3) := by decide +kernel
theorem dX12_on_41 : decode cX12_on 41 = .ok (.aload_n 0, 1) := by decide +kernel
theorem dX12_on_42 : decode cX12_on 42 = .ok (.getfield 29, 3) := by decide +kernel
theorem dX12_on_45 : decode cX12_on 45 = .ok (.iload_n 2, 1) := by decide +kernel
theorem dX12_on_46 : decode cX12_on 46 = .ok (.iaload, 1) := by decide +kernel
theorem dX12_on_47 : decode cX12_on 47 = .ok (.iload_n 1, 1) := by decide +kernel
theorem dX12_on_48 : decode cX12_on 48 = .ok (.if_icmp .ne 8, 3) := by decide +kernel
theorem dX12_on_51 : decode cX12_on 51 = .ok (.bipush 20, 2) := by decide +kernel
theorem dX12_on_53 : decode cX12_on 53 = .ok (.iload_n 2, 1) := by decide +kernel
theorem dX12_on_54 : decode cX12_on 54 = .ok (.iadd, 1) := by decide +kernel
theorem dX12_on_55 : decode cX12_on 55 = .ok (.ireturn, 1) := by decide +kernel
theorem dX12_on_56 : decode cX12_on 56 = .ok (.iinc 2 1, 3) := by decide +kernel
theorem dX12_on_59 : decode cX12_on 59 = .ok (.goto (-26), 3) := by decide +kernel
theorem dX12_on_62 : decode cX12_on 62 = .ok (.iload_n 1, 1) := by decide +kernel
theorem dX12_on_63 : decode cX12_on 63 = .ok (.aload_n 0, 1) := by decide +kernel
theorem dX12_on_64 : decode cX12_on 64 = .ok (.getfield 210, 3) := by decide +kernel
theorem dX12_on_67 : decode cX12_on 67 = .ok (.if_icmp .ne 7, 3) := by decide +kernel
theorem dX12_on_70 : decode cX12_on 70 = .ok (.iconst 1, 1) := by decide +kernel
theorem dX12_on_71 : decode cX12_on 71 = .ok (.goto 16, 3) := by decide +kernel
theorem dX12_on_74 : decode cX12_on 74 = .ok (.aload_n 0, 1) := by decide +kernel
theorem dX12_on_75 : decode cX12_on 75 = .ok (.getfield 7, 3) := by decide +kernel
theorem dX12_on_78 : decode cX12_on 78 = .ok (.aload_n 0, 1) := by decide +kernel
theorem dX12_on_79 : decode cX12_on 79 = .ok (.getfield 207, 3) := by decide +kernel
theorem dX12_on_82 : decode cX12_on 82 = .ok (.iconst 4, 1) := by decide +kernel
theorem dX12_on_83 : decode cX12_on 83 = .ok (.iadd, 1) := by decide +kernel
theorem dX12_on_84 : decode cX12_on 84 = .ok (.iload_n 1, 1) := by decide +kernel
theorem dX12_on_85 : decode cX12_on 85 = .ok (.iadd, 1) := by decide +kernel
theorem dX12_on_86 : decode cX12_on 86 = .ok (.iaload, 1) := by decide +kernel
theorem dX12_on_87 : decode cX12_on 87 = .ok (.ireturn, 1) := by decide +kernel
theorem dX12_parish_0 : decode cX12_parish 0 = .ok (.aload_n 0, 1) := by decide +kernel
theorem dX12_parish_1 : decode cX12_parish 1 = .ok (.iload_n 1, 1) := by decide +kernel
theorem dX12_parish_2 : decode cX12_parish 2 = .ok (.invokevirtual 225, 3) := by decide +kernel
theorem dX12_parish_5 : decode cX12_parish 5 = .ok (.ifCond .ne 5, 3) := by decide +kernel
theorem dX12_parish_8 : decode cX12_parish 8 = .ok (.iconst (-1), 1) := by decide +kernel
theorem dX12_parish_9 : decode cX12_parish 9 = .ok (.ireturn, 1) := by decide +kernel
theorem dX12_parish_10 : decode cX12_parish 10 = .ok (.iload_n 2, 1) := by decide +kernel
theorem dX12_parish_11 : decode cX12_parish 11 = .ok (.iconst 0, 1) := by decide +kernel
theorem dX12_parish_12 : decode cX12_parish 12 = .ok (.iconst 3, 1) := by decide +kernel
theorem dX12_parish_13 : decode cX12_parish 13 = .ok (.invokestatic 141, 3) := by decide +kernel
theorem dX12_parish_16 : decode cX12_parish 16 = .ok (.ifCond .eq 15, 3) := by decide +kernel
theorem dX12_parish_19 : decode cX12_parish 19 = .ok (.aload_n 0, 1) := by decide +kernel
theorem dX12_parish_20 : decode cX12_parish 20 = .ok (.getfield 7, 3) := by decide +kernel
theorem dX12_parish_23 : decode cX12_parish 23 = .ok (.aload_n 0, 1) := by decide +kernel
theorem dX12_parish_24 : decode cX12_parish 24 = .ok (.getfield 207, 3) := by decide +kernel
theorem dX12_parish_27 : decode cX12_parish 27 = .ok (.iload_n 2, 1) := by decide +kernel
theorem dX12_parish_28 : decode cX12_parish 28 = .ok (.iadd, 1) := by decide +kernel
theorem dX12_parish_29 : decode cX12_parish 29 = .ok (.iaload, 1) := by decide +kernel
theorem dX12_parish_30 : decode cX12_parish 30 = .ok (.ireturn, 1) := by decide +kernel
theorem dX12_parish_31 : decode cX12_parish 31 = .ok (.iload_n 2, 1) := by decide +kernel
theorem dX12_parish_32 : decode cX12_parish 32 = .ok (.bipush 10, 2) := by decide +kernel
theorem dX12_parish_34 : decode cX12_parish 34 = .ok (.irem, 1) := by decide +kernel
theorem dX12_parish_35 : decode cX12_parish 35 = .ok (.istore_n 3, 1) := by decide +kernel
theorem dX12_parish_36 : decode cX12_parish 36 = .ok (.iload_n 2, 1) := by decide +kernel
theorem dX12_parish_37 : decode cX12_parish 37 = .ok (.bipush 10, 2) := by decide +kernel
theorem dX12_parish_39 : decode cX12_parish 39 = .ok (.bipush 29, 2) := by decide +kernel
theorem dX12_parish_41 : decode cX12_parish 41 = .ok (.invokestatic 141, 3) := by decide +kernel
theorem dX12_parish_44 : decode cX12_parish 44 = .ok (.ifCond .eq 41, 3) := by decide +kernel
theorem dX12_parish_47 : decode cX12_parish 47 = .ok (.aload_n 0, 1) := by decide +kernel
theorem dX12_parish_48 : decode cX12_parish 48 = .ok (.iload_n 3, 1) := by decide +kernel
theorem dX12_parish_49 : decode cX12_parish 49 = .ok (.invokevirtual 228, 3) := by decide +kernel
theorem dX12_parish_52 : decode cX12_parish 52 = .ok (.ifCond .ne 7, 3) := by decide +kernel
theorem dX12_parish_55 : decode cX12_parish 55 = .ok (.iconst (-1), 1) := by decide +kernel
theorem dX12_parish_56 : decode cX12_parish 56 = .ok (.goto 28, 3) := by decide +kernel
theorem dX12_parish_59 : decode cX12_parish 59 = .ok (.iload_n 2, 1) := by decide +kernel
theorem dX12_parish_60 : decode cX12_parish 60 = .ok (.bipush 20, 2) := by decide +kernel
theorem dX12_parish_62 : decode cX12_parish 62 = .ok (.if_icmp .ge 16, 3) := by decide +kernel
theorem dX12_parish_65 : decode cX12_parish 65 = .ok (.aload_n 0, 1) := by decide +kernel
theorem dX12_parish_66 : decode cX12_parish 66 = .ok (.aload_n 0, 1) := by decide +kernel
theorem dX12_parish_67 : decode cX12_parish 67 = .ok (.getfield 20, 3) := by decide +kernel
theorem dX12_parish_70 : decode cX12_parish 70 = .ok (.iload_n 3, 1) := by decide +kernel
theorem dX12_parish_71 : decode cX12_parish 71 = .ok (.iaload, 1) := by decide +kernel
theorem dX12_parish_72 : decode cX12_parish 72 = .ok (.invokevirtual 231, 3) := by decide +kernel
theorem dX12_parish_75 : decode cX12_parish 75 = .ok (.goto 9, 3) := by decide +kernel
theorem dX12_parish_78 : decode cX12_parish 78 = .ok (.aload_n 0, 1) := by decide +kernel
theorem dX12_parish_79 : decode cX12_parish 79 = .ok (.getfield 23, 3) := by decide +kernel
theorem dX12_parish_82 : decode cX12_parish 82 = .ok (.iload_n 3, 1) := by decide +kernel
theorem dX12_parish_83 : decode cX12_parish 83 = .ok (.iaload, 1) := by decide +kernel
theorem dX12_parish_84 : decode cX12_parish 84 = .ok (.ireturn, 1) := by decide +kernel
theorem dX12_parish_85 : decode cX12_parish 85 = .ok (.iload_n 2, 1) := by decide +kernel
theorem dX12_parish_86 : decode cX12_parish 86 = .ok (.bipush 30, 2) := by decide +kernel
theorem dX12_parish_88 : decode cX12_parish 88 = .ok (.bipush 79, 2) := by decide +kernel
theorem dX12_parish_90 : decode cX12_parish 90 = .ok (.invokestatic 141, 3) := by decide +kernel
theorem dX12_parish_93 : decode cX12_parish 93 = .ok (.ifCond .eq 11, 3) := by decide +kernel
theorem dX12_parish_96 : decode cX12_parish 96 = .ok (.aload_n 0, 1) := by decide +kernel
theorem dX12_parish_97 : decode cX12_parish 97 = .ok (.iload_n 3, 1) := by decide +kernel
theorem dX12_parish_98 : decode cX12_parish 98 = .ok (.invokevirtual 234, 3) := by decide +kernel
theorem dX12_parish_101 : decode cX12_parish 101 = .ok (.ifCond .ne 5, 3) := by decide +kernel
theorem dX12_parish_104 : decode cX12_parish 104 = .ok (.iconst (-1), 1) := by decide +kernel
theorem dX12_parish_105 : decode cX12_parish 105 = .ok (.ireturn, 1) := by decide +kernel
theorem dX12_parish_106 : decode cX12_parish 106 = .ok (.iload_n 2, 1) := by decide +kernel
theorem dX12_parish_107 : decode cX12_parish 107 = .ok (.bipush 10, 2) := by decide +kernel
theorem dX12_parish_109 : decode cX12_parish 109 = .ok (.idiv, 1) := by decide +kernel
theorem dX12_parish_110 : decode cX12_parish 110 = .ok (.tableswitch 62 3 6 #[30, 37, 48, 55], 30) := by decide +kernel
theorem dX12_parish_140 : decode cX12_parish 140 = .ok (.aload_n 0, 1) := by decide +kernel
theorem dX12_parish_141 : decode cX12_parish 141 = .ok (.getfield 26, 3) := by decide +kernel
theorem dX12_parish_144 : decode cX12_parish 144 = .ok (.iload_n 3, 1) := by decide +kernel
theorem dX12_parish_145 : decode cX12_parish 145 = .ok (.iaload, 1) := by decide +kernel
theorem dX12_parish_146 : decode cX12_parish 146 = .ok (.ireturn, 1) := by decide +kernel
theorem dX12_parish_147 : decode cX12_parish 147 = .ok (.aload_n 0, 1) := by decide +kernel
theorem dX12_parish_148 : decode cX12_parish 148 = .ok (.aload_n 0, 1) := by decide +kernel
theorem dX12_parish_149 : decode cX12_parish 149 = .ok (.getfield 29, 3) := by decide +kernel
theorem dX12_parish_152 : decode cX12_parish 152 = .ok (.iload_n 3, 1) := by decide +kernel
theorem dX12_parish_153 : decode cX12_parish 153 = .ok (.iaload, 1) := by decide +kernel
theorem dX12_parish_154 : decode cX12_parish 154 = .ok (.invokevirtual 231, 3) := by decide +kernel
theorem dX12_parish_157 : decode cX12_parish 157 = .ok (.ireturn, 1) := by decide +kernel
theorem dX12_parish_158 : decode cX12_parish 158 = .ok (.aload_n 0, 1) := by decide +kernel
theorem dX12_parish_159 : decode cX12_parish 159 = .ok (.getfield 32, 3) := by decide +kernel
theorem dX12_parish_162 : decode cX12_parish 162 = .ok (.iload_n 3, 1) := by decide +kernel
theorem dX12_parish_163 : decode cX12_parish 163 = .ok (.iaload, 1) := by decide +kernel
theorem dX12_parish_164 : decode cX12_parish 164 = .ok (.ireturn, 1) := by decide +kernel
theorem dX12_parish_165 : decode cX12_parish 165 = .ok (.aload_n 0, 1) := by decide +kernel
theorem dX12_parish_166 : decode cX12_parish 166 = .ok (.getfield 35, 3) := by decide +kernel
theorem dX12_parish_169 : decode cX12_parish 169 = .ok (.iload_n 3, 1) := by decide +kernel
theorem dX12_parish_170 : decode cX12_parish 170 = .ok (.iaload, 1) := by decide +kernel
theorem dX12_parish_171 : decode cX12_parish 171 = .ok (.ireturn, 1) := by decide +kernel
theorem dX12_parish_172 : decode cX12_parish 172 = .ok (.aload_n 0, 1) := by decide +kernel
theorem dX12_parish_173 : decode cX12_parish 173 = .ok (.getfield 38, 3) := by decide +kernel
theorem dX12_parish_176 : decode cX12_parish 176 = .ok (.iload_n 3, 1) := by decide +kernel
theorem dX12_parish_177 : decode cX12_parish 177 = .ok (.iaload, 1) := by decide +kernel
theorem dX12_parish_178 : decode cX12_parish 178 = .ok (.ireturn, 1) := by decide +kernel
theorem dX12_square_0 : decode cX12_square 0 = .ok (.aload_n 0, 1) := by decide +kernel
theorem dX12_square_1 : decode cX12_square 1 = .ok (.iload_n 1, 1) := by decide +kernel
theorem dX12_square_2 : decode cX12_square 2 = .ok (.invokevirtual 225, 3) := by decide +kernel
theorem dX12_square_5 : decode cX12_square 5 = .ok (.ifCond .eq 23, 3) := by decide +kernel
theorem dX12_square_8 : decode cX12_square 8 = .ok (.aload_n 0, 1) := by decide +kernel
theorem dX12_square_9 : decode cX12_square 9 = .ok (.iload_n 2, 1) := by decide +kernel
theorem dX12_square_10 : decode cX12_square 10 = .ok (.invokevirtual 237, 3) := by decide +kernel
theorem dX12_square_13 : decode cX12_square 13 = .ok (.ifCond .eq 15, 3) := by decide +kernel
theorem dX12_square_16 : decode cX12_square 16 = .ok (.aload_n 0, 1) := by decide +kernel
theorem dX12_square_17 : decode cX12_square 17 = .ok (.aload_n 0, 1) := by decide +kernel
theorem dX12_square_18 : decode cX12_square 18 = .ok (.iload_n 2, 1) := by decide +kernel
theorem dX12_square_19 : decode cX12_square 19 = .ok (.invokevirtual 240, 3) := by decide +kernel
theorem dX12_square_22 : decode cX12_square 22 = .ok (.invokevirtual 243, 3) := by decide +kernel
theorem dX12_square_25 : decode cX12_square 25 = .ok (.goto 4, 3) := by decide +kernel
theorem dX12_square_28 : decode cX12_square 28 = .ok (.iconst (-1), 1) := by decide +kernel
theorem dX12_square_29 : decode cX12_square 29 = .ok (.ireturn, 1) := by decide +kernel
theorem dX12_isOpen_0 : decode cX12_isOpen 0 = .ok (.iload_n 2, 1) := by decide +kernel
theorem dX12_isOpen_1 : decode cX12_isOpen 1 = .ok (.aload_n 0, 1) := by decide +kernel
theorem dX12_isOpen_2 : decode cX12_isOpen 2 = .ok (.getfield 32, 3) := by decide +kernel
theorem dX12_isOpen_5 : decode cX12_isOpen 5 = .ok (.iload_n 1, 1) := by decide +kernel
theorem dX12_isOpen_6 : decode cX12_isOpen 6 = .ok (.iaload, 1) := by decide +kernel
theorem dX12_isOpen_7 : decode cX12_isOpen 7 = .ok (.isub, 1) := by decide +kernel
theorem dX12_isOpen_8 : decode cX12_isOpen 8 = .ok (.bipush 8, 2) := by decide +kernel
theorem dX12_isOpen_10 : decode cX12_isOpen 10 = .ok (.iadd, 1) := by decide +kernel
theorem dX12_isOpen_11 : decode cX12_isOpen 11 = .ok (.bipush 8, 2) := by decide +kernel
theorem dX12_isOpen_13 : decode cX12_isOpen 13 = .ok (.irem, 1) := by decide +kernel
theorem dX12_isOpen_14 : decode cX12_isOpen 14 = .ok (.istore_n 3, 1) := by decide +kernel
theorem dX12_isOpen_15 : decode cX12_isOpen 15 = .ok (.aload_n 0, 1) := by decide +kernel
theorem dX12_isOpen_16 : decode cX12_isOpen 16 = .ok (.getfield 41, 3) := by decide +kernel
theorem dX12_isOpen_19 : decode cX12_isOpen 19 = .ok (.iload_n 1, 1) := by decide +kernel
theorem dX12_isOpen_20 : decode cX12_isOpen 20 = .ok (.baload, 1) := by decide +kernel
theorem dX12_isOpen_21 : decode cX12_isOpen 21 = .ok (.ifCond .eq 5, 3) := by decide +kernel
theorem dX12_isOpen_24 : decode cX12_isOpen 24 = .ok (.iconst 0, 1) := by decide +kernel
theorem dX12_isOpen_25 : decode cX12_isOpen 25 = .ok (.ireturn, 1) := by decide +kernel
theorem dX12_isOpen_26 : decode cX12_isOpen 26 = .ok (.aload_n 0, 1) := by decide +kernel
theorem dX12_isOpen_27 : decode cX12_isOpen 27 = .ok (.getfield 26, 3) := by decide +kernel
theorem dX12_isOpen_30 : decode cX12_isOpen 30 = .ok (.iload_n 1, 1) := by decide +kernel
theorem dX12_isOpen_31 : decode cX12_isOpen 31 = .ok (.iaload, 1) := by decide +kernel
theorem dX12_isOpen_32 : decode cX12_isOpen 32 = .ok (.ifCond .eq 43, 3) := by decide +kernel
theorem dX12_isOpen_35 : decode cX12_isOpen 35 = .ok (.iload_n 3, 1) := by decide +kernel
theorem dX12_isOpen_36 : decode cX12_isOpen 36 = .ok (.ifCond .eq 39, 3) := by decide +kernel
theorem dX12_isOpen_39 : decode cX12_isOpen 39 = .ok (.aload_n 0, 1) := by decide +kernel
theorem dX12_isOpen_40 : decode cX12_isOpen 40 = .ok (.getfield 26, 3) := by decide +kernel
theorem dX12_isOpen_43 : decode cX12_isOpen 43 = .ok (.iload_n 1, 1) := by decide +kernel
theorem dX12_isOpen_44 : decode cX12_isOpen 44 = .ok (.iaload, 1) := by decide +kernel
theorem dX12_isOpen_45 : decode cX12_isOpen 45 = .ok (.iconst 2, 1) := by decide +kernel
theorem dX12_isOpen_46 : decode cX12_isOpen 46 = .ok (.if_icmp .ne 14, 3) := by decide +kernel
theorem dX12_isOpen_49 : decode cX12_isOpen 49 = .ok (.iload_n 3, 1) := by decide +kernel
theorem dX12_isOpen_50 : decode cX12_isOpen 50 = .ok (.iconst 1, 1) := by decide +kernel
theorem dX12_isOpen_51 : decode cX12_isOpen 51 = .ok (.if_icmp .eq 24, 3) := by decide +kernel
theorem dX12_isOpen_54 : decode cX12_isOpen 54 = .ok (.iload_n 3, 1) := by decide +kernel
theorem dX12_isOpen_55 : decode cX12_isOpen 55 = .ok (.bipush 7, 2) := by decide +kernel
theorem dX12_isOpen_57 : decode cX12_isOpen 57 = .ok (.if_icmp .eq 18, 3) := by decide +kernel
theorem dX12_isOpen_60 : decode cX12_isOpen 60 = .ok (.aload_n 0, 1) := by decide +kernel
theorem dX12_isOpen_61 : decode cX12_isOpen 61 = .ok (.getfield 26, 3) := by decide +kernel
theorem dX12_isOpen_64 : decode cX12_isOpen 64 = .ok (.iload_n 1, 1) := by decide +kernel
theorem dX12_isOpen_65 : decode cX12_isOpen 65 = .ok (.iaload, 1) := by decide +kernel
theorem dX12_isOpen_66 : decode cX12_isOpen 66 = .ok (.iconst 3, 1) := by decide +kernel
theorem dX12_isOpen_67 : decode cX12_isOpen 67 = .ok (.if_icmp .ne 12, 3) := by decide +kernel
theorem dX12_isOpen_70 : decode cX12_isOpen 70 = .ok (.iload_n 3, 1) := by decide +kernel
theorem dX12_isOpen_71 : decode cX12_isOpen 71 = .ok (.iconst 4, 1) := by decide +kernel
theorem dX12_isOpen_72 : decode cX12_isOpen 72 = .ok (.if_icmp .ne 7, 3) := by decide +kernel
theorem dX12_isOpen_75 : decode cX12_isOpen 75 = .ok (.iconst 1, 1) := by decide +kernel
theorem dX12_isOpen_76 : decode cX12_isOpen 76 = .ok (.goto 4, 3) := by decide +kernel
theorem dX12_isOpen_79 : decode cX12_isOpen 79 = .ok (.iconst 0, 1) := by decide +kernel
theorem dX12_isOpen_80 : decode cX12_isOpen 80 = .ok (.ireturn, 1) := by decide +kernel
theorem dX12_beside_0 : decode cX12_beside 0 = .ok (.iload_n 1, 1) := by decide +kernel
theorem dX12_beside_1 : decode cX12_beside 1 = .ok (.bipush 8, 2) := by decide +kernel
theorem dX12_beside_3 : decode cX12_beside 3 = .ok (.irem, 1) := by decide +kernel
theorem dX12_beside_4 : decode cX12_beside 4 = .ok (.iload_n 2, 1) := by decide +kernel
theorem dX12_beside_5 : decode cX12_beside 5 = .ok (.iconst 1, 1) := by decide +kernel
theorem dX12_beside_6 : decode cX12_beside 6 = .ok (.iconst 3, 1) := by decide +kernel
theorem dX12_beside_7 : decode cX12_beside 7 = .ok (.invokestatic 141, 3) := by decide +kernel
theorem dX12_beside_10 : decode cX12_beside 10 = .ok (.ifCond .eq 7, 3) := by decide +kernel
theorem dX12_beside_13 : decode cX12_beside 13 = .ok (.iconst 1, 1) := by decide +kernel
theorem dX12_beside_14 : decode cX12_beside 14 = .ok (.goto 18, 3) := by decide +kernel
theorem dX12_beside_17 : decode cX12_beside 17 = .ok (.iload_n 2, 1) := by decide +kernel
theorem dX12_beside_18 : decode cX12_beside 18 = .ok (.iconst 5, 1) := by decide +kernel
theorem dX12_beside_19 : decode cX12_beside 19 = .ok (.bipush 7, 2) := by decide +kernel
theorem dX12_beside_21 : decode cX12_beside 21 = .ok (.invokestatic 141, 3) := by decide +kernel
theorem dX12_beside_24 : decode cX12_beside 24 = .ok (.ifCond .eq 7, 3) := by decide +kernel
theorem dX12_beside_27 : decode cX12_beside 27 = .ok (.iconst (-1), 1) := by decide +kernel
theorem dX12_beside_28 : decode cX12_beside 28 = .ok (.goto 4, 3) := by decide +kernel
theorem dX12_beside_31 : decode cX12_beside 31 = .ok (.iconst 0, 1) := by decide +kernel
theorem dX12_beside_32 : decode cX12_beside 32 = .ok (.iadd, 1) := by decide +kernel
theorem dX12_beside_33 : decode cX12_beside 33 = .ok (.istore_n 3, 1) := by decide +kernel
theorem dX12_beside_34 : decode cX12_beside 34 = .ok (.iload_n 1, 1) := by decide +kernel
theorem dX12_beside_35 : decode cX12_beside 35 = .ok (.bipush 8, 2) := by decide +kernel
theorem dX12_beside_37 : decode cX12_beside 37 = .ok (.idiv, 1) := by decide +kernel
theorem dX12_beside_38 : decode cX12_beside 38 = .ok (.iload_n 2, 1) := by decide +kernel
theorem dX12_beside_39 : decode cX12_beside 39 = .ok (.iconst 3, 1) := by decide +kernel
theorem dX12_beside_40 : decode cX12_beside 40 = .ok (.iconst 5, 1) := by decide +kernel
theorem dX12_beside_41 : decode cX12_beside 41 = .ok (.invokestatic 141, 3) := by decide +kernel
theorem dX12_beside_44 : decode cX12_beside 44 = .ok (.ifCond .eq 7, 3) := by decide +kernel
theorem dX12_beside_47 : decode cX12_beside 47 = .ok (.iconst 1, 1) := by decide +kernel
theorem dX12_beside_48 : decode cX12_beside 48 = .ok (.goto 19, 3) := by decide +kernel
theorem dX12_beside_51 : decode cX12_beside 51 = .ok (.iload_n 2, 1) := by decide +kernel
theorem dX12_beside_52 : decode cX12_beside 52 = .ok (.bipush 7, 2) := by decide +kernel
theorem dX12_beside_54 : decode cX12_beside 54 = .ok (.if_icmp .eq 8, 3) := by decide +kernel
theorem dX12_beside_57 : decode cX12_beside 57 = .ok (.iload_n 2, 1) := by decide +kernel
theorem dX12_beside_58 : decode cX12_beside 58 = .ok (.iconst 2, 1) := by decide +kernel
theorem dX12_beside_59 : decode cX12_beside 59 = .ok (.if_icmp .ge 7, 3) := by decide +kernel
theorem dX12_beside_62 : decode cX12_beside 62 = .ok (.iconst (-1), 1) := by decide +kernel
theorem dX12_beside_63 : decode cX12_beside 63 = .ok (.goto 4, 3) := by decide +kernel
theorem dX12_beside_66 : decode cX12_beside 66 = .ok (.iconst 0, 1) := by decide +kernel
theorem dX12_beside_67 : decode cX12_beside 67 = .ok (.iadd, 1) := by decide +kernel
theorem dX12_beside_68 : decode cX12_beside 68 = .ok (.istore 4, 2) := by decide +kernel
theorem dX12_beside_70 : decode cX12_beside 70 = .ok (.iload_n 3, 1) := by decide +kernel
theorem dX12_beside_71 : decode cX12_beside 71 = .ok (.iconst 0, 1) := by decide +kernel
theorem dX12_beside_72 : decode cX12_beside 72 = .ok (.aload_n 0, 1) := by decide +kernel
theorem dX12_beside_73 : decode cX12_beside 73 = .ok (.invokevirtual 219, 3) := by decide +kernel
theorem dX12_beside_76 : decode cX12_beside 76 = .ok (.iconst 1, 1) := by decide +kernel
theorem dX12_beside_77 : decode cX12_beside 77 = .ok (.isub, 1) := by decide +kernel
theorem dX12_beside_78 : decode cX12_beside 78 = .ok (.invokestatic 141, 3) := by decide +kernel
theorem dX12_beside_81 : decode cX12_beside 81 = .ok (.ifCond .eq 28, 3) := by decide +kernel
theorem dX12_beside_84 : decode cX12_beside 84 = .ok (.iload 4, 2) := by decide +kernel
theorem dX12_beside_86 : decode cX12_beside 86 = .ok (.iconst 0, 1) := by decide +kernel
theorem dX12_beside_87 : decode cX12_beside 87 = .ok (.aload_n 0, 1) := by decide +kernel
theorem dX12_beside_88 : decode cX12_beside 88 = .ok (.invokevirtual 222, 3) := by decide +kernel
theorem dX12_beside_91 : decode cX12_beside 91 = .ok (.iconst 1, 1) := by decide +kernel
theorem dX12_beside_92 : decode cX12_beside 92 = .ok (.isub, 1) := by decide +kernel
theorem dX12_beside_93 : decode cX12_beside 93 = .ok (.invokestatic 141, 3) := by decide +kernel
theorem dX12_beside_96 : decode cX12_beside 96 = .ok (.ifCond .eq 13, 3) := by decide +kernel
theorem dX12_beside_99 : decode cX12_beside 99 = .ok (.bipush 8, 2) := by decide +kernel
theorem dX12_beside_101 : decode cX12_beside 101 = .ok (.iload 4, 2) := by decide +kernel
theorem dX12_beside_103 : decode cX12_beside 103 = .ok (.imul, 1) := by decide +kernel
theorem dX12_beside_104 : decode cX12_beside 104 = .ok (.iload_n 3, 1) := by decide +kernel
theorem dX12_beside_105 : decode cX12_beside 105 = .ok (.iadd, 1) := by decide +kernel
theorem dX12_beside_106 : decode cX12_beside 106 = .ok (.goto 4, 3) := by decide +kernel
theorem dX12_beside_109 : decode cX12_beside 109 = .ok (.iconst (-1), 1) := by decide +kernel
theorem dX12_beside_110 : decode cX12_beside 110 = .ok (.ireturn, 1) := by decide +kernel
theorem dX12_meets_0 : decode cX12_meets 0 = .ok (.aload_n 0, 1) := by decide +kernel
theorem dX12_meets_1 : decode cX12_meets 1 = .ok (.iload_n 1, 1) := by decide +kernel
theorem dX12_meets_2 : decode cX12_meets 2 = .ok (.iload_n 2, 1) := by decide +kernel
theorem dX12_meets_3 : decode cX12_meets 3 = .ok (.invokevirtual 246, 3) := by decide +kernel
theorem dX12_meets_6 : decode cX12_meets 6 = .ok (.ifCond .ne 5, 3) := by decide +kernel
theorem dX12_meets_9 : decode cX12_meets 9 = .ok (.iconst (-1), 1) := by decide +kernel
theorem dX12_meets_10 : decode cX12_meets 10 = .ok (.ireturn, 1) := by decide +kernel
theorem dX12_meets_11 : decode cX12_meets 11 = .ok (.aload_n 0, 1) := by decide +kernel
theorem dX12_meets_12 : decode cX12_meets 12 = .ok (.aload_n 0, 1) := by decide +kernel
theorem dX12_meets_13 : decode cX12_meets 13 = .ok (.getfield 29, 3) := by decide +kernel
theorem dX12_meets_16 : decode cX12_meets 16 = .ok (.iload_n 1, 1) := by decide +kernel
theorem dX12_meets_17 : decode cX12_meets 17 = .ok (.iaload, 1) := by decide +kernel
theorem dX12_meets_18 : decode cX12_meets 18 = .ok (.iload_n 2, 1) := by decide +kernel
theorem dX12_meets_19 : decode cX12_meets 19 = .ok (.invokevirtual 249, 3) := by decide +kernel
theorem dX12_meets_22 : decode cX12_meets 22 = .ok (.istore_n 3, 1) := by decide +kernel
theorem dX12_meets_23 : decode cX12_meets 23 = .ok (.iload_n 3, 1) := by decide +kernel
theorem dX12_meets_24 : decode cX12_meets 24 = .ok (.iconst (-1), 1) := by decide +kernel
theorem dX12_meets_25 : decode cX12_meets 25 = .ok (.if_icmp .eq 21, 3) := by decide +kernel
theorem dX12_meets_28 : decode cX12_meets 28 = .ok (.aload_n 0, 1) := by decide +kernel
theorem dX12_meets_29 : decode cX12_meets 29 = .ok (.iload_n 3, 1) := by decide +kernel
theorem dX12_meets_30 : decode cX12_meets 30 = .ok (.invokevirtual 243, 3) := by decide +kernel
theorem dX12_meets_33 : decode cX12_meets 33 = .ok (.ifCond .ne 13, 3) := by decide +kernel
theorem dX12_meets_36 : decode cX12_meets 36 = .ok (.aload_n 0, 1) := by decide +kernel
theorem dX12_meets_37 : decode cX12_meets 37 = .ok (.iload_n 3, 1) := by decide +kernel
theorem dX12_meets_38 : decode cX12_meets 38 = .ok (.iload_n 2, 1) := by decide +kernel
theorem dX12_meets_39 : decode cX12_meets 39 = .ok (.invokevirtual 249, 3) := by decide +kernel
theorem dX12_meets_42 : decode cX12_meets 42 = .ok (.istore_n 3, 1) := by decide +kernel
theorem dX12_meets_43 : decode cX12_meets 43 = .ok (.goto (-20), 3) := by decide +kernel
theorem dX12_meets_46 : decode cX12_meets 46 = .ok (.iload_n 3, 1) := by decide +kernel
theorem dX12_meets_47 : decode cX12_meets 47 = .ok (.iconst (-1), 1) := by decide +kernel
theorem dX12_meets_48 : decode cX12_meets 48 = .ok (.if_icmp .eq 13, 3) := by decide +kernel
theorem dX12_meets_51 : decode cX12_meets 51 = .ok (.aload_n 0, 1) := by decide +kernel
theorem dX12_meets_52 : decode cX12_meets 52 = .ok (.iload_n 3, 1) := by decide +kernel
theorem dX12_meets_53 : decode cX12_meets 53 = .ok (.invokevirtual 243, 3) := by decide +kernel
theorem dX12_meets_56 : decode cX12_meets 56 = .ok (.bipush 10, 2) := by decide +kernel
theorem dX12_meets_58 : decode cX12_meets 58 = .ok (.if_icmp .ge 7, 3) := by decide +kernel
theorem dX12_meets_61 : decode cX12_meets 61 = .ok (.iconst (-1), 1) := by decide +kernel
theorem dX12_meets_62 : decode cX12_meets 62 = .ok (.goto 11, 3) := by decide +kernel
theorem dX12_meets_65 : decode cX12_meets 65 = .ok (.aload_n 0, 1) := by decide +kernel
theorem dX12_meets_66 : decode cX12_meets 66 = .ok (.iload_n 3, 1) := by decide +kernel
theorem dX12_meets_67 : decode cX12_meets 67 = .ok (.invokevirtual 243, 3) := by decide +kernel
theorem dX12_meets_70 : decode cX12_meets 70 = .ok (.bipush 10, 2) := by decide +kernel
theorem dX12_meets_72 : decode cX12_meets 72 = .ok (.isub, 1) := by decide +kernel
theorem dX12_meets_73 : decode cX12_meets 73 = .ok (.ireturn, 1) := by decide +kernel
theorem dX12_joins_0 : decode cX12_joins 0 = .ok (.iconst 0, 1) := by decide +kernel
theorem dX12_joins_1 : decode cX12_joins 1 = .ok (.istore_n 3, 1) := by decide +kernel
theorem dX12_joins_2 : decode cX12_joins 2 = .ok (.iload_n 3, 1) := by decide +kernel
theorem dX12_joins_3 : decode cX12_joins 3 = .ok (.bipush 8, 2) := by decide +kernel
theorem dX12_joins_5 : decode cX12_joins 5 = .ok (.if_icmp .ge 74, 3) := by decide +kernel
theorem dX12_joins_8 : decode cX12_joins 8 = .ok (.aload_n 0, 1) := by decide +kernel
theorem dX12_joins_9 : decode cX12_joins 9 = .ok (.getfield 44, 3) := by decide +kernel
theorem dX12_joins_12 : decode cX12_joins 12 = .ok (.bipush 8, 2) := by decide +kernel
theorem dX12_joins_14 : decode cX12_joins 14 = .ok (.iload_n 2, 1) := by decide +kernel
theorem dX12_joins_15 : decode cX12_joins 15 = .ok (.imul, 1) := by decide +kernel
theorem dX12_joins_16 : decode cX12_joins 16 = .ok (.iload_n 3, 1) := by decide +kernel
theorem dX12_joins_17 : decode cX12_joins 17 = .ok (.iadd, 1) := by decide +kernel
theorem dX12_joins_18 : decode cX12_joins 18 = .ok (.iaload, 1) := by decide +kernel
theorem dX12_joins_19 : decode cX12_joins 19 = .ok (.bipush 99, 2) := by decide +kernel
theorem dX12_joins_21 : decode cX12_joins 21 = .ok (.if_icmp .ne 8, 3) := by decide +kernel
theorem dX12_joins_24 : decode cX12_joins 24 = .ok (.bipush 99, 2) := by decide +kernel
theorem dX12_joins_26 : decode cX12_joins 26 = .ok (.goto 16, 3) := by decide +kernel
theorem dX12_joins_29 : decode cX12_joins 29 = .ok (.aload_n 0, 1) := by decide +kernel
theorem dX12_joins_30 : decode cX12_joins 30 = .ok (.getfield 44, 3) := by decide +kernel
theorem dX12_joins_33 : decode cX12_joins 33 = .ok (.bipush 8, 2) := by decide +kernel
theorem dX12_joins_35 : decode cX12_joins 35 = .ok (.iload_n 2, 1) := by decide +kernel
theorem dX12_joins_36 : decode cX12_joins 36 = .ok (.imul, 1) := by decide +kernel
theorem dX12_joins_37 : decode cX12_joins 37 = .ok (.iload_n 3, 1) := by decide +kernel
theorem dX12_joins_38 : decode cX12_joins 38 = .ok (.iadd, 1) := by decide +kernel
theorem dX12_joins_39 : decode cX12_joins 39 = .ok (.iaload, 1) := by decide +kernel
theorem dX12_joins_40 : decode cX12_joins 40 = .ok (.iconst 1, 1) := by decide +kernel
theorem dX12_joins_41 : decode cX12_joins 41 = .ok (.iadd, 1) := by decide +kernel
theorem dX12_joins_42 : decode cX12_joins 42 = .ok (.istore 4, 2) := by decide +kernel
theorem dX12_joins_44 : decode cX12_joins 44 = .ok (.iload 4, 2) := by decide +kernel
theorem dX12_joins_46 : decode cX12_joins 46 = .ok (.aload_n 0, 1) := by decide +kernel
theorem dX12_joins_47 : decode cX12_joins 47 = .ok (.getfield 44, 3) := by decide +kernel
theorem dX12_joins_50 : decode cX12_joins 50 = .ok (.bipush 8, 2) := by decide +kernel
theorem dX12_joins_52 : decode cX12_joins 52 = .ok (.iload_n 1, 1) := by decide +kernel
theorem dX12_joins_53 : decode cX12_joins 53 = .ok (.imul, 1) := by decide +kernel
theorem dX12_joins_54 : decode cX12_joins 54 = .ok (.iload_n 3, 1) := by decide +kernel
theorem dX12_joins_55 : decode cX12_joins 55 = .ok (.iadd, 1) := by decide +kernel
theorem dX12_joins_56 : decode cX12_joins 56 = .ok (.iaload, 1) := by decide +kernel
theorem dX12_joins_57 : decode cX12_joins 57 = .ok (.if_icmp .ge 16, 3) := by decide +kernel
theorem dX12_joins_60 : decode cX12_joins 60 = .ok (.aload_n 0, 1) := by decide +kernel
theorem dX12_joins_61 : decode cX12_joins 61 = .ok (.getfield 44, 3) := by decide +kernel
theorem dX12_joins_64 : decode cX12_joins 64 = .ok (.bipush 8, 2) := by decide +kernel
theorem dX12_joins_66 : decode cX12_joins 66 = .ok (.iload_n 1, 1) := by decide +kernel
theorem dX12_joins_67 : decode cX12_joins 67 = .ok (.imul, 1) := by decide +kernel
theorem dX12_joins_68 : decode cX12_joins 68 = .ok (.iload_n 3, 1) := by decide +kernel
theorem dX12_joins_69 : decode cX12_joins 69 = .ok (.iadd, 1) := by decide +kernel
theorem dX12_joins_70 : decode cX12_joins 70 = .ok (.iload 4, 2) := by decide +kernel
theorem dX12_joins_72 : decode cX12_joins 72 = .ok (.iastore, 1) := by decide +kernel
theorem dX12_joins_73 : decode cX12_joins 73 = .ok (.iinc 3 1, 3) := by decide +kernel
theorem dX12_joins_76 : decode cX12_joins 76 = .ok (.goto (-74), 3) := by decide +kernel
theorem dX12_joins_79 : decode cX12_joins 79 = .ok (.return_, 1) := by decide +kernel
theorem dX12_laysOut_0 : decode cX12_laysOut 0 = .ok (.iconst 0, 1) := by decide +kernel
theorem dX12_laysOut_1 : decode cX12_laysOut 1 = .ok (.istore_n 1, 1) := by decide +kernel
theorem dX12_laysOut_2 : decode cX12_laysOut 2 = .ok (.iload_n 1, 1) := by decide +kernel
theorem dX12_laysOut_3 : decode cX12_laysOut 3 = .ok (.bipush 64, 2) := by decide +kernel
theorem dX12_laysOut_5 : decode cX12_laysOut 5 = .ok (.if_icmp .ge 17, 3) := by decide +kernel
theorem dX12_laysOut_8 : decode cX12_laysOut 8 = .ok (.aload_n 0, 1) := by decide +kernel
theorem dX12_laysOut_9 : decode cX12_laysOut 9 = .ok (.getfield 44, 3) := by decide +kernel
theorem dX12_laysOut_12 : decode cX12_laysOut 12 = .ok (.iload_n 1, 1) := by decide +kernel
theorem dX12_laysOut_13 : decode cX12_laysOut 13 = .ok (.bipush 99, 2) := by decide +kernel
theorem dX12_laysOut_15 : decode cX12_laysOut 15 = .ok (.iastore, 1) := by decide +kernel
theorem dX12_laysOut_16 : decode cX12_laysOut 16 = .ok (.iinc 1 1, 3) := by decide +kernel
theorem dX12_laysOut_19 : decode cX12_laysOut 19 = .ok (.goto (-17), 3) := by decide +kernel
theorem dX12_laysOut_22 : decode cX12_laysOut 22 = .ok (.iconst 0, 1) := by decide +kernel
theorem dX12_laysOut_23 : decode cX12_laysOut 23 = .ok (.istore_n 1, 1) := by decide +kernel
theorem dX12_laysOut_24 : decode cX12_laysOut 24 = .ok (.iload_n 1, 1) := by decide +kernel
theorem dX12_laysOut_25 : decode cX12_laysOut 25 = .ok (.aload_n 0, 1) := by decide +kernel
theorem dX12_laysOut_26 : decode cX12_laysOut 26 = .ok (.getfield 216, 3) := by decide +kernel
theorem dX12_laysOut_29 : decode cX12_laysOut 29 = .ok (.if_icmp .ge 80, 3) := by decide +kernel
theorem dX12_laysOut_32 : decode cX12_laysOut 32 = .ok (.aload_n 0, 1) := by decide +kernel
theorem dX12_laysOut_33 : decode cX12_laysOut 33 = .ok (.getfield 47, 3) := by decide +kernel
theorem dX12_laysOut_36 : decode cX12_laysOut 36 = .ok (.iload_n 1, 1) := by decide +kernel
theorem dX12_laysOut_37 : decode cX12_laysOut 37 = .ok (.iconst 0, 1) := by decide +kernel
theorem dX12_laysOut_38 : decode cX12_laysOut 38 = .ok (.iastore, 1) := by decide +kernel
theorem dX12_laysOut_39 : decode cX12_laysOut 39 = .ok (.iconst 0, 1) := by decide +kernel
theorem dX12_laysOut_40 : decode cX12_laysOut 40 = .ok (.istore_n 2, 1) := by decide +kernel
theorem dX12_laysOut_41 : decode cX12_laysOut 41 = .ok (.iload_n 2, 1) := by decide +kernel
theorem dX12_laysOut_42 : decode cX12_laysOut 42 = .ok (.bipush 8, 2) := by decide +kernel
theorem dX12_laysOut_44 : decode cX12_laysOut 44 = .ok (.if_icmp .ge 59, 3) := by decide +kernel
theorem dX12_laysOut_47 : decode cX12_laysOut 47 = .ok (.aload_n 0, 1) := by decide +kernel
theorem dX12_laysOut_48 : decode cX12_laysOut 48 = .ok (.iload_n 1, 1) := by decide +kernel
theorem dX12_laysOut_49 : decode cX12_laysOut 49 = .ok (.iload_n 2, 1) := by decide +kernel
theorem dX12_laysOut_50 : decode cX12_laysOut 50 = .ok (.invokevirtual 252, 3) := by decide +kernel
theorem dX12_laysOut_53 : decode cX12_laysOut 53 = .ok (.istore_n 3, 1) := by decide +kernel
theorem dX12_laysOut_54 : decode cX12_laysOut 54 = .ok (.iload_n 3, 1) := by decide +kernel
theorem dX12_laysOut_55 : decode cX12_laysOut 55 = .ok (.iconst 0, 1) := by decide +kernel
theorem dX12_laysOut_56 : decode cX12_laysOut 56 = .ok (.bipush 7, 2) := by decide +kernel
theorem dX12_laysOut_58 : decode cX12_laysOut 58 = .ok (.invokestatic 141, 3) := by decide +kernel
theorem dX12_laysOut_61 : decode cX12_laysOut 61 = .ok (.ifCond .eq 15, 3) := by decide +kernel
theorem dX12_laysOut_64 : decode cX12_laysOut 64 = .ok (.aload_n 0, 1) := by decide +kernel
theorem dX12_laysOut_65 : decode cX12_laysOut 65 = .ok (.getfield 44, 3) := by decide +kernel
theorem dX12_laysOut_68 : decode cX12_laysOut 68 = .ok (.bipush 8, 2) := by decide +kernel
theorem dX12_laysOut_70 : decode cX12_laysOut 70 = .ok (.iload_n 1, 1) := by decide +kernel
theorem dX12_laysOut_71 : decode cX12_laysOut 71 = .ok (.imul, 1) := by decide +kernel
theorem dX12_laysOut_72 : decode cX12_laysOut 72 = .ok (.iload_n 3, 1) := by decide +kernel
theorem dX12_laysOut_73 : decode cX12_laysOut 73 = .ok (.iadd, 1) := by decide +kernel
theorem dX12_laysOut_74 : decode cX12_laysOut 74 = .ok (.iconst 0, 1) := by decide +kernel
theorem dX12_laysOut_75 : decode cX12_laysOut 75 = .ok (.iastore, 1) := by decide +kernel
theorem dX12_laysOut_76 : decode cX12_laysOut 76 = .ok (.iload_n 3, 1) := by decide +kernel
theorem dX12_laysOut_77 : decode cX12_laysOut 77 = .ok (.bipush 10, 2) := by decide +kernel
theorem dX12_laysOut_79 : decode cX12_laysOut 79 = .ok (.if_icmp .lt 18, 3) := by decide +kernel
theorem dX12_laysOut_82 : decode cX12_laysOut 82 = .ok (.aload_n 0, 1) := by decide +kernel
theorem dX12_laysOut_83 : decode cX12_laysOut 83 = .ok (.getfield 47, 3) := by decide +kernel
theorem dX12_laysOut_86 : decode cX12_laysOut 86 = .ok (.iload_n 1, 1) := by decide +kernel
theorem dX12_laysOut_87 : decode cX12_laysOut 87 = .ok (.dup2, 1) := by decide +kernel
theorem dX12_laysOut_88 : decode cX12_laysOut 88 = .ok (.iaload, 1) := by decide +kernel
theorem dX12_laysOut_89 : decode cX12_laysOut 89 = .ok (.iconst 1, 1) := by decide +kernel
theorem dX12_laysOut_90 : decode cX12_laysOut 90 = .ok (.iload_n 3, 1) := by decide +kernel
theorem dX12_laysOut_91 : decode cX12_laysOut 91 = .ok (.bipush 10, 2) := by decide +kernel
theorem dX12_laysOut_93 : decode cX12_laysOut 93 = .ok (.isub, 1) := by decide +kernel
theorem dX12_laysOut_94 : decode cX12_laysOut 94 = .ok (.ishl, 1) := by decide +kernel
theorem dX12_laysOut_95 : decode cX12_laysOut 95 = .ok (.ior, 1) := by decide +kernel
theorem dX12_laysOut_96 : decode cX12_laysOut 96 = .ok (.iastore, 1) := by decide +kernel
theorem dX12_laysOut_97 : decode cX12_laysOut 97 = .ok (.iinc 2 1, 3) := by decide +kernel
theorem dX12_laysOut_100 : decode cX12_laysOut 100 = .ok (.goto (-59), 3) := by decide +kernel
theorem dX12_laysOut_103 : decode cX12_laysOut 103 = .ok (.iinc 1 1, 3) := by decide +kernel
theorem dX12_laysOut_106 : decode cX12_laysOut 106 = .ok (.goto (-82), 3) := by decide +kernel
theorem dX12_laysOut_109 : decode cX12_laysOut 109 = .ok (.iconst 0, 1) := by decide +kernel
theorem dX12_laysOut_110 : decode cX12_laysOut 110 = .ok (.istore_n 1, 1) := by decide +kernel
theorem dX12_laysOut_111 : decode cX12_laysOut 111 = .ok (.iload_n 1, 1) := by decide +kernel
theorem dX12_laysOut_112 : decode cX12_laysOut 112 = .ok (.aload_n 0, 1) := by decide +kernel
theorem dX12_laysOut_113 : decode cX12_laysOut 113 = .ok (.getfield 216, 3) := by decide +kernel
theorem dX12_laysOut_116 : decode cX12_laysOut 116 = .ok (.if_icmp .ge 61, 3) := by decide +kernel
theorem dX12_laysOut_119 : decode cX12_laysOut 119 = .ok (.iconst 0, 1) := by decide +kernel
theorem dX12_laysOut_120 : decode cX12_laysOut 120 = .ok (.istore_n 2, 1) := by decide +kernel
theorem dX12_laysOut_121 : decode cX12_laysOut 121 = .ok (.iload_n 2, 1) := by decide +kernel
theorem dX12_laysOut_122 : decode cX12_laysOut 122 = .ok (.aload_n 0, 1) := by decide +kernel
theorem dX12_laysOut_123 : decode cX12_laysOut 123 = .ok (.getfield 216, 3) := by decide +kernel
theorem dX12_laysOut_126 : decode cX12_laysOut 126 = .ok (.if_icmp .ge 45, 3) := by decide +kernel
theorem dX12_laysOut_129 : decode cX12_laysOut 129 = .ok (.iconst 0, 1) := by decide +kernel
theorem dX12_laysOut_130 : decode cX12_laysOut 130 = .ok (.istore_n 3, 1) := by decide +kernel
theorem dX12_laysOut_131 : decode cX12_laysOut 131 = .ok (.iload_n 3, 1) := by decide +kernel
theorem dX12_laysOut_132 : decode cX12_laysOut 132 = .ok (.aload_n 0, 1) := by decide +kernel
theorem dX12_laysOut_133 : decode cX12_laysOut 133 = .ok (.getfield 216, 3) := by decide +kernel
theorem dX12_laysOut_136 : decode cX12_laysOut 136 = .ok (.if_icmp .ge 29, 3) := by decide +kernel
theorem dX12_laysOut_139 : decode cX12_laysOut 139 = .ok (.aload_n 0, 1) := by decide +kernel
theorem dX12_laysOut_140 : decode cX12_laysOut 140 = .ok (.getfield 47, 3) := by decide +kernel
theorem dX12_laysOut_143 : decode cX12_laysOut 143 = .ok (.iload_n 2, 1) := by decide +kernel
theorem dX12_laysOut_144 : decode cX12_laysOut 144 = .ok (.iaload, 1) := by decide +kernel
theorem dX12_laysOut_145 : decode cX12_laysOut 145 = .ok (.iload_n 3, 1) := by decide +kernel
theorem dX12_laysOut_146 : decode cX12_laysOut 146 = .ok (.ishr, 1) := by decide +kernel
theorem dX12_laysOut_147 : decode cX12_laysOut 147 = .ok (.iconst 1, 1) := by decide +kernel
theorem dX12_laysOut_148 : decode cX12_laysOut 148 = .ok (.iand, 1) := by decide +kernel
theorem dX12_laysOut_149 : decode cX12_laysOut 149 = .ok (.iconst 1, 1) := by decide +kernel
theorem dX12_laysOut_150 : decode cX12_laysOut 150 = .ok (.if_icmp .ne 9, 3) := by decide +kernel
theorem dX12_laysOut_153 : decode cX12_laysOut 153 = .ok (.aload_n 0, 1) := by decide +kernel
theorem dX12_laysOut_154 : decode cX12_laysOut 154 = .ok (.iload_n 2, 1) := by decide +kernel
theorem dX12_laysOut_155 : decode cX12_laysOut 155 = .ok (.iload_n 3, 1) := by decide +kernel
theorem dX12_laysOut_156 : decode cX12_laysOut 156 = .ok (.invokevirtual 255, 3) := by decide +kernel
theorem dX12_laysOut_159 : decode cX12_laysOut 159 = .ok (.iinc 3 1, 3) := by decide +kernel
theorem dX12_laysOut_162 : decode cX12_laysOut 162 = .ok (.goto (-31), 3) := by decide +kernel
theorem dX12_laysOut_165 : decode cX12_laysOut 165 = .ok (.iinc 2 1, 3) := by decide +kernel
theorem dX12_laysOut_168 : decode cX12_laysOut 168 = .ok (.goto (-47), 3) := by decide +kernel
theorem dX12_laysOut_171 : decode cX12_laysOut 171 = .ok (.iinc 1 1, 3) := by decide +kernel
theorem dX12_laysOut_174 : decode cX12_laysOut 174 = .ok (.goto (-63), 3) := by decide +kernel
theorem dX12_laysOut_177 : decode cX12_laysOut 177 = .ok (.return_, 1) := by decide +kernel
section
variable {p : Program} {l : Launch} {e : Env} {s : State} {m : MethodId} {args : Array Value} {below : List Frame} {meth : Method} {c : Code} {G : GG} {K : SK}
set_option maxHeartbeats 4000000 in
set_option maxRecDepth 100000 in
theorem tX12_isIn (l : Launch) (G : GG) {K : SK} (hL : Lay K) (M : MM) (x0 : Int32) (x1 : Int32) (x2 : Int32) : Ct l yX12_isIn cX12_isIn 3 (some .boolean) 0 0 0 G K M [.int x0, .int x1, .int x2] (some (.int (fX12_isIn x0 x1 x2))) K M := by
  generalize hf : fX12_isIn x0 x1 x2 = pp
  refine z_enter (lv := [(0, .int x0), (1, .int x1), (2, .int x2)]) (by decide +kernel) (Nat.le_of_ble_eq_true rfl) rfl ?_
  intro p e s m args below meth c C hnm hs0
  replace C : CX p s m args meth c cX12_isIn 3 (some .boolean) RX12 G := C
  unfold fX12_isIn at hf
  refine z_iload_n C 0 0 dX12_isIn_0 rfl rfl ?_
  refine z_iload_n C 1 1 dX12_isIn_1 rfl rfl ?_
  refine z_icmp_lt C 14 dX12_isIn_2 (by decide) (fun c1 => ?_) (fun c1 => ?_)
  · replace hf := ite_t c1 hf
    refine z_iconst C 0 dX12_isIn_14 (by decide) ?_
    cases hf
    exact z_zret C rfl nb0 dX12_isIn_15
  · replace hf := ite_f c1 hf
    refine z_iload_n C 0 0 dX12_isIn_5 rfl rfl ?_
    refine z_iload_n C 2 2 dX12_isIn_6 rfl rfl ?_
    refine z_icmp_gt C 14 dX12_isIn_7 (by decide) (fun c2 => ?_) (fun c2 => ?_)
    · replace hf := ite_t c2 hf
      refine z_iconst C 0 dX12_isIn_14 (by decide) ?_
      cases hf
      exact z_zret C rfl nb0 dX12_isIn_15
    · replace hf := ite_f c2 hf
      refine z_iconst C 1 dX12_isIn_10 (by decide) ?_
      refine z_goto C 15 dX12_isIn_11 (by decide) ?_
      cases hf
      exact z_zret C rfl nb1 dX12_isIn_15
set_option maxHeartbeats 4000000 in
set_option maxRecDepth 100000 in
theorem wX12_feed_j73 (C : CX p s m args meth c cX12_feed 8 (some .int) RX12 G) (hs0 : s.heap.size = G.1 + K.1) (hL : Lay K)  (k20 : MM → Int32 → Int32 → Int32 → Int32 → Int32 → Int32 → Option (Int32 × MM)) (pp : (Int32 × MM)) (hk20 : ∀ (M28 : MM) (y29 : Int32) (y30 : Int32) (y31 : Int32) (y32 : Int32) (y33 : Int32) (y34 : Int32), k20 M28 y29 y30 y31 y32 y33 y34 = some pp → Z p l e (rmo 0 0 0) s m args below meth c 8 G (MQ below (QC G (some (.int pp.1)) K pp.2) args s 0 0 (AG G)) K 0 0 M28 20 [(0, .ref (G.1 + 90)), (1, .int y29), (2, .int y30), (3, .int y31), (4, .int y32), (5, .int y33), (6, .int y34)] []) (M15 : MM) (y16 : Int32) (y17 : Int32) (y18 : Int32) (y19 : Int32) (y20 : Int32) (y21 : Int32) (y22 : Int32) (hf : fX12_feed_j73 k20 M15 y16 y17 y18 y19 y20 y21 y22 = some pp) : Z p l e (rmo 0 0 0) s m args below meth c 8 G (MQ below (QC G (some (.int pp.1)) K pp.2) args s 0 0 (AG G)) K 0 0 M15 73 [(0, .ref (G.1 + 90)), (1, .int y16), (2, .int y17), (3, .int y18), (4, .int y19), (5, .int y20), (6, .int y21)] [.int y22] := by
  unfold fX12_feed_j73 at hf
  refine z_istore C [(7, .int y22), (0, .ref (G.1 + 90)), (1, .int y16), (2, .int y17), (3, .int y18), (4, .int y19), (5, .int y20), (6, .int y21)] dX12_feed_73 (by decide) rfl rfl ?_
  refine z_aload_n C 1 0 dX12_feed_75 rfl rfl ?_
  refine z_getR C ok_X12 (lay_c90 hL) 0 (91) (by decide) rfl (lay_r90_0 hL) q_fl_X12_7 dX12_feed_76 ?_
  refine z_bipush C 10 dX12_feed_79 (by decide) ?_
  refine z_aload_n C 1 0 dX12_feed_81 rfl rfl ?_
  refine z_getR C ok_X12 (lay_c90 hL) 0 (91) (by decide) rfl (lay_r90_0 hL) q_fl_X12_7 dX12_feed_82 ?_
  refine z_iconst C 4 dX12_feed_85 (by decide) ?_
  refine z_iald C (lay_c91 hL) (inb_in (by decide)) dX12_feed_86 ?_
  refine z_iadd C dX12_feed_87 ?_
  refine z_iload C 0 dX12_feed_88 rfl ?_
  refine z_bipush C 24 dX12_feed_90 (by decide) ?_
  refine z_bipush C 8 dX12_feed_92 (by decide) ?_
  refine z_iload C 7 dX12_feed_94 rfl ?_
  refine z_iconst C 4 dX12_feed_96 (by decide) ?_
  refine z_irem C (by decide) dX12_feed_97 ?_
  refine z_imul C dX12_feed_98 ?_
  refine z_isub C dX12_feed_99 ?_
  refine z_ishr C dX12_feed_100 ?_
  refine z_sipush C 255 dX12_feed_101 (by decide) ?_
  refine z_iand C dX12_feed_104 ?_
  replace hf := gd_out hf
  obtain ⟨g23, hf⟩ := hf
  refine z_iast C (lay_c91 hL) (inb_in g23) dX12_feed_105 ?_
  refine z_M (fun M24 e25 => ?_)
  replace hf := bnd_out e25 hf
  refine z_aload_n C 1 0 dX12_feed_106 rfl rfl ?_
  refine z_getR C ok_X12 (lay_c90 hL) 0 (91) (by decide) rfl (lay_r90_0 hL) q_fl_X12_7 dX12_feed_107 ?_
  refine z_iconst C 4 dX12_feed_110 (by decide) ?_
  refine z_dup2 C rfl rfl dX12_feed_111 ?_
  refine z_iald C (lay_c91 hL) (inb_in (by decide)) dX12_feed_112 ?_
  refine z_iconst C 1 dX12_feed_113 (by decide) ?_
  refine z_iadd C dX12_feed_114 ?_
  refine z_iast C (lay_c91 hL) (inb_in (by decide)) dX12_feed_115 ?_
  refine z_M (fun M26 e27 => ?_)
  replace hf := bnd_out e27 hf
  refine z_iinc C 7 (y21 + 1) [(6, .int (y21 + 1)), (7, .int y22), (0, .ref (G.1 + 90)), (1, .int y16), (2, .int y17), (3, .int y18), (4, .int y19), (5, .int y20)] dX12_feed_116 rfl rfl (by decide) rfl rfl ?_
  refine z_goto C 20 dX12_feed_119 (by decide) ?_
  refine z_lv (lv2 := [(0, .ref (G.1 + 90)), (1, .int y16), (2, .int y17), (3, .int y18), (4, .int y19), (5, .int y20), (6, .int (y21 + 1))]) [2, 3, 4, 5, 6, 7, 0] rfl ?_
  exact hk20 M26 y16 y17 y18 y19 y20 (y21 + 1)  hf
set_option maxHeartbeats 4000000 in
set_option maxRecDepth 100000 in
theorem wX12_feed_l20 (C : CX p s m args meth c cX12_feed 8 (some .int) RX12 G) (hs0 : s.heap.size = G.1 + K.1) (hL : Lay K)  (k122 : MM → Option (Int32 × MM)) (pp : (Int32 × MM)) (hk122 : ∀ (M10 : MM), k122 M10 = some pp → Z p l e (rmo 0 0 0) s m args below meth c 8 G (MQ below (QC G (some (.int pp.1)) K pp.2) args s 0 0 (AG G)) K 0 0 M10 122 [(0, .ref (G.1 + 90))] []) : ∀ (n : Nat) (M2 : MM) (y3 : Int32) (y4 : Int32) (y5 : Int32) (y6 : Int32) (y7 : Int32) (y8 : Int32) (hf : fX12_feed_l20 k122 n M2 y3 y4 y5 y6 y7 y8 = some pp), Z p l e (rmo 0 0 0) s m args below meth c 8 G (MQ below (QC G (some (.int pp.1)) K pp.2) args s 0 0 (AG G)) K 0 0 M2 20 [(0, .ref (G.1 + 90)), (1, .int y3), (2, .int y4), (3, .int y5), (4, .int y6), (5, .int y7), (6, .int y8)] [] := by
  intro n
  induction n with
  | zero => intro M2 y3 y4 y5 y6 y7 y8 hf; exact nomatch (show (none : Option (Int32 × MM)) = some pp from hf)
  | succ n ih =>
    intro M2 y3 y4 y5 y6 y7 y8 hf
    rw [fX12_feed_l20.eq_2] at hf
    refine z_iload C 6 dX12_feed_20 rfl ?_
    refine z_bipush C 20 dX12_feed_22 (by decide) ?_
    refine z_icmp_ge C 122 dX12_feed_24 (by decide) (fun c9 => ?_) (fun c9 => ?_)
    · replace hf := ite_t c9 hf
      refine z_lv (lv2 := [(0, .ref (G.1 + 90))]) [0] rfl ?_
      exact hk122 M2  hf
    · replace hf := ite_f c9 hf
      refine z_iload C 6 dX12_feed_27 rfl ?_
      refine z_iconst C 4 dX12_feed_29 (by decide) ?_
      refine z_icmp_ge C 37 dX12_feed_30 (by decide) (fun c11 => ?_) (fun c11 => ?_)
      · replace hf := ite_t c11 hf
        refine z_iload C 6 dX12_feed_37 rfl ?_
        refine z_bipush C 8 dX12_feed_39 (by decide) ?_
        refine z_icmp_ge C 48 dX12_feed_41 (by decide) (fun c12 => ?_) (fun c12 => ?_)
        · replace hf := ite_t c12 hf
          refine z_iload C 6 dX12_feed_48 rfl ?_
          refine z_bipush C 12 dX12_feed_50 (by decide) ?_
          refine z_icmp_ge C 59 dX12_feed_52 (by decide) (fun c13 => ?_) (fun c13 => ?_)
          · replace hf := ite_t c13 hf
            refine z_iload C 6 dX12_feed_59 rfl ?_
            refine z_bipush C 16 dX12_feed_61 (by decide) ?_
            refine z_icmp_ge C 71 dX12_feed_63 (by decide) (fun c14 => ?_) (fun c14 => ?_)
            · replace hf := ite_t c14 hf
              refine z_iload C 5 dX12_feed_71 rfl ?_
              refine wX12_feed_j73 C hs0 hL _ pp ?_ M2 y3 y4 y5 y6 y7 y8 y7 hf
              · intro M35 y36 y37 y38 y39 y40 y41 hf
                exact ih M35 y36 y37 y38 y39 y40 y41  hf
            · replace hf := ite_f c14 hf
              refine z_iload C 4 dX12_feed_66 rfl ?_
              refine z_goto C 73 dX12_feed_68 (by decide) ?_
              refine wX12_feed_j73 C hs0 hL _ pp ?_ M2 y3 y4 y5 y6 y7 y8 y6 hf
              · intro M42 y43 y44 y45 y46 y47 y48 hf
                exact ih M42 y43 y44 y45 y46 y47 y48  hf
          · replace hf := ite_f c13 hf
            refine z_iload_n C 3 3 dX12_feed_55 rfl rfl ?_
            refine z_goto C 73 dX12_feed_56 (by decide) ?_
            refine wX12_feed_j73 C hs0 hL _ pp ?_ M2 y3 y4 y5 y6 y7 y8 y5 hf
            · intro M49 y50 y51 y52 y53 y54 y55 hf
              exact ih M49 y50 y51 y52 y53 y54 y55  hf
        · replace hf := ite_f c12 hf
          refine z_iload_n C 2 2 dX12_feed_44 rfl rfl ?_
          refine z_goto C 73 dX12_feed_45 (by decide) ?_
          refine wX12_feed_j73 C hs0 hL _ pp ?_ M2 y3 y4 y5 y6 y7 y8 y4 hf
          · intro M56 y57 y58 y59 y60 y61 y62 hf
            exact ih M56 y57 y58 y59 y60 y61 y62  hf
      · replace hf := ite_f c11 hf
        refine z_iload_n C 1 1 dX12_feed_33 rfl rfl ?_
        refine z_goto C 73 dX12_feed_34 (by decide) ?_
        refine wX12_feed_j73 C hs0 hL _ pp ?_ M2 y3 y4 y5 y6 y7 y8 y3 hf
        · intro M63 y64 y65 y66 y67 y68 y69 hf
          exact ih M63 y64 y65 y66 y67 y68 y69  hf
set_option maxHeartbeats 4000000 in
set_option maxRecDepth 100000 in
theorem tX12_feed (l : Launch) (G : GG) {K : SK} (hL : Lay K) (M : MM) (x1 : Int32) (x2 : Int32) (x3 : Int32) (x4 : Int32) (x5 : Int32) (pp : (Int32 × MM)) (hf : fX12_feed M x1 x2 x3 x4 x5 = some pp) : Ct l yX12_feed cX12_feed 8 (some .int) 0 0 0 G K M [.ref (G.1 + 90), .int x1, .int x2, .int x3, .int x4, .int x5] (some (.int pp.1)) K pp.2 := by
  refine z_enter (lv := [(0, .ref (G.1 + 90)), (1, .int x1), (2, .int x2), (3, .int x3), (4, .int x4), (5, .int x5)]) (by decide +kernel) (Nat.le_of_ble_eq_true rfl) rfl ?_
  intro p e s m args below meth c C hnm hs0
  replace C : CX p s m args meth c cX12_feed 8 (some .int) RX12 G := C
  unfold fX12_feed at hf
  refine z_aload_n C 0 0 dX12_feed_0 rfl rfl ?_
  refine z_getR C ok_X12 (lay_c90 hL) 0 (91) (by decide) rfl (lay_r90_0 hL) q_fl_X12_7 dX12_feed_1 ?_
  refine z_iconst C 4 dX12_feed_4 (by decide) ?_
  refine z_iald C (lay_c91 hL) (inb_in (by decide)) dX12_feed_5 ?_
  refine z_bipush C 20 dX12_feed_6 (by decide) ?_
  refine z_iadd C dX12_feed_8 ?_
  refine z_sipush C 600 dX12_feed_9 (by decide) ?_
  refine z_icmp_le C 17 dX12_feed_12 (by decide) (fun c1 => ?_) (fun c1 => ?_)
  · replace hf := ite_t c1 hf
    refine z_iconst C 0 dX12_feed_17 (by decide) ?_
    refine z_istore C [(6, .int 0), (0, .ref (G.1 + 90)), (1, .int x1), (2, .int x2), (3, .int x3), (4, .int x4), (5, .int x5)] dX12_feed_18 (by decide) rfl rfl ?_
    refine z_lv (lv2 := [(0, .ref (G.1 + 90)), (1, .int x1), (2, .int x2), (3, .int x3), (4, .int x4), (5, .int x5), (6, .int 0)]) [1, 2, 3, 4, 5, 6, 0] rfl ?_
    refine wX12_feed_l20 C hs0 hL _ pp ?_ FU M x1 x2 x3 x4 x5 0 hf
    · intro M70 hf
      refine z_aload_n C 0 0 dX12_feed_122 rfl rfl ?_
      refine z_getR C ok_X12 (lay_c90 hL) 0 (91) (by decide) rfl (lay_r90_0 hL) q_fl_X12_7 dX12_feed_123 ?_
      refine z_iconst C 4 dX12_feed_126 (by decide) ?_
      refine z_iald C (lay_c91 hL) (inb_in (by decide)) dX12_feed_127 ?_
      cases hf
      exact z_iret C rfl dX12_feed_128
  · replace hf := ite_f c1 hf
    refine z_iconst C (-1) dX12_feed_15 (by decide) ?_
    cases hf
    exact z_iret C rfl dX12_feed_16
set_option maxHeartbeats 4000000 in
set_option maxRecDepth 100000 in
theorem tX12_end (l : Launch) (G : GG) {K : SK} (hL : Lay K) (M : MM) (x1 : Int32) (pp : (Int32 × MM)) (hf : fX12_end M x1 = some pp) : Ct l yX12_end cX12_end 2 (some .int) 0 0 0 G K M [.ref (G.1 + 90), .int x1] (some (.int pp.1)) K pp.2 := by
  refine z_enter (lv := [(0, .ref (G.1 + 90)), (1, .int x1)]) (by decide +kernel) (Nat.le_of_ble_eq_true rfl) rfl ?_
  intro p e s m args below meth c C hnm hs0
  replace C : CX p s m args meth c cX12_end 2 (some .int) RX12 G := C
  unfold fX12_end at hf
  refine z_iload_n C 1 1 dX12_end_0 rfl rfl ?_
  refine z_if_lt C 14 dX12_end_1 (by decide) (fun c1 => ?_) (fun c1 => ?_)
  · replace hf := ite_t c1 hf
    refine z_iconst C (-1) dX12_end_14 (by decide) ?_
    cases hf
    exact z_iret C rfl dX12_end_15
  · replace hf := ite_f c1 hf
    refine z_iload_n C 1 1 dX12_end_4 rfl rfl ?_
    refine z_aload_n C 0 0 dX12_end_5 rfl rfl ?_
    refine z_getR C ok_X12 (lay_c90 hL) 0 (91) (by decide) rfl (lay_r90_0 hL) q_fl_X12_7 dX12_end_6 ?_
    refine z_iconst C 4 dX12_end_9 (by decide) ?_
    refine z_iald C (lay_c91 hL) (inb_in (by decide)) dX12_end_10 ?_
    refine z_icmp_le C 16 dX12_end_11 (by decide) (fun c2 => ?_) (fun c2 => ?_)
    · replace hf := ite_t c2 hf
      refine z_aload_n C 0 0 dX12_end_16 rfl rfl ?_
      refine z_getR C ok_X12 (lay_c90 hL) 0 (91) (by decide) rfl (lay_r90_0 hL) q_fl_X12_7 dX12_end_17 ?_
      refine z_iconst C 4 dX12_end_20 (by decide) ?_
      refine z_iload_n C 1 1 dX12_end_21 rfl rfl ?_
      refine z_iast C (lay_c91 hL) (inb_in (by decide)) dX12_end_22 ?_
      refine z_M (fun M3 e4 => ?_)
      replace hf := bnd_out e4 hf
      refine z_iload_n C 1 1 dX12_end_23 rfl rfl ?_
      cases hf
      exact z_iret C rfl dX12_end_24
    · replace hf := ite_f c2 hf
      refine z_iconst C (-1) dX12_end_14 (by decide) ?_
      cases hf
      exact z_iret C rfl dX12_end_15
set_option maxHeartbeats 4000000 in
set_option maxRecDepth 100000 in
theorem tX12_byteAt (l : Launch) (G : GG) {K : SK} (hL : Lay K) (M : MM) (x1 : Int32) (pp : Int32) (hf : fX12_byteAt M x1 = some pp) : Ct l yX12_byteAt cX12_byteAt 2 (some .int) 0 0 0 G K M [.ref (G.1 + 90), .int x1] (some (.int pp)) K M := by
  refine z_enter (lv := [(0, .ref (G.1 + 90)), (1, .int x1)]) (by decide +kernel) (Nat.le_of_ble_eq_true rfl) rfl ?_
  intro p e s m args below meth c C hnm hs0
  replace C : CX p s m args meth c cX12_byteAt 2 (some .int) RX12 G := C
  unfold fX12_byteAt at hf
  refine z_iload_n C 1 1 dX12_byteAt_0 rfl rfl ?_
  refine z_aload_n C 0 0 dX12_byteAt_1 rfl rfl ?_
  refine z_getI C ok_X12 (lay_c90 hL) 2 (by decide) rfl q_fl_X12_83 dX12_byteAt_2 ?_
  refine z_icmp_ge C 20 dX12_byteAt_5 (by decide) (fun c1 => ?_) (fun c1 => ?_)
  · replace hf := ite_t c1 hf
    refine z_iconst C (-1) dX12_byteAt_20 (by decide) ?_
    cases hf
    exact z_iret C rfl dX12_byteAt_21
  · replace hf := ite_f c1 hf
    refine z_aload_n C 0 0 dX12_byteAt_8 rfl rfl ?_
    refine z_getR C ok_X12 (lay_c90 hL) 0 (91) (by decide) rfl (lay_r90_0 hL) q_fl_X12_7 dX12_byteAt_9 ?_
    refine z_bipush C 10 dX12_byteAt_12 (by decide) ?_
    refine z_iload_n C 1 1 dX12_byteAt_14 rfl rfl ?_
    refine z_iadd C dX12_byteAt_15 ?_
    replace hf := gd_out hf
    obtain ⟨g2, hf⟩ := hf
    refine z_iald C (lay_c91 hL) (inb_in g2) dX12_byteAt_16 ?_
    refine z_goto C 21 dX12_byteAt_17 (by decide) ?_
    cases hf
    exact z_iret C rfl dX12_byteAt_21
set_option maxHeartbeats 4000000 in
set_option maxRecDepth 100000 in
theorem tX12_isLetter (l : Launch) (G : GG) {K : SK} (hL : Lay K) (M : MM) (x0 : Int32) : Ct l yX12_isLetter cX12_isLetter 1 (some .boolean) 0 0 0 G K M [.int x0] (some (.int (fX12_isLetter x0))) K M := by
  generalize hf : fX12_isLetter x0 = pp
  refine z_enter (lv := [(0, .int x0)]) (by decide +kernel) (Nat.le_of_ble_eq_true rfl) rfl ?_
  intro p e s m args below meth c C hnm hs0
  replace C : CX p s m args meth c cX12_isLetter 1 (some .boolean) RX12 G := C
  unfold fX12_isLetter at hf
  refine z_iload_n C 0 0 dX12_isLetter_0 rfl rfl ?_
  refine z_bipush C 97 dX12_isLetter_1 (by decide) ?_
  refine z_icmp_lt C 16 dX12_isLetter_3 (by decide) (fun c1 => ?_) (fun c1 => ?_)
  · replace hf := ite_t c1 hf
    refine z_iconst C 0 dX12_isLetter_16 (by decide) ?_
    cases hf
    exact z_zret C rfl nb0 dX12_isLetter_17
  · replace hf := ite_f c1 hf
    refine z_iload_n C 0 0 dX12_isLetter_6 rfl rfl ?_
    refine z_bipush C 122 dX12_isLetter_7 (by decide) ?_
    refine z_icmp_gt C 16 dX12_isLetter_9 (by decide) (fun c2 => ?_) (fun c2 => ?_)
    · replace hf := ite_t c2 hf
      refine z_iconst C 0 dX12_isLetter_16 (by decide) ?_
      cases hf
      exact z_zret C rfl nb0 dX12_isLetter_17
    · replace hf := ite_f c2 hf
      refine z_iconst C 1 dX12_isLetter_12 (by decide) ?_
      refine z_goto C 17 dX12_isLetter_13 (by decide) ?_
      cases hf
      exact z_zret C rfl nb1 dX12_isLetter_17
set_option maxHeartbeats 4000000 in
set_option maxRecDepth 100000 in
theorem tX12_isDigit (l : Launch) (G : GG) {K : SK} (hL : Lay K) (M : MM) (x0 : Int32) : Ct l yX12_isDigit cX12_isDigit 1 (some .boolean) 0 0 0 G K M [.int x0] (some (.int (fX12_isDigit x0))) K M := by
  generalize hf : fX12_isDigit x0 = pp
  refine z_enter (lv := [(0, .int x0)]) (by decide +kernel) (Nat.le_of_ble_eq_true rfl) rfl ?_
  intro p e s m args below meth c C hnm hs0
  replace C : CX p s m args meth c cX12_isDigit 1 (some .boolean) RX12 G := C
  unfold fX12_isDigit at hf
  refine z_iload_n C 0 0 dX12_isDigit_0 rfl rfl ?_
  refine z_bipush C 48 dX12_isDigit_1 (by decide) ?_
  refine z_icmp_lt C 16 dX12_isDigit_3 (by decide) (fun c1 => ?_) (fun c1 => ?_)
  · replace hf := ite_t c1 hf
    refine z_iconst C 0 dX12_isDigit_16 (by decide) ?_
    cases hf
    exact z_zret C rfl nb0 dX12_isDigit_17
  · replace hf := ite_f c1 hf
    refine z_iload_n C 0 0 dX12_isDigit_6 rfl rfl ?_
    refine z_bipush C 57 dX12_isDigit_7 (by decide) ?_
    refine z_icmp_gt C 16 dX12_isDigit_9 (by decide) (fun c2 => ?_) (fun c2 => ?_)
    · replace hf := ite_t c2 hf
      refine z_iconst C 0 dX12_isDigit_16 (by decide) ?_
      cases hf
      exact z_zret C rfl nb0 dX12_isDigit_17
    · replace hf := ite_f c2 hf
      refine z_iconst C 1 dX12_isDigit_12 (by decide) ?_
      refine z_goto C 17 dX12_isDigit_13 (by decide) ?_
      cases hf
      exact z_zret C rfl nb1 dX12_isDigit_17
set_option maxHeartbeats 4000000 in
set_option maxRecDepth 100000 in
theorem tX12_four (l : Launch) (G : GG) {K : SK} (hL : Lay K) (M : MM) (x0 : Int32) (x1 : Int32) (x2 : Int32) (x3 : Int32) : Ct l yX12_four cX12_four 4 (some .long) 0 0 0 G K M [.int x0, .int x1, .int x2, .int x3] (some (.long (fX12_four x0 x1 x2 x3))) K M := by
  generalize hf : fX12_four x0 x1 x2 x3 = pp
  refine z_enter (lv := [(0, .int x0), (1, .int x1), (2, .int x2), (3, .int x3)]) (by decide +kernel) (Nat.le_of_ble_eq_true rfl) rfl ?_
  intro p e s m args below meth c C hnm hs0
  replace C : CX p s m args meth c cX12_four 4 (some .long) RX12 G := C
  unfold fX12_four at hf
  refine z_iload_n C 0 0 dX12_four_0 rfl rfl ?_
  refine z_bipush C 32 dX12_four_1 (by decide) ?_
  refine z_imul C dX12_four_3 ?_
  refine z_iload_n C 1 1 dX12_four_4 rfl rfl ?_
  refine z_iadd C dX12_four_5 ?_
  refine z_bipush C 32 dX12_four_6 (by decide) ?_
  refine z_imul C dX12_four_8 ?_
  refine z_iload_n C 2 2 dX12_four_9 rfl rfl ?_
  refine z_iadd C dX12_four_10 ?_
  refine z_bipush C 32 dX12_four_11 (by decide) ?_
  refine z_imul C dX12_four_13 ?_
  refine z_iload_n C 3 3 dX12_four_14 rfl rfl ?_
  refine z_iadd C dX12_four_15 ?_
  refine z_i2l C dX12_four_16 ?_
  cases hf
  exact z_lret C rfl dX12_four_17
set_option maxHeartbeats 4000000 in
set_option maxRecDepth 100000 in
theorem tX12_eight (l : Launch) (G : GG) {K : SK} (hL : Lay K) (M : MM) (x0 : Int32) (x1 : Int32) (x2 : Int32) (x3 : Int32) (x4 : Int32) (x5 : Int32) (x6 : Int32) (x7 : Int32) : Ct l yX12_eight cX12_eight 8 (some .long) 1 0 0 G K M [.int x0, .int x1, .int x2, .int x3, .int x4, .int x5, .int x6, .int x7] (some (.long (fX12_eight x0 x1 x2 x3 x4 x5 x6 x7))) K M := by
  generalize hf : fX12_eight x0 x1 x2 x3 x4 x5 x6 x7 = pp
  refine z_enter (lv := [(0, .int x0), (1, .int x1), (2, .int x2), (3, .int x3), (4, .int x4), (5, .int x5), (6, .int x6), (7, .int x7)]) (by decide +kernel) (Nat.le_of_ble_eq_true rfl) rfl ?_
  intro p e s m args below meth c C hnm hs0
  replace C : CX p s m args meth c cX12_eight 8 (some .long) RX12 G := C
  unfold fX12_eight at hf
  refine z_iload_n C 0 0 dX12_eight_0 rfl rfl ?_
  refine z_iload_n C 1 1 dX12_eight_1 rfl rfl ?_
  refine z_iload_n C 2 2 dX12_eight_2 rfl rfl ?_
  refine z_iload_n C 3 3 dX12_eight_3 rfl rfl ?_
  refine z_cS1 C [] (tX12_four l G hL M x0 x1 x2 x3) lk_X12_four q_ml_X12_87 rfl ⟨Nat.le_of_ble_eq_true rfl, Nat.le_of_ble_eq_true rfl⟩ rfl (Nat.le_of_ble_eq_true rfl) ⟨Nat.le_refl _, Nat.le_refl _⟩ dX12_eight_4 ?_
  refine z_ldc2 C 1048576 q_cl_X12_91 dX12_eight_7 ?_
  refine z_lmul C dX12_eight_10 ?_
  refine z_iload C 4 dX12_eight_11 rfl ?_
  refine z_iload C 5 dX12_eight_13 rfl ?_
  refine z_iload C 6 dX12_eight_15 rfl ?_
  refine z_iload C 7 dX12_eight_17 rfl ?_
  refine z_cS1 C [.long ((fX12_four x0 x1 x2 x3) * 1048576)] (tX12_four l G hL M x4 x5 x6 x7) lk_X12_four q_ml_X12_87 rfl ⟨Nat.le_of_ble_eq_true rfl, Nat.le_of_ble_eq_true rfl⟩ rfl (Nat.le_of_ble_eq_true rfl) ⟨Nat.le_refl _, Nat.le_refl _⟩ dX12_eight_19 ?_
  refine z_ladd C dX12_eight_22 ?_
  cases hf
  exact z_lret C rfl dX12_eight_23
set_option maxHeartbeats 4000000 in
set_option maxRecDepth 100000 in
theorem tX12_otherWord (l : Launch) (G : GG) {K : SK} (hL : Lay K) (M : MM) (x0 : Int64) : Ct l yX12_otherWord cX12_otherWord 2 (some .int) 2 0 0 G K M [.long x0] (some (.int (fX12_otherWord x0))) K M := by
  generalize hf : fX12_otherWord x0 = pp
  refine z_enter (lv := [(0, .long x0)]) (by decide +kernel) (Nat.le_of_ble_eq_true rfl) rfl ?_
  intro p e s m args below meth c C hnm hs0
  replace C : CX p s m args meth c cX12_otherWord 2 (some .int) RX12 G := C
  unfold fX12_otherWord at hf
  refine z_lload_n C 0 0 dX12_otherWord_0 rfl rfl ?_
  refine z_iconst C 0 dX12_otherWord_1 (by decide) ?_
  refine z_iconst C 0 dX12_otherWord_2 (by decide) ?_
  refine z_bipush C 7 dX12_otherWord_3 (by decide) ?_
  refine z_bipush C 15 dX12_otherWord_5 (by decide) ?_
  refine z_cS1 C [.long x0] (tX12_four l G hL M 0 0 7 15) lk_X12_four q_ml_X12_87 rfl ⟨Nat.le_of_ble_eq_true rfl, Nat.le_of_ble_eq_true rfl⟩ rfl (Nat.le_of_ble_eq_true rfl) ⟨Nat.le_refl _, Nat.le_refl _⟩ dX12_otherWord_7 ?_
  refine z_lcmp C dX12_otherWord_10 ?_
  refine z_if_ne C 17 dX12_otherWord_11 (by decide) (fun c1 => ?_) (fun c1 => ?_)
  · replace hf := ite_f c1 hf
    refine z_lload_n C 0 0 dX12_otherWord_17 rfl rfl ?_
    refine z_bipush C 20 dX12_otherWord_18 (by decide) ?_
    refine z_bipush C 21 dX12_otherWord_20 (by decide) ?_
    refine z_bipush C 18 dX12_otherWord_22 (by decide) ?_
    refine z_bipush C 14 dX12_otherWord_24 (by decide) ?_
    refine z_cS1 C [.long x0] (tX12_four l G hL M 20 21 18 14) lk_X12_four q_ml_X12_87 rfl ⟨Nat.le_of_ble_eq_true rfl, Nat.le_of_ble_eq_true rfl⟩ rfl (Nat.le_of_ble_eq_true rfl) ⟨Nat.le_refl _, Nat.le_refl _⟩ dX12_otherWord_26 ?_
    refine z_lcmp C dX12_otherWord_29 ?_
    refine z_if_ne C 36 dX12_otherWord_30 (by decide) (fun c2 => ?_) (fun c2 => ?_)
    · replace hf := ite_f c2 hf
      refine z_lload_n C 0 0 dX12_otherWord_36 rfl rfl ?_
      refine z_bipush C 19 dX12_otherWord_37 (by decide) ?_
      refine z_bipush C 20 dX12_otherWord_39 (by decide) ?_
      refine z_bipush C 9 dX12_otherWord_41 (by decide) ?_
      refine z_bipush C 18 dX12_otherWord_43 (by decide) ?_
      refine z_cS1 C [.long x0] (tX12_four l G hL M 19 20 9 18) lk_X12_four q_ml_X12_87 rfl ⟨Nat.le_of_ble_eq_true rfl, Nat.le_of_ble_eq_true rfl⟩ rfl (Nat.le_of_ble_eq_true rfl) ⟨Nat.le_refl _, Nat.le_refl _⟩ dX12_otherWord_45 ?_
      refine z_lcmp C dX12_otherWord_48 ?_
      refine z_if_ne C 55 dX12_otherWord_49 (by decide) (fun c3 => ?_) (fun c3 => ?_)
      · replace hf := ite_f c3 hf
        refine z_lload_n C 0 0 dX12_otherWord_55 rfl rfl ?_
        refine z_iconst C 3 dX12_otherWord_56 (by decide) ?_
        refine z_iconst C 1 dX12_otherWord_57 (by decide) ?_
        refine z_bipush C 12 dX12_otherWord_58 (by decide) ?_
        refine z_bipush C 13 dX12_otherWord_60 (by decide) ?_
        refine z_cS1 C [.long x0] (tX12_four l G hL M 3 1 12 13) lk_X12_four q_ml_X12_87 rfl ⟨Nat.le_of_ble_eq_true rfl, Nat.le_of_ble_eq_true rfl⟩ rfl (Nat.le_of_ble_eq_true rfl) ⟨Nat.le_refl _, Nat.le_refl _⟩ dX12_otherWord_62 ?_
        refine z_lcmp C dX12_otherWord_65 ?_
        refine z_if_ne C 72 dX12_otherWord_66 (by decide) (fun c4 => ?_) (fun c4 => ?_)
        · replace hf := ite_f c4 hf
          refine z_lload_n C 0 0 dX12_otherWord_72 rfl rfl ?_
          refine z_iconst C 0 dX12_otherWord_73 (by decide) ?_
          refine z_iconst C 0 dX12_otherWord_74 (by decide) ?_
          refine z_iconst C 0 dX12_otherWord_75 (by decide) ?_
          refine z_iconst C 3 dX12_otherWord_76 (by decide) ?_
          refine z_bipush C 15 dX12_otherWord_77 (by decide) ?_
          refine z_bipush C 21 dX12_otherWord_79 (by decide) ?_
          refine z_bipush C 14 dX12_otherWord_81 (by decide) ?_
          refine z_bipush C 20 dX12_otherWord_83 (by decide) ?_
          refine z_cS1 C [.long x0] (tX12_eight l G hL M 0 0 0 3 15 21 14 20) lk_X12_eight q_ml_X12_93 rfl ⟨Nat.le_of_ble_eq_true rfl, Nat.le_of_ble_eq_true rfl⟩ rfl (Nat.le_of_ble_eq_true rfl) ⟨Nat.le_refl _, Nat.le_refl _⟩ dX12_otherWord_85 ?_
          refine z_lcmp C dX12_otherWord_88 ?_
          refine z_if_ne C 95 dX12_otherWord_89 (by decide) (fun c5 => ?_) (fun c5 => ?_)
          · replace hf := ite_f c5 hf
            refine z_lload_n C 0 0 dX12_otherWord_95 rfl rfl ?_
            refine z_bipush C 20 dX12_otherWord_96 (by decide) ?_
            refine z_bipush C 15 dX12_otherWord_98 (by decide) ?_
            refine z_bipush C 12 dX12_otherWord_100 (by decide) ?_
            refine z_iconst C 4 dX12_otherWord_102 (by decide) ?_
            refine z_cS1 C [.long x0] (tX12_four l G hL M 20 15 12 4) lk_X12_four q_ml_X12_87 rfl ⟨Nat.le_of_ble_eq_true rfl, Nat.le_of_ble_eq_true rfl⟩ rfl (Nat.le_of_ble_eq_true rfl) ⟨Nat.le_refl _, Nat.le_refl _⟩ dX12_otherWord_103 ?_
            refine z_lcmp C dX12_otherWord_106 ?_
            refine z_if_ne C 113 dX12_otherWord_107 (by decide) (fun c6 => ?_) (fun c6 => ?_)
            · replace hf := ite_f c6 hf
              refine z_lload_n C 0 0 dX12_otherWord_113 rfl rfl ?_
              refine z_iconst C 0 dX12_otherWord_114 (by decide) ?_
              refine z_iconst C 0 dX12_otherWord_115 (by decide) ?_
              refine z_iconst C 0 dX12_otherWord_116 (by decide) ?_
              refine z_bipush C 19 dX12_otherWord_117 (by decide) ?_
              refine z_bipush C 12 dX12_otherWord_119 (by decide) ?_
              refine z_bipush C 9 dX12_otherWord_121 (by decide) ?_
              refine z_bipush C 16 dX12_otherWord_123 (by decide) ?_
              refine z_bipush C 19 dX12_otherWord_125 (by decide) ?_
              refine z_cS1 C [.long x0] (tX12_eight l G hL M 0 0 0 19 12 9 16 19) lk_X12_eight q_ml_X12_93 rfl ⟨Nat.le_of_ble_eq_true rfl, Nat.le_of_ble_eq_true rfl⟩ rfl (Nat.le_of_ble_eq_true rfl) ⟨Nat.le_refl _, Nat.le_refl _⟩ dX12_otherWord_127 ?_
              refine z_lcmp C dX12_otherWord_130 ?_
              refine z_if_ne C 139 dX12_otherWord_131 (by decide) (fun c7 => ?_) (fun c7 => ?_)
              · replace hf := ite_f c7 hf
                refine z_bipush C 99 dX12_otherWord_139 (by decide) ?_
                cases hf
                exact z_iret C rfl dX12_otherWord_141
              · replace hf := ite_t c7 hf
                refine z_bipush C 20 dX12_otherWord_134 (by decide) ?_
                refine z_goto C 141 dX12_otherWord_136 (by decide) ?_
                cases hf
                exact z_iret C rfl dX12_otherWord_141
            · replace hf := ite_t c6 hf
              refine z_bipush C 19 dX12_otherWord_110 (by decide) ?_
              cases hf
              exact z_iret C rfl dX12_otherWord_112
          · replace hf := ite_t c5 hf
            refine z_bipush C 18 dX12_otherWord_92 (by decide) ?_
            cases hf
            exact z_iret C rfl dX12_otherWord_94
        · replace hf := ite_t c4 hf
          refine z_bipush C 17 dX12_otherWord_69 (by decide) ?_
          cases hf
          exact z_iret C rfl dX12_otherWord_71
      · replace hf := ite_t c3 hf
        refine z_bipush C 16 dX12_otherWord_52 (by decide) ?_
        cases hf
        exact z_iret C rfl dX12_otherWord_54
    · replace hf := ite_t c2 hf
      refine z_bipush C 15 dX12_otherWord_33 (by decide) ?_
      cases hf
      exact z_iret C rfl dX12_otherWord_35
  · replace hf := ite_t c1 hf
    refine z_bipush C 14 dX12_otherWord_14 (by decide) ?_
    cases hf
    exact z_iret C rfl dX12_otherWord_16
set_option maxHeartbeats 4000000 in
set_option maxRecDepth 100000 in
theorem tX12_wordOf (l : Launch) (G : GG) {K : SK} (hL : Lay K) (M : MM) (x0 : Int64) : Ct l yX12_wordOf cX12_wordOf 2 (some .int) 3 0 0 G K M [.long x0] (some (.int (fX12_wordOf x0))) K M := by
  generalize hf : fX12_wordOf x0 = pp
  refine z_enter (lv := [(0, .long x0)]) (by decide +kernel) (Nat.le_of_ble_eq_true rfl) rfl ?_
  intro p e s m args below meth c C hnm hs0
  replace C : CX p s m args meth c cX12_wordOf 2 (some .int) RX12 G := C
  unfold fX12_wordOf at hf
  refine z_lload_n C 0 0 dX12_wordOf_0 rfl rfl ?_
  refine z_bipush C 19 dX12_wordOf_1 (by decide) ?_
  refine z_bipush C 9 dX12_wordOf_3 (by decide) ?_
  refine z_bipush C 26 dX12_wordOf_5 (by decide) ?_
  refine z_iconst C 5 dX12_wordOf_7 (by decide) ?_
  refine z_cS1 C [.long x0] (tX12_four l G hL M 19 9 26 5) lk_X12_four q_ml_X12_87 rfl ⟨Nat.le_of_ble_eq_true rfl, Nat.le_of_ble_eq_true rfl⟩ rfl (Nat.le_of_ble_eq_true rfl) ⟨Nat.le_refl _, Nat.le_refl _⟩ dX12_wordOf_8 ?_
  refine z_lcmp C dX12_wordOf_11 ?_
  refine z_if_ne C 17 dX12_wordOf_12 (by decide) (fun c1 => ?_) (fun c1 => ?_)
  · replace hf := ite_f c1 hf
    refine z_lload_n C 0 0 dX12_wordOf_17 rfl rfl ?_
    refine z_bipush C 23 dX12_wordOf_18 (by decide) ?_
    refine z_iconst C 1 dX12_wordOf_20 (by decide) ?_
    refine z_bipush C 12 dX12_wordOf_21 (by decide) ?_
    refine z_bipush C 12 dX12_wordOf_23 (by decide) ?_
    refine z_cS1 C [.long x0] (tX12_four l G hL M 23 1 12 12) lk_X12_four q_ml_X12_87 rfl ⟨Nat.le_of_ble_eq_true rfl, Nat.le_of_ble_eq_true rfl⟩ rfl (Nat.le_of_ble_eq_true rfl) ⟨Nat.le_refl _, Nat.le_refl _⟩ dX12_wordOf_25 ?_
    refine z_lcmp C dX12_wordOf_28 ?_
    refine z_if_ne C 34 dX12_wordOf_29 (by decide) (fun c2 => ?_) (fun c2 => ?_)
    · replace hf := ite_f c2 hf
      refine z_lload_n C 0 0 dX12_wordOf_34 rfl rfl ?_
      refine z_iconst C 0 dX12_wordOf_35 (by decide) ?_
      refine z_iconst C 0 dX12_wordOf_36 (by decide) ?_
      refine z_bipush C 16 dX12_wordOf_37 (by decide) ?_
      refine z_iconst C 5 dX12_wordOf_39 (by decide) ?_
      refine z_bipush C 18 dX12_wordOf_40 (by decide) ?_
      refine z_bipush C 19 dX12_wordOf_42 (by decide) ?_
      refine z_bipush C 15 dX12_wordOf_44 (by decide) ?_
      refine z_bipush C 14 dX12_wordOf_46 (by decide) ?_
      refine z_cS1 C [.long x0] (tX12_eight l G hL M 0 0 16 5 18 19 15 14) lk_X12_eight q_ml_X12_93 rfl ⟨Nat.le_of_ble_eq_true rfl, Nat.le_of_ble_eq_true rfl⟩ rfl (Nat.le_of_ble_eq_true rfl) ⟨Nat.le_refl _, Nat.le_refl _⟩ dX12_wordOf_48 ?_
      refine z_lcmp C dX12_wordOf_51 ?_
      refine z_if_ne C 57 dX12_wordOf_52 (by decide) (fun c3 => ?_) (fun c3 => ?_)
      · replace hf := ite_f c3 hf
        refine z_lload_n C 0 0 dX12_wordOf_57 rfl rfl ?_
        refine z_bipush C 16 dX12_wordOf_58 (by decide) ?_
        refine z_bipush C 15 dX12_wordOf_60 (by decide) ?_
        refine z_bipush C 14 dX12_wordOf_62 (by decide) ?_
        refine z_iconst C 4 dX12_wordOf_64 (by decide) ?_
        refine z_cS1 C [.long x0] (tX12_four l G hL M 16 15 14 4) lk_X12_four q_ml_X12_87 rfl ⟨Nat.le_of_ble_eq_true rfl, Nat.le_of_ble_eq_true rfl⟩ rfl (Nat.le_of_ble_eq_true rfl) ⟨Nat.le_refl _, Nat.le_refl _⟩ dX12_wordOf_65 ?_
        refine z_lcmp C dX12_wordOf_68 ?_
        refine z_if_ne C 74 dX12_wordOf_69 (by decide) (fun c4 => ?_) (fun c4 => ?_)
        · replace hf := ite_f c4 hf
          refine z_lload_n C 0 0 dX12_wordOf_74 rfl rfl ?_
          refine z_iconst C 0 dX12_wordOf_75 (by decide) ?_
          refine z_iconst C 0 dX12_wordOf_76 (by decide) ?_
          refine z_iconst C 0 dX12_wordOf_77 (by decide) ?_
          refine z_bipush C 19 dX12_wordOf_78 (by decide) ?_
          refine z_bipush C 16 dX12_wordOf_80 (by decide) ?_
          refine z_bipush C 15 dX12_wordOf_82 (by decide) ?_
          refine z_bipush C 15 dX12_wordOf_84 (by decide) ?_
          refine z_bipush C 14 dX12_wordOf_86 (by decide) ?_
          refine z_cS1 C [.long x0] (tX12_eight l G hL M 0 0 0 19 16 15 15 14) lk_X12_eight q_ml_X12_93 rfl ⟨Nat.le_of_ble_eq_true rfl, Nat.le_of_ble_eq_true rfl⟩ rfl (Nat.le_of_ble_eq_true rfl) ⟨Nat.le_refl _, Nat.le_refl _⟩ dX12_wordOf_88 ?_
          refine z_lcmp C dX12_wordOf_91 ?_
          refine z_if_ne C 97 dX12_wordOf_92 (by decide) (fun c5 => ?_) (fun c5 => ?_)
          · replace hf := ite_f c5 hf
            refine z_lload_n C 0 0 dX12_wordOf_97 rfl rfl ?_
            refine z_iconst C 0 dX12_wordOf_98 (by decide) ?_
            refine z_iconst C 0 dX12_wordOf_99 (by decide) ?_
            refine z_bipush C 13 dX12_wordOf_100 (by decide) ?_
            refine z_bipush C 9 dX12_wordOf_102 (by decide) ?_
            refine z_bipush C 18 dX12_wordOf_104 (by decide) ?_
            refine z_bipush C 18 dX12_wordOf_106 (by decide) ?_
            refine z_bipush C 15 dX12_wordOf_108 (by decide) ?_
            refine z_bipush C 18 dX12_wordOf_110 (by decide) ?_
            refine z_cS1 C [.long x0] (tX12_eight l G hL M 0 0 13 9 18 18 15 18) lk_X12_eight q_ml_X12_93 rfl ⟨Nat.le_of_ble_eq_true rfl, Nat.le_of_ble_eq_true rfl⟩ rfl (Nat.le_of_ble_eq_true rfl) ⟨Nat.le_refl _, Nat.le_refl _⟩ dX12_wordOf_112 ?_
            refine z_lcmp C dX12_wordOf_115 ?_
            refine z_if_ne C 122 dX12_wordOf_116 (by decide) (fun c6 => ?_) (fun c6 => ?_)
            · replace hf := ite_f c6 hf
              refine z_lload_n C 0 0 dX12_wordOf_122 rfl rfl ?_
              refine z_iconst C 0 dX12_wordOf_123 (by decide) ?_
              refine z_iconst C 5 dX12_wordOf_124 (by decide) ?_
              refine z_bipush C 25 dX12_wordOf_125 (by decide) ?_
              refine z_iconst C 5 dX12_wordOf_127 (by decide) ?_
              refine z_cS1 C [.long x0] (tX12_four l G hL M 0 5 25 5) lk_X12_four q_ml_X12_87 rfl ⟨Nat.le_of_ble_eq_true rfl, Nat.le_of_ble_eq_true rfl⟩ rfl (Nat.le_of_ble_eq_true rfl) ⟨Nat.le_refl _, Nat.le_refl _⟩ dX12_wordOf_128 ?_
              refine z_lcmp C dX12_wordOf_131 ?_
              refine z_if_ne C 138 dX12_wordOf_132 (by decide) (fun c7 => ?_) (fun c7 => ?_)
              · replace hf := ite_f c7 hf
                refine z_lload_n C 0 0 dX12_wordOf_138 rfl rfl ?_
                refine z_iconst C 0 dX12_wordOf_139 (by decide) ?_
                refine z_iconst C 3 dX12_wordOf_140 (by decide) ?_
                refine z_bipush C 15 dX12_wordOf_141 (by decide) ?_
                refine z_bipush C 21 dX12_wordOf_143 (by decide) ?_
                refine z_bipush C 19 dX12_wordOf_145 (by decide) ?_
                refine z_bipush C 9 dX12_wordOf_147 (by decide) ?_
                refine z_bipush C 14 dX12_wordOf_149 (by decide) ?_
                refine z_bipush C 19 dX12_wordOf_151 (by decide) ?_
                refine z_cS1 C [.long x0] (tX12_eight l G hL M 0 3 15 21 19 9 14 19) lk_X12_eight q_ml_X12_93 rfl ⟨Nat.le_of_ble_eq_true rfl, Nat.le_of_ble_eq_true rfl⟩ rfl (Nat.le_of_ble_eq_true rfl) ⟨Nat.le_refl _, Nat.le_refl _⟩ dX12_wordOf_153 ?_
                refine z_lcmp C dX12_wordOf_156 ?_
                refine z_if_ne C 163 dX12_wordOf_157 (by decide) (fun c8 => ?_) (fun c8 => ?_)
                · replace hf := ite_f c8 hf
                  refine z_lload_n C 0 0 dX12_wordOf_163 rfl rfl ?_
                  refine z_iconst C 0 dX12_wordOf_164 (by decide) ?_
                  refine z_iconst C 0 dX12_wordOf_165 (by decide) ?_
                  refine z_iconst C 0 dX12_wordOf_166 (by decide) ?_
                  refine z_bipush C 19 dX12_wordOf_167 (by decide) ?_
                  refine z_iconst C 5 dX12_wordOf_169 (by decide) ?_
                  refine z_iconst C 1 dX12_wordOf_170 (by decide) ?_
                  refine z_bipush C 20 dX12_wordOf_171 (by decide) ?_
                  refine z_bipush C 19 dX12_wordOf_173 (by decide) ?_
                  refine z_cS1 C [.long x0] (tX12_eight l G hL M 0 0 0 19 5 1 20 19) lk_X12_eight q_ml_X12_93 rfl ⟨Nat.le_of_ble_eq_true rfl, Nat.le_of_ble_eq_true rfl⟩ rfl (Nat.le_of_ble_eq_true rfl) ⟨Nat.le_refl _, Nat.le_refl _⟩ dX12_wordOf_175 ?_
                  refine z_lcmp C dX12_wordOf_178 ?_
                  refine z_if_ne C 185 dX12_wordOf_179 (by decide) (fun c9 => ?_) (fun c9 => ?_)
                  · replace hf := ite_f c9 hf
                    refine z_lload_n C 0 0 dX12_wordOf_185 rfl rfl ?_
                    refine z_iconst C 0 dX12_wordOf_186 (by decide) ?_
                    refine z_bipush C 23 dX12_wordOf_187 (by decide) ?_
                    refine z_iconst C 1 dX12_wordOf_189 (by decide) ?_
                    refine z_bipush C 25 dX12_wordOf_190 (by decide) ?_
                    refine z_cS1 C [.long x0] (tX12_four l G hL M 0 23 1 25) lk_X12_four q_ml_X12_87 rfl ⟨Nat.le_of_ble_eq_true rfl, Nat.le_of_ble_eq_true rfl⟩ rfl (Nat.le_of_ble_eq_true rfl) ⟨Nat.le_refl _, Nat.le_refl _⟩ dX12_wordOf_192 ?_
                    refine z_lcmp C dX12_wordOf_195 ?_
                    refine z_if_ne C 202 dX12_wordOf_196 (by decide) (fun c10 => ?_) (fun c10 => ?_)
                    · replace hf := ite_f c10 hf
                      refine z_lload_n C 0 0 dX12_wordOf_202 rfl rfl ?_
                      refine z_iconst C 0 dX12_wordOf_203 (by decide) ?_
                      refine z_bipush C 20 dX12_wordOf_204 (by decide) ?_
                      refine z_iconst C 1 dX12_wordOf_206 (by decide) ?_
                      refine z_bipush C 24 dX12_wordOf_207 (by decide) ?_
                      refine z_cS1 C [.long x0] (tX12_four l G hL M 0 20 1 24) lk_X12_four q_ml_X12_87 rfl ⟨Nat.le_of_ble_eq_true rfl, Nat.le_of_ble_eq_true rfl⟩ rfl (Nat.le_of_ble_eq_true rfl) ⟨Nat.le_refl _, Nat.le_refl _⟩ dX12_wordOf_209 ?_
                      refine z_lcmp C dX12_wordOf_212 ?_
                      refine z_if_ne C 219 dX12_wordOf_213 (by decide) (fun c11 => ?_) (fun c11 => ?_)
                      · replace hf := ite_f c11 hf
                        refine z_lload_n C 0 0 dX12_wordOf_219 rfl rfl ?_
                        refine z_iconst C 0 dX12_wordOf_220 (by decide) ?_
                        refine z_iconst C 0 dX12_wordOf_221 (by decide) ?_
                        refine z_iconst C 0 dX12_wordOf_222 (by decide) ?_
                        refine z_bipush C 20 dX12_wordOf_223 (by decide) ?_
                        refine z_bipush C 23 dX12_wordOf_225 (by decide) ?_
                        refine z_bipush C 9 dX12_wordOf_227 (by decide) ?_
                        refine z_bipush C 14 dX12_wordOf_229 (by decide) ?_
                        refine z_bipush C 19 dX12_wordOf_231 (by decide) ?_
                        refine z_cS1 C [.long x0] (tX12_eight l G hL M 0 0 0 20 23 9 14 19) lk_X12_eight q_ml_X12_93 rfl ⟨Nat.le_of_ble_eq_true rfl, Nat.le_of_ble_eq_true rfl⟩ rfl (Nat.le_of_ble_eq_true rfl) ⟨Nat.le_refl _, Nat.le_refl _⟩ dX12_wordOf_233 ?_
                        refine z_lcmp C dX12_wordOf_236 ?_
                        refine z_if_ne C 243 dX12_wordOf_237 (by decide) (fun c12 => ?_) (fun c12 => ?_)
                        · replace hf := ite_f c12 hf
                          refine z_lload_n C 0 0 dX12_wordOf_243 rfl rfl ?_
                          refine z_bipush C 19 dX12_wordOf_244 (by decide) ?_
                          refine z_bipush C 15 dX12_wordOf_246 (by decide) ?_
                          refine z_bipush C 21 dX12_wordOf_248 (by decide) ?_
                          refine z_bipush C 16 dX12_wordOf_250 (by decide) ?_
                          refine z_cS1 C [.long x0] (tX12_four l G hL M 19 15 21 16) lk_X12_four q_ml_X12_87 rfl ⟨Nat.le_of_ble_eq_true rfl, Nat.le_of_ble_eq_true rfl⟩ rfl (Nat.le_of_ble_eq_true rfl) ⟨Nat.le_refl _, Nat.le_refl _⟩ dX12_wordOf_252 ?_
                          refine z_lcmp C dX12_wordOf_255 ?_
                          refine z_if_ne C 262 dX12_wordOf_256 (by decide) (fun c13 => ?_) (fun c13 => ?_)
                          · replace hf := ite_f c13 hf
                            refine z_lload_n C 0 0 dX12_wordOf_262 rfl rfl ?_
                            refine z_cS1 C [] (tX12_otherWord l G hL M x0) lk_X12_otherWord q_ml_X12_97 rfl ⟨Nat.le_of_ble_eq_true rfl, Nat.le_of_ble_eq_true rfl⟩ rfl (Nat.le_of_ble_eq_true rfl) ⟨Nat.le_refl _, Nat.le_refl _⟩ dX12_wordOf_263 ?_
                            cases hf
                            exact z_iret C rfl dX12_wordOf_266
                          · replace hf := ite_t c13 hf
                            refine z_bipush C 13 dX12_wordOf_259 (by decide) ?_
                            cases hf
                            exact z_iret C rfl dX12_wordOf_261
                        · replace hf := ite_t c12 hf
                          refine z_bipush C 12 dX12_wordOf_240 (by decide) ?_
                          cases hf
                          exact z_iret C rfl dX12_wordOf_242
                      · replace hf := ite_t c11 hf
                        refine z_bipush C 11 dX12_wordOf_216 (by decide) ?_
                        cases hf
                        exact z_iret C rfl dX12_wordOf_218
                    · replace hf := ite_t c10 hf
                      refine z_bipush C 10 dX12_wordOf_199 (by decide) ?_
                      cases hf
                      exact z_iret C rfl dX12_wordOf_201
                  · replace hf := ite_t c9 hf
                    refine z_bipush C 9 dX12_wordOf_182 (by decide) ?_
                    cases hf
                    exact z_iret C rfl dX12_wordOf_184
                · replace hf := ite_t c8 hf
                  refine z_bipush C 8 dX12_wordOf_160 (by decide) ?_
                  cases hf
                  exact z_iret C rfl dX12_wordOf_162
              · replace hf := ite_t c7 hf
                refine z_bipush C 7 dX12_wordOf_135 (by decide) ?_
                cases hf
                exact z_iret C rfl dX12_wordOf_137
            · replace hf := ite_t c6 hf
              refine z_bipush C 6 dX12_wordOf_119 (by decide) ?_
              cases hf
              exact z_iret C rfl dX12_wordOf_121
          · replace hf := ite_t c5 hf
            refine z_iconst C 5 dX12_wordOf_95 (by decide) ?_
            cases hf
            exact z_iret C rfl dX12_wordOf_96
        · replace hf := ite_t c4 hf
          refine z_iconst C 4 dX12_wordOf_72 (by decide) ?_
          cases hf
          exact z_iret C rfl dX12_wordOf_73
      · replace hf := ite_t c3 hf
        refine z_iconst C 3 dX12_wordOf_55 (by decide) ?_
        cases hf
        exact z_iret C rfl dX12_wordOf_56
    · replace hf := ite_t c2 hf
      refine z_iconst C 2 dX12_wordOf_32 (by decide) ?_
      cases hf
      exact z_iret C rfl dX12_wordOf_33
  · replace hf := ite_t c1 hf
    refine z_iconst C 1 dX12_wordOf_15 (by decide) ?_
    cases hf
    exact z_iret C rfl dX12_wordOf_16
set_option maxHeartbeats 4000000 in
set_option maxRecDepth 100000 in
theorem wX12_advance_j26 (C : CX p s m args meth c cX12_advance 4 none RX12 G) (hs0 : s.heap.size = G.1 + K.1) (hL : Lay K)  (k0 : MM → Option MM) (pp : MM) (hk0 : ∀ (M8 : MM), k0 M8 = some pp → Z p l e (rmo 4 0 0) s m args below meth c 4 G (MQ below (QC G none K pp) args s 0 0 (AG G)) K 0 0 M8 0 [(0, .ref (G.1 + 90))] []) (M5 : MM) (hf : fX12_advance_j26 k0 M5 = some pp) : Z p l e (rmo 4 0 0) s m args below meth c 4 G (MQ below (QC G none K pp) args s 0 0 (AG G)) K 0 0 M5 26 [(0, .ref (G.1 + 90))] [] := by
  unfold fX12_advance_j26 at hf
  refine z_aload_n C 0 0 dX12_advance_26 rfl rfl ?_
  refine z_dup C rfl dX12_advance_27 ?_
  refine z_getI C ok_X12 (lay_c90 hL) 3 (by decide) rfl q_fl_X12_101 dX12_advance_28 ?_
  refine z_iconst C 1 dX12_advance_31 (by decide) ?_
  refine z_iadd C dX12_advance_32 ?_
  refine z_putI C ok_X12 (lay_c90 hL) 3 (by decide) rfl rfl rfl rfl q_fl_X12_101 dX12_advance_33 ?_
  refine z_M (fun M6 e7 => ?_)
  replace hf := bnd_out e7 hf
  refine z_goto C 0 dX12_advance_36 (by decide) ?_
  exact hk0 M6  hf
set_option maxHeartbeats 4000000 in
set_option maxRecDepth 100000 in
theorem wX12_advance_l0 (C : CX p s m args meth c cX12_advance 4 none RX12 G) (hs0 : s.heap.size = G.1 + K.1) (hL : Lay K)  (k39 : MM → Option MM) (pp : MM) (hk39 : ∀ (M13 : MM), k39 M13 = some pp → Z p l e (rmo 4 0 0) s m args below meth c 4 G (MQ below (QC G none K pp) args s 0 0 (AG G)) K 0 0 M13 39 [(0, .ref (G.1 + 90))] []) : ∀ (n : Nat) (M1 : MM) (hf : fX12_advance_l0 k39 n M1 = some pp), Z p l e (rmo 4 0 0) s m args below meth c 4 G (MQ below (QC G none K pp) args s 0 0 (AG G)) K 0 0 M1 0 [(0, .ref (G.1 + 90))] [] := by
  intro n
  induction n with
  | zero => intro M1 hf; exact nomatch (show (none : Option MM) = some pp from hf)
  | succ n ih =>
    intro M1 hf
    rw [fX12_advance_l0.eq_2] at hf
    refine z_aload_n C 0 0 dX12_advance_0 rfl rfl ?_
    refine z_aload_n C 0 0 dX12_advance_1 rfl rfl ?_
    refine z_getI C ok_X12 (lay_c90 hL) 3 (by decide) rfl q_fl_X12_101 dX12_advance_2 ?_
    replace hf := bd_out hf
    obtain ⟨p2, e3, hf⟩ := hf
    refine z_cV1 C [] (tX12_byteAt l G hL M1 (gI M1 90 3) _ e3) lk_X12_byteAt ok_X12 (lay_c90 hL) q_ml_X12_104 rfl ⟨Nat.le_of_ble_eq_true rfl, Nat.le_of_ble_eq_true rfl⟩ rfl (Nat.le_of_ble_eq_true rfl) ⟨Nat.le_refl _, Nat.le_refl _⟩ dX12_advance_5 ?_
    refine z_bipush C 10 dX12_advance_8 (by decide) ?_
    refine z_icmp_eq C 26 dX12_advance_10 (by decide) (fun c4 => ?_) (fun c4 => ?_)
    · replace hf := ite_t c4 hf
      refine wX12_advance_j26 C hs0 hL _ pp ?_ M1 hf
      · intro M9 hf
        exact ih M9  hf
    · replace hf := ite_f c4 hf
      refine z_aload_n C 0 0 dX12_advance_13 rfl rfl ?_
      refine z_aload_n C 0 0 dX12_advance_14 rfl rfl ?_
      refine z_getI C ok_X12 (lay_c90 hL) 3 (by decide) rfl q_fl_X12_101 dX12_advance_15 ?_
      replace hf := bd_out hf
      obtain ⟨p10, e11, hf⟩ := hf
      refine z_cV1 C [] (tX12_byteAt l G hL M1 (gI M1 90 3) _ e11) lk_X12_byteAt ok_X12 (lay_c90 hL) q_ml_X12_104 rfl ⟨Nat.le_of_ble_eq_true rfl, Nat.le_of_ble_eq_true rfl⟩ rfl (Nat.le_of_ble_eq_true rfl) ⟨Nat.le_refl _, Nat.le_refl _⟩ dX12_advance_18 ?_
      refine z_bipush C 32 dX12_advance_21 (by decide) ?_
      refine z_icmp_ne C 39 dX12_advance_23 (by decide) (fun c12 => ?_) (fun c12 => ?_)
      · replace hf := ite_f c12 hf
        exact hk39 M1  hf
      · replace hf := ite_t c12 hf
        refine wX12_advance_j26 C hs0 hL _ pp ?_ M1 hf
        · intro M14 hf
          exact ih M14  hf
set_option maxHeartbeats 4000000 in
set_option maxRecDepth 100000 in
theorem wX12_advance_j308 (C : CX p s m args meth c cX12_advance 4 none RX12 G) (hs0 : s.heap.size = G.1 + K.1) (hL : Lay K)   (pp : MM)  (M26 : MM) (y27 : Int32) (hf : fX12_advance_j308 M26 y27 = some pp) : Z p l e (rmo 4 0 0) s m args below meth c 4 G (MQ below (QC G none K pp) args s 0 0 (AG G)) K 0 0 M26 308 [] [.int y27, .ref (G.1 + 90)] := by
  unfold fX12_advance_j308 at hf
  refine z_putI C ok_X12 (lay_c90 hL) 5 (by decide) rfl rfl rfl rfl q_fl_X12_111 dX12_advance_308 ?_
  refine z_M (fun M28 e29 => ?_)
  replace hf := bnd_out e29 hf
  cases hf
  exact z_vret C rfl dX12_advance_311
set_option maxHeartbeats 4000000 in
set_option maxRecDepth 100000 in
theorem wX12_advance_j248 (C : CX p s m args meth c cX12_advance 4 none RX12 G) (hs0 : s.heap.size = G.1 + K.1) (hL : Lay K)  (k198 : MM → Option MM) (pp : MM) (hk198 : ∀ (M41 : MM), k198 M41 = some pp → Z p l e (rmo 4 0 0) s m args below meth c 4 G (MQ below (QC G none K pp) args s 0 0 (AG G)) K 0 0 M41 198 [(0, .ref (G.1 + 90))] []) (M38 : MM) (hf : fX12_advance_j248 k198 M38 = some pp) : Z p l e (rmo 4 0 0) s m args below meth c 4 G (MQ below (QC G none K pp) args s 0 0 (AG G)) K 0 0 M38 248 [(0, .ref (G.1 + 90))] [] := by
  unfold fX12_advance_j248 at hf
  refine z_aload_n C 0 0 dX12_advance_248 rfl rfl ?_
  refine z_dup C rfl dX12_advance_249 ?_
  refine z_getI C ok_X12 (lay_c90 hL) 3 (by decide) rfl q_fl_X12_101 dX12_advance_250 ?_
  refine z_iconst C 1 dX12_advance_253 (by decide) ?_
  refine z_iadd C dX12_advance_254 ?_
  refine z_putI C ok_X12 (lay_c90 hL) 3 (by decide) rfl rfl rfl rfl q_fl_X12_101 dX12_advance_255 ?_
  refine z_M (fun M39 e40 => ?_)
  replace hf := bnd_out e40 hf
  refine z_goto C 198 dX12_advance_258 (by decide) ?_
  exact hk198 M39  hf
set_option maxHeartbeats 4000000 in
set_option maxRecDepth 100000 in
theorem wX12_advance_l198 (C : CX p s m args meth c cX12_advance 4 none RX12 G) (hs0 : s.heap.size = G.1 + K.1) (hL : Lay K)  (k261 : MM → Option MM) (pp : MM) (hk261 : ∀ (M36 : MM), k261 M36 = some pp → Z p l e (rmo 4 0 0) s m args below meth c 4 G (MQ below (QC G none K pp) args s 0 0 (AG G)) K 0 0 M36 261 [(0, .ref (G.1 + 90))] []) : ∀ (n : Nat) (M32 : MM) (hf : fX12_advance_l198 k261 n M32 = some pp), Z p l e (rmo 4 0 0) s m args below meth c 4 G (MQ below (QC G none K pp) args s 0 0 (AG G)) K 0 0 M32 198 [(0, .ref (G.1 + 90))] [] := by
  intro n
  induction n with
  | zero => intro M32 hf; exact nomatch (show (none : Option MM) = some pp from hf)
  | succ n ih =>
    intro M32 hf
    rw [fX12_advance_l198.eq_2] at hf
    refine z_aload_n C 0 0 dX12_advance_198 rfl rfl ?_
    refine z_aload_n C 0 0 dX12_advance_199 rfl rfl ?_
    refine z_getI C ok_X12 (lay_c90 hL) 3 (by decide) rfl q_fl_X12_101 dX12_advance_200 ?_
    replace hf := bd_out hf
    obtain ⟨p33, e34, hf⟩ := hf
    refine z_cV1 C [] (tX12_byteAt l G hL M32 (gI M32 90 3) _ e34) lk_X12_byteAt ok_X12 (lay_c90 hL) q_ml_X12_104 rfl ⟨Nat.le_of_ble_eq_true rfl, Nat.le_of_ble_eq_true rfl⟩ rfl (Nat.le_of_ble_eq_true rfl) ⟨Nat.le_refl _, Nat.le_refl _⟩ dX12_advance_203 ?_
    refine z_cS1 C [] (tX12_isDigit l G hL M32 p33) lk_X12_isDigit q_ml_X12_128 rfl ⟨Nat.le_of_ble_eq_true rfl, Nat.le_of_ble_eq_true rfl⟩ rfl (Nat.le_of_ble_eq_true rfl) ⟨Nat.le_refl _, Nat.le_refl _⟩ dX12_advance_206 ?_
    refine z_if_eq C 261 dX12_advance_209 (by decide) (fun c35 => ?_) (fun c35 => ?_)
    · replace hf := ite_t c35 hf
      exact hk261 M32  hf
    · replace hf := ite_f c35 hf
      refine z_aload_n C 0 0 dX12_advance_212 rfl rfl ?_
      refine z_getI C ok_X12 (lay_c90 hL) 3 (by decide) rfl q_fl_X12_101 dX12_advance_213 ?_
      refine z_aload_n C 0 0 dX12_advance_216 rfl rfl ?_
      refine z_getI C ok_X12 (lay_c90 hL) 4 (by decide) rfl q_fl_X12_108 dX12_advance_217 ?_
      refine z_isub C dX12_advance_220 ?_
      refine z_iconst C 2 dX12_advance_221 (by decide) ?_
      refine z_icmp_ge C 248 dX12_advance_222 (by decide) (fun c37 => ?_) (fun c37 => ?_)
      · replace hf := ite_t c37 hf
        refine wX12_advance_j248 C hs0 hL _ pp ?_ M32 hf
        · intro M42 hf
          exact ih M42  hf
      · replace hf := ite_f c37 hf
        refine z_aload_n C 0 0 dX12_advance_225 rfl rfl ?_
        refine z_bipush C 10 dX12_advance_226 (by decide) ?_
        refine z_aload_n C 0 0 dX12_advance_228 rfl rfl ?_
        refine z_getI C ok_X12 (lay_c90 hL) 6 (by decide) rfl q_fl_X12_131 dX12_advance_229 ?_
        refine z_imul C dX12_advance_232 ?_
        refine z_aload_n C 0 0 dX12_advance_233 rfl rfl ?_
        refine z_aload_n C 0 0 dX12_advance_234 rfl rfl ?_
        refine z_getI C ok_X12 (lay_c90 hL) 3 (by decide) rfl q_fl_X12_101 dX12_advance_235 ?_
        replace hf := bd_out hf
        obtain ⟨p43, e44, hf⟩ := hf
        refine z_cV1 C [.int (10 * (gI M32 90 6)), .ref (G.1 + 90)] (tX12_byteAt l G hL M32 (gI M32 90 3) _ e44) lk_X12_byteAt ok_X12 (lay_c90 hL) q_ml_X12_104 rfl ⟨Nat.le_of_ble_eq_true rfl, Nat.le_of_ble_eq_true rfl⟩ rfl (Nat.le_of_ble_eq_true rfl) ⟨Nat.le_refl _, Nat.le_refl _⟩ dX12_advance_238 ?_
        refine z_iadd C dX12_advance_241 ?_
        refine z_bipush C 48 dX12_advance_242 (by decide) ?_
        refine z_isub C dX12_advance_244 ?_
        refine z_putI C ok_X12 (lay_c90 hL) 6 (by decide) rfl rfl rfl rfl q_fl_X12_131 dX12_advance_245 ?_
        refine z_M (fun M45 e46 => ?_)
        replace hf := bnd_out e46 hf
        refine wX12_advance_j248 C hs0 hL _ pp ?_ M45 hf
        · intro M47 hf
          exact ih M47  hf
set_option maxHeartbeats 4000000 in
set_option maxRecDepth 100000 in
theorem wX12_advance_j280 (C : CX p s m args meth c cX12_advance 4 none RX12 G) (hs0 : s.heap.size = G.1 + K.1) (hL : Lay K)   (pp : MM)  (M50 : MM) (y51 : Int32) (hf : fX12_advance_j280 M50 y51 = some pp) : Z p l e (rmo 4 0 0) s m args below meth c 4 G (MQ below (QC G none K pp) args s 0 0 (AG G)) K 0 0 M50 280 [] [.int y51, .ref (G.1 + 90)] := by
  unfold fX12_advance_j280 at hf
  refine z_putI C ok_X12 (lay_c90 hL) 5 (by decide) rfl rfl rfl rfl q_fl_X12_111 dX12_advance_280 ?_
  refine z_M (fun M52 e53 => ?_)
  replace hf := bnd_out e53 hf
  refine z_goto C 311 dX12_advance_283 (by decide) ?_
  cases hf
  exact z_vret C rfl dX12_advance_311
set_option maxHeartbeats 4000000 in
set_option maxRecDepth 100000 in
theorem wX12_advance_j125 (C : CX p s m args meth c cX12_advance 4 none RX12 G) (hs0 : s.heap.size = G.1 + K.1) (hL : Lay K)  (k77 : MM → Int64 → Option MM) (pp : MM) (hk77 : ∀ (M66 : MM) (y67 : Int64), k77 M66 y67 = some pp → Z p l e (rmo 4 0 0) s m args below meth c 4 G (MQ below (QC G none K pp) args s 0 0 (AG G)) K 0 0 M66 77 [(0, .ref (G.1 + 90)), (2, .long y67)] []) (M62 : MM) (y63 : Int64) (hf : fX12_advance_j125 k77 M62 y63 = some pp) : Z p l e (rmo 4 0 0) s m args below meth c 4 G (MQ below (QC G none K pp) args s 0 0 (AG G)) K 0 0 M62 125 [(0, .ref (G.1 + 90)), (2, .long y63)] [] := by
  unfold fX12_advance_j125 at hf
  refine z_aload_n C 0 0 dX12_advance_125 rfl rfl ?_
  refine z_dup C rfl dX12_advance_126 ?_
  refine z_getI C ok_X12 (lay_c90 hL) 3 (by decide) rfl q_fl_X12_101 dX12_advance_127 ?_
  refine z_iconst C 1 dX12_advance_130 (by decide) ?_
  refine z_iadd C dX12_advance_131 ?_
  refine z_putI C ok_X12 (lay_c90 hL) 3 (by decide) rfl rfl rfl rfl q_fl_X12_101 dX12_advance_132 ?_
  refine z_M (fun M64 e65 => ?_)
  replace hf := bnd_out e65 hf
  refine z_goto C 77 dX12_advance_135 (by decide) ?_
  exact hk77 M64 y63  hf
set_option maxHeartbeats 4000000 in
set_option maxRecDepth 100000 in
theorem wX12_advance_l77 (C : CX p s m args meth c cX12_advance 4 none RX12 G) (hs0 : s.heap.size = G.1 + K.1) (hL : Lay K)  (k138 : MM → Int64 → Option MM) (pp : MM) (hk138 : ∀ (M59 : MM) (y60 : Int64), k138 M59 y60 = some pp → Z p l e (rmo 4 0 0) s m args below meth c 4 G (MQ below (QC G none K pp) args s 0 0 (AG G)) K 0 0 M59 138 [(0, .ref (G.1 + 90)), (2, .long y60)] []) : ∀ (n : Nat) (M54 : MM) (y55 : Int64) (hf : fX12_advance_l77 k138 n M54 y55 = some pp), Z p l e (rmo 4 0 0) s m args below meth c 4 G (MQ below (QC G none K pp) args s 0 0 (AG G)) K 0 0 M54 77 [(0, .ref (G.1 + 90)), (2, .long y55)] [] := by
  intro n
  induction n with
  | zero => intro M54 y55 hf; exact nomatch (show (none : Option MM) = some pp from hf)
  | succ n ih =>
    intro M54 y55 hf
    rw [fX12_advance_l77.eq_2] at hf
    refine z_aload_n C 0 0 dX12_advance_77 rfl rfl ?_
    refine z_aload_n C 0 0 dX12_advance_78 rfl rfl ?_
    refine z_getI C ok_X12 (lay_c90 hL) 3 (by decide) rfl q_fl_X12_101 dX12_advance_79 ?_
    replace hf := bd_out hf
    obtain ⟨p56, e57, hf⟩ := hf
    refine z_cV1 C [] (tX12_byteAt l G hL M54 (gI M54 90 3) _ e57) lk_X12_byteAt ok_X12 (lay_c90 hL) q_ml_X12_104 rfl ⟨Nat.le_of_ble_eq_true rfl, Nat.le_of_ble_eq_true rfl⟩ rfl (Nat.le_of_ble_eq_true rfl) ⟨Nat.le_refl _, Nat.le_refl _⟩ dX12_advance_82 ?_
    refine z_cS1 C [] (tX12_isLetter l G hL M54 p56) lk_X12_isLetter q_ml_X12_114 rfl ⟨Nat.le_of_ble_eq_true rfl, Nat.le_of_ble_eq_true rfl⟩ rfl (Nat.le_of_ble_eq_true rfl) ⟨Nat.le_refl _, Nat.le_refl _⟩ dX12_advance_85 ?_
    refine z_if_eq C 138 dX12_advance_88 (by decide) (fun c58 => ?_) (fun c58 => ?_)
    · replace hf := ite_t c58 hf
      exact hk138 M54 y55  hf
    · replace hf := ite_f c58 hf
      refine z_aload_n C 0 0 dX12_advance_91 rfl rfl ?_
      refine z_getI C ok_X12 (lay_c90 hL) 3 (by decide) rfl q_fl_X12_101 dX12_advance_92 ?_
      refine z_aload_n C 0 0 dX12_advance_95 rfl rfl ?_
      refine z_getI C ok_X12 (lay_c90 hL) 4 (by decide) rfl q_fl_X12_108 dX12_advance_96 ?_
      refine z_isub C dX12_advance_99 ?_
      refine z_bipush C 8 dX12_advance_100 (by decide) ?_
      refine z_icmp_ge C 125 dX12_advance_102 (by decide) (fun c61 => ?_) (fun c61 => ?_)
      · replace hf := ite_t c61 hf
        refine wX12_advance_j125 C hs0 hL _ pp ?_ M54 y55 hf
        · intro M68 y69 hf
          exact ih M68 y69  hf
      · replace hf := ite_f c61 hf
        refine z_ldc2 C 32 q_cl_X12_118 dX12_advance_105 ?_
        refine z_lload_n C 1 2 dX12_advance_108 rfl rfl ?_
        refine z_lmul C dX12_advance_109 ?_
        refine z_aload_n C 0 0 dX12_advance_110 rfl rfl ?_
        refine z_aload_n C 0 0 dX12_advance_111 rfl rfl ?_
        refine z_getI C ok_X12 (lay_c90 hL) 3 (by decide) rfl q_fl_X12_101 dX12_advance_112 ?_
        replace hf := bd_out hf
        obtain ⟨p70, e71, hf⟩ := hf
        refine z_cV1 C [.long (32 * y55)] (tX12_byteAt l G hL M54 (gI M54 90 3) _ e71) lk_X12_byteAt ok_X12 (lay_c90 hL) q_ml_X12_104 rfl ⟨Nat.le_of_ble_eq_true rfl, Nat.le_of_ble_eq_true rfl⟩ rfl (Nat.le_of_ble_eq_true rfl) ⟨Nat.le_refl _, Nat.le_refl _⟩ dX12_advance_115 ?_
        refine z_i2l C dX12_advance_118 ?_
        refine z_ladd C dX12_advance_119 ?_
        refine z_ldc2 C 96 q_cl_X12_120 dX12_advance_120 ?_
        refine z_lsub C dX12_advance_123 ?_
        refine z_topl (fun v72 e73 => ?_)
        replace hf := bnd_out e73 hf
        refine z_lstore_n C [(2, .long v72), (0, .ref (G.1 + 90))] dX12_advance_124 rfl (by decide) rfl ?_
        refine z_lv (lv2 := [(0, .ref (G.1 + 90)), (2, .long v72)]) [1, 0] rfl ?_
        refine wX12_advance_j125 C hs0 hL _ pp ?_ M54 v72 hf
        · intro M74 y75 hf
          exact ih M74 y75  hf
set_option maxHeartbeats 4000000 in
set_option maxRecDepth 100000 in
theorem wX12_advance_j180 (C : CX p s m args meth c cX12_advance 4 none RX12 G) (hs0 : s.heap.size = G.1 + K.1) (hL : Lay K)   (pp : MM)  (M84 : MM) (y85 : Int32) (hf : fX12_advance_j180 M84 y85 = some pp) : Z p l e (rmo 4 0 0) s m args below meth c 4 G (MQ below (QC G none K pp) args s 0 0 (AG G)) K 0 0 M84 180 [] [.int y85, .ref (G.1 + 90)] := by
  unfold fX12_advance_j180 at hf
  refine z_putI C ok_X12 (lay_c90 hL) 5 (by decide) rfl rfl rfl rfl q_fl_X12_111 dX12_advance_180 ?_
  refine z_M (fun M86 e87 => ?_)
  replace hf := bnd_out e87 hf
  refine z_goto C 311 dX12_advance_183 (by decide) ?_
  cases hf
  exact z_vret C rfl dX12_advance_311
set_option maxHeartbeats 4000000 in
set_option maxRecDepth 100000 in
theorem wX12_advance_j162 (C : CX p s m args meth c cX12_advance 4 none RX12 G) (hs0 : s.heap.size = G.1 + K.1) (hL : Lay K)   (pp : MM)  (M79 : MM) (y80 : Int32) (hf : fX12_advance_j162 M79 y80 = some pp) : Z p l e (rmo 4 0 0) s m args below meth c 4 G (MQ below (QC G none K pp) args s 0 0 (AG G)) K 0 0 M79 162 [(0, .ref (G.1 + 90))] [.int y80, .ref (G.1 + 90)] := by
  unfold fX12_advance_j162 at hf
  refine z_putI C ok_X12 (lay_c90 hL) 7 (by decide) rfl rfl rfl rfl q_fl_X12_125 dX12_advance_162 ?_
  refine z_M (fun M81 e82 => ?_)
  replace hf := bnd_out e82 hf
  refine z_aload_n C 0 0 dX12_advance_165 rfl rfl ?_
  refine z_aload_n C 0 0 dX12_advance_166 rfl rfl ?_
  refine z_getI C ok_X12 (lay_c90 hL) 7 (by decide) rfl q_fl_X12_125 dX12_advance_167 ?_
  refine z_bipush C 99 dX12_advance_170 (by decide) ?_
  refine z_icmp_ne C 179 dX12_advance_172 (by decide) (fun c83 => ?_) (fun c83 => ?_)
  · replace hf := ite_f c83 hf
    refine z_iconst C 3 dX12_advance_179 (by decide) ?_
    refine z_lv (lv2 := []) [] rfl ?_
    exact wX12_advance_j180 C hs0 hL pp M81 3 hf
  · replace hf := ite_t c83 hf
    refine z_iconst C 4 dX12_advance_175 (by decide) ?_
    refine z_goto C 180 dX12_advance_176 (by decide) ?_
    refine z_lv (lv2 := []) [] rfl ?_
    exact wX12_advance_j180 C hs0 hL pp M81 4 hf
set_option maxHeartbeats 4000000 in
set_option maxRecDepth 100000 in
theorem tX12_advance (l : Launch) (G : GG) {K : SK} (hL : Lay K) (M : MM)  (pp : MM) (hf : fX12_advance M = some pp) : Ct l yX12_advance cX12_advance 4 none 4 0 0 G K M [.ref (G.1 + 90)] none K pp := by
  refine z_enter (lv := [(0, .ref (G.1 + 90))]) (by decide +kernel) (Nat.le_of_ble_eq_true rfl) rfl ?_
  intro p e s m args below meth c C hnm hs0
  replace C : CX p s m args meth c cX12_advance 4 none RX12 G := C
  unfold fX12_advance at hf
  refine wX12_advance_l0 C hs0 hL _ pp ?_ FU M hf
  · intro M15 hf
    refine z_aload_n C 0 0 dX12_advance_39 rfl rfl ?_
    refine z_aload_n C 0 0 dX12_advance_40 rfl rfl ?_
    refine z_getI C ok_X12 (lay_c90 hL) 3 (by decide) rfl q_fl_X12_101 dX12_advance_41 ?_
    refine z_putI C ok_X12 (lay_c90 hL) 4 (by decide) rfl rfl rfl rfl q_fl_X12_108 dX12_advance_44 ?_
    refine z_M (fun M16 e17 => ?_)
    replace hf := bnd_out e17 hf
    refine z_aload_n C 0 0 dX12_advance_47 rfl rfl ?_
    refine z_aload_n C 0 0 dX12_advance_48 rfl rfl ?_
    refine z_getI C ok_X12 (lay_c90 hL) 3 (by decide) rfl q_fl_X12_101 dX12_advance_49 ?_
    replace hf := bd_out hf
    obtain ⟨p18, e19, hf⟩ := hf
    refine z_cV1 C [] (tX12_byteAt l G hL M16 (gI M16 90 3) _ e19) lk_X12_byteAt ok_X12 (lay_c90 hL) q_ml_X12_104 rfl ⟨Nat.le_of_ble_eq_true rfl, Nat.le_of_ble_eq_true rfl⟩ rfl (Nat.le_of_ble_eq_true rfl) ⟨Nat.le_refl _, Nat.le_refl _⟩ dX12_advance_52 ?_
    refine z_istore_n C [(1, .int p18), (0, .ref (G.1 + 90))] dX12_advance_55 rfl (by decide) rfl rfl ?_
    refine z_iload_n C 0 1 dX12_advance_56 rfl rfl ?_
    refine z_if_ge C 68 dX12_advance_57 (by decide) (fun c20 => ?_) (fun c20 => ?_)
    · replace hf := ite_t c20 hf
      refine z_iload_n C 0 1 dX12_advance_68 rfl rfl ?_
      refine z_cS1 C [] (tX12_isLetter l G hL M16 p18) lk_X12_isLetter q_ml_X12_114 rfl ⟨Nat.le_of_ble_eq_true rfl, Nat.le_of_ble_eq_true rfl⟩ rfl (Nat.le_of_ble_eq_true rfl) ⟨Nat.le_refl _, Nat.le_refl _⟩ dX12_advance_69 ?_
      refine z_if_eq C 186 dX12_advance_72 (by decide) (fun c21 => ?_) (fun c21 => ?_)
      · replace hf := ite_t c21 hf
        refine z_iload_n C 0 1 dX12_advance_186 rfl rfl ?_
        refine z_cS1 C [] (tX12_isDigit l G hL M16 p18) lk_X12_isDigit q_ml_X12_128 rfl ⟨Nat.le_of_ble_eq_true rfl, Nat.le_of_ble_eq_true rfl⟩ rfl (Nat.le_of_ble_eq_true rfl) ⟨Nat.le_refl _, Nat.le_refl _⟩ dX12_advance_187 ?_
        refine z_if_eq C 286 dX12_advance_190 (by decide) (fun c22 => ?_) (fun c22 => ?_)
        · replace hf := ite_t c22 hf
          refine z_aload_n C 1 0 dX12_advance_286 rfl rfl ?_
          refine z_dup C rfl dX12_advance_287 ?_
          refine z_getI C ok_X12 (lay_c90 hL) 3 (by decide) rfl q_fl_X12_101 dX12_advance_288 ?_
          refine z_iconst C 1 dX12_advance_291 (by decide) ?_
          refine z_iadd C dX12_advance_292 ?_
          refine z_putI C ok_X12 (lay_c90 hL) 3 (by decide) rfl rfl rfl rfl q_fl_X12_101 dX12_advance_293 ?_
          refine z_M (fun M23 e24 => ?_)
          replace hf := bnd_out e24 hf
          refine z_aload_n C 1 0 dX12_advance_296 rfl rfl ?_
          refine z_iload_n C 0 1 dX12_advance_297 rfl rfl ?_
          refine z_bipush C 59 dX12_advance_298 (by decide) ?_
          refine z_icmp_ne C 307 dX12_advance_300 (by decide) (fun c25 => ?_) (fun c25 => ?_)
          · replace hf := ite_f c25 hf
            refine z_iconst C 4 dX12_advance_307 (by decide) ?_
            refine z_lv (lv2 := []) [] rfl ?_
            exact wX12_advance_j308 C hs0 hL pp M23 4 hf
          · replace hf := ite_t c25 hf
            refine z_iconst C 2 dX12_advance_303 (by decide) ?_
            refine z_goto C 308 dX12_advance_304 (by decide) ?_
            refine z_lv (lv2 := []) [] rfl ?_
            exact wX12_advance_j308 C hs0 hL pp M23 2 hf
        · replace hf := ite_f c22 hf
          refine z_aload_n C 1 0 dX12_advance_193 rfl rfl ?_
          refine z_iconst C 0 dX12_advance_194 (by decide) ?_
          refine z_putI C ok_X12 (lay_c90 hL) 6 (by decide) rfl rfl rfl rfl q_fl_X12_131 dX12_advance_195 ?_
          refine z_M (fun M30 e31 => ?_)
          replace hf := bnd_out e31 hf
          refine z_lv (lv2 := [(0, .ref (G.1 + 90))]) [1] rfl ?_
          refine wX12_advance_l198 C hs0 hL _ pp ?_ FU M30 hf
          · intro M48 hf
            refine z_aload_n C 0 0 dX12_advance_261 rfl rfl ?_
            refine z_aload_n C 0 0 dX12_advance_262 rfl rfl ?_
            refine z_getI C ok_X12 (lay_c90 hL) 3 (by decide) rfl q_fl_X12_101 dX12_advance_263 ?_
            refine z_aload_n C 0 0 dX12_advance_266 rfl rfl ?_
            refine z_getI C ok_X12 (lay_c90 hL) 4 (by decide) rfl q_fl_X12_108 dX12_advance_267 ?_
            refine z_isub C dX12_advance_270 ?_
            refine z_iconst C 2 dX12_advance_271 (by decide) ?_
            refine z_icmp_le C 279 dX12_advance_272 (by decide) (fun c49 => ?_) (fun c49 => ?_)
            · replace hf := ite_t c49 hf
              refine z_iconst C 1 dX12_advance_279 (by decide) ?_
              refine z_lv (lv2 := []) [] rfl ?_
              exact wX12_advance_j280 C hs0 hL pp M48 1 hf
            · replace hf := ite_f c49 hf
              refine z_iconst C 4 dX12_advance_275 (by decide) ?_
              refine z_goto C 280 dX12_advance_276 (by decide) ?_
              refine z_lv (lv2 := []) [] rfl ?_
              exact wX12_advance_j280 C hs0 hL pp M48 4 hf
      · replace hf := ite_f c21 hf
        refine z_lconst C 0 dX12_advance_75 (by decide) ?_
        refine z_lstore_n C [(2, .long 0), (1, .int p18), (0, .ref (G.1 + 90))] dX12_advance_76 rfl (by decide) rfl ?_
        refine z_lv (lv2 := [(0, .ref (G.1 + 90)), (2, .long 0)]) [2, 0] rfl ?_
        refine wX12_advance_l77 C hs0 hL _ pp ?_ FU M16 0 hf
        · intro M76 y77 hf
          refine z_aload_n C 0 0 dX12_advance_138 rfl rfl ?_
          refine z_aload_n C 0 0 dX12_advance_139 rfl rfl ?_
          refine z_getI C ok_X12 (lay_c90 hL) 3 (by decide) rfl q_fl_X12_101 dX12_advance_140 ?_
          refine z_aload_n C 0 0 dX12_advance_143 rfl rfl ?_
          refine z_getI C ok_X12 (lay_c90 hL) 4 (by decide) rfl q_fl_X12_108 dX12_advance_144 ?_
          refine z_isub C dX12_advance_147 ?_
          refine z_bipush C 8 dX12_advance_148 (by decide) ?_
          refine z_icmp_le C 158 dX12_advance_150 (by decide) (fun c78 => ?_) (fun c78 => ?_)
          · replace hf := ite_t c78 hf
            refine z_lload_n C 1 2 dX12_advance_158 rfl rfl ?_
            refine z_cS1 C [.ref (G.1 + 90)] (tX12_wordOf l G hL M76 y77) lk_X12_wordOf q_ml_X12_122 rfl ⟨Nat.le_of_ble_eq_true rfl, Nat.le_of_ble_eq_true rfl⟩ rfl (Nat.le_of_ble_eq_true rfl) ⟨Nat.le_refl _, Nat.le_refl _⟩ dX12_advance_159 ?_
            refine z_lv (lv2 := [(0, .ref (G.1 + 90))]) [0] rfl ?_
            exact wX12_advance_j162 C hs0 hL pp M76 (fX12_wordOf y77) hf
          · replace hf := ite_f c78 hf
            refine z_bipush C 99 dX12_advance_153 (by decide) ?_
            refine z_goto C 162 dX12_advance_155 (by decide) ?_
            refine z_lv (lv2 := [(0, .ref (G.1 + 90))]) [0] rfl ?_
            exact wX12_advance_j162 C hs0 hL pp M76 99 hf
    · replace hf := ite_f c20 hf
      refine z_aload_n C 1 0 dX12_advance_60 rfl rfl ?_
      refine z_iconst C 0 dX12_advance_61 (by decide) ?_
      refine z_putI C ok_X12 (lay_c90 hL) 5 (by decide) rfl rfl rfl rfl q_fl_X12_111 dX12_advance_62 ?_
      refine z_M (fun M88 e89 => ?_)
      replace hf := bnd_out e89 hf
      refine z_goto C 311 dX12_advance_65 (by decide) ?_
      cases hf
      exact z_vret C rfl dX12_advance_311
set_option maxHeartbeats 4000000 in
set_option maxRecDepth 100000 in
theorem tX12_ends (l : Launch) (G : GG) {K : SK} (hL : Lay K) (M : MM)  (pp : MM) (hf : fX12_ends M = some pp) : Ct l yX12_ends cX12_ends 1 none 0 0 0 G K M [.ref (G.1 + 90)] none K pp := by
  refine z_enter (lv := [(0, .ref (G.1 + 90))]) (by decide +kernel) (Nat.le_of_ble_eq_true rfl) rfl ?_
  intro p e s m args below meth c C hnm hs0
  replace C : CX p s m args meth c cX12_ends 1 none RX12 G := C
  unfold fX12_ends at hf
  refine z_aload_n C 0 0 dX12_ends_0 rfl rfl ?_
  refine z_getI C ok_X12 (lay_c90 hL) 8 (by decide) rfl q_fl_X12_134 dX12_ends_1 ?_
  refine z_if_eq C 8 dX12_ends_4 (by decide) (fun c1 => ?_) (fun c1 => ?_)
  · replace hf := ite_t c1 hf
    refine z_aload_n C 0 0 dX12_ends_8 rfl rfl ?_
    refine z_iconst C 1 dX12_ends_9 (by decide) ?_
    refine z_putI C ok_X12 (lay_c90 hL) 8 (by decide) rfl rfl (by decide) (by decide) q_fl_X12_134 dX12_ends_10 ?_
    refine z_M (fun M2 e3 => ?_)
    replace hf := bnd_out e3 hf
    refine z_aload_n C 0 0 dX12_ends_13 rfl rfl ?_
    refine z_getR C ok_X12 (lay_c90 hL) 0 (91) (by decide) rfl (lay_r90_0 hL) q_fl_X12_7 dX12_ends_14 ?_
    refine z_iconst C 5 dX12_ends_17 (by decide) ?_
    refine z_iconst C 1 dX12_ends_18 (by decide) ?_
    refine z_iast C (lay_c91 hL) (inb_in (by decide)) dX12_ends_19 ?_
    refine z_M (fun M4 e5 => ?_)
    replace hf := bnd_out e5 hf
    refine z_aload_n C 0 0 dX12_ends_20 rfl rfl ?_
    refine z_getR C ok_X12 (lay_c90 hL) 0 (91) (by decide) rfl (lay_r90_0 hL) q_fl_X12_7 dX12_ends_21 ?_
    refine z_bipush C 6 dX12_ends_24 (by decide) ?_
    refine z_aload_n C 0 0 dX12_ends_26 rfl rfl ?_
    refine z_getI C ok_X12 (lay_c90 hL) 4 (by decide) rfl q_fl_X12_108 dX12_ends_27 ?_
    refine z_iast C (lay_c91 hL) (inb_in (by decide)) dX12_ends_30 ?_
    refine z_M (fun M6 e7 => ?_)
    replace hf := bnd_out e7 hf
    cases hf
    exact z_vret C rfl dX12_ends_31
  · replace hf := ite_f c1 hf
    cases hf
    exact z_vret C rfl dX12_ends_7
set_option maxHeartbeats 4000000 in
set_option maxRecDepth 100000 in
theorem wX12_also_j49 (C : CX p s m args meth c cX12_also 3 none RX12 G) (hs0 : s.heap.size = G.1 + K.1) (hL : Lay K)   (pp : MM)  (M3 : MM) (y4 : Int32) (y5 : Int32) (hf : fX12_also_j49 M3 y4 y5 = some pp) : Z p l e (rmo 0 0 0) s m args below meth c 3 G (MQ below (QC G none K pp) args s 0 0 (AG G)) K 0 0 M3 49 [(0, .ref (G.1 + 90)), (1, .int y4), (2, .int y5)] [] := by
  unfold fX12_also_j49 at hf
  refine z_aload_n C 0 0 dX12_also_49 rfl rfl ?_
  refine z_getR C ok_X12 (lay_c90 hL) 0 (91) (by decide) rfl (lay_r90_0 hL) q_fl_X12_7 dX12_also_50 ?_
  refine z_iconst C 5 dX12_also_53 (by decide) ?_
  refine z_iload_n C 1 1 dX12_also_54 rfl rfl ?_
  refine z_iast C (lay_c91 hL) (inb_in (by decide)) dX12_also_55 ?_
  refine z_M (fun M6 e7 => ?_)
  replace hf := bnd_out e7 hf
  refine z_aload_n C 0 0 dX12_also_56 rfl rfl ?_
  refine z_getR C ok_X12 (lay_c90 hL) 0 (91) (by decide) rfl (lay_r90_0 hL) q_fl_X12_7 dX12_also_57 ?_
  refine z_bipush C 6 dX12_also_60 (by decide) ?_
  refine z_iload_n C 2 2 dX12_also_62 rfl rfl ?_
  refine z_iast C (lay_c91 hL) (inb_in (by decide)) dX12_also_63 ?_
  refine z_M (fun M8 e9 => ?_)
  replace hf := bnd_out e9 hf
  cases hf
  exact z_vret C rfl dX12_also_64
set_option maxHeartbeats 4000000 in
set_option maxRecDepth 100000 in
theorem tX12_also (l : Launch) (G : GG) {K : SK} (hL : Lay K) (M : MM) (x1 : Int32) (x2 : Int32) (pp : MM) (hf : fX12_also M x1 x2 = some pp) : Ct l yX12_also cX12_also 3 none 0 0 0 G K M [.ref (G.1 + 90), .int x1, .int x2] none K pp := by
  refine z_enter (lv := [(0, .ref (G.1 + 90)), (1, .int x1), (2, .int x2)]) (by decide +kernel) (Nat.le_of_ble_eq_true rfl) rfl ?_
  intro p e s m args below meth c C hnm hs0
  replace C : CX p s m args meth c cX12_also 3 none RX12 G := C
  unfold fX12_also at hf
  refine z_aload_n C 0 0 dX12_also_0 rfl rfl ?_
  refine z_getI C ok_X12 (lay_c90 hL) 8 (by decide) rfl q_fl_X12_134 dX12_also_1 ?_
  refine z_if_ne C 48 dX12_also_4 (by decide) (fun c1 => ?_) (fun c1 => ?_)
  · replace hf := ite_f c1 hf
    cases hf
    exact z_vret C rfl dX12_also_48
  · replace hf := ite_t c1 hf
    refine z_aload_n C 0 0 dX12_also_7 rfl rfl ?_
    refine z_getR C ok_X12 (lay_c90 hL) 0 (91) (by decide) rfl (lay_r90_0 hL) q_fl_X12_7 dX12_also_8 ?_
    refine z_iconst C 5 dX12_also_11 (by decide) ?_
    refine z_iald C (lay_c91 hL) (inb_in (by decide)) dX12_also_12 ?_
    refine z_if_eq C 49 dX12_also_13 (by decide) (fun c2 => ?_) (fun c2 => ?_)
    · replace hf := ite_t c2 hf
      exact wX12_also_j49 C hs0 hL pp M x1 x2 hf
    · replace hf := ite_f c2 hf
      refine z_aload_n C 0 0 dX12_also_16 rfl rfl ?_
      refine z_getR C ok_X12 (lay_c90 hL) 0 (91) (by decide) rfl (lay_r90_0 hL) q_fl_X12_7 dX12_also_17 ?_
      refine z_bipush C 6 dX12_also_20 (by decide) ?_
      refine z_iald C (lay_c91 hL) (inb_in (by decide)) dX12_also_22 ?_
      refine z_iload_n C 2 2 dX12_also_23 rfl rfl ?_
      refine z_icmp_lt C 48 dX12_also_24 (by decide) (fun c10 => ?_) (fun c10 => ?_)
      · replace hf := ite_t c10 hf
        cases hf
        exact z_vret C rfl dX12_also_48
      · replace hf := ite_f c10 hf
        refine z_aload_n C 0 0 dX12_also_27 rfl rfl ?_
        refine z_getR C ok_X12 (lay_c90 hL) 0 (91) (by decide) rfl (lay_r90_0 hL) q_fl_X12_7 dX12_also_28 ?_
        refine z_bipush C 6 dX12_also_31 (by decide) ?_
        refine z_iald C (lay_c91 hL) (inb_in (by decide)) dX12_also_33 ?_
        refine z_iload_n C 2 2 dX12_also_34 rfl rfl ?_
        refine z_icmp_ne C 49 dX12_also_35 (by decide) (fun c11 => ?_) (fun c11 => ?_)
        · replace hf := ite_f c11 hf
          exact wX12_also_j49 C hs0 hL pp M x1 x2 hf
        · replace hf := ite_t c11 hf
          refine z_aload_n C 0 0 dX12_also_38 rfl rfl ?_
          refine z_getR C ok_X12 (lay_c90 hL) 0 (91) (by decide) rfl (lay_r90_0 hL) q_fl_X12_7 dX12_also_39 ?_
          refine z_iconst C 5 dX12_also_42 (by decide) ?_
          refine z_iald C (lay_c91 hL) (inb_in (by decide)) dX12_also_43 ?_
          refine z_iload_n C 1 1 dX12_also_44 rfl rfl ?_
          refine z_icmp_gt C 49 dX12_also_45 (by decide) (fun c12 => ?_) (fun c12 => ?_)
          · replace hf := ite_t c12 hf
            exact wX12_also_j49 C hs0 hL pp M x1 x2 hf
          · replace hf := ite_f c12 hf
            cases hf
            exact z_vret C rfl dX12_also_48
set_option maxHeartbeats 4000000 in
set_option maxRecDepth 100000 in
theorem wX12_numbered_j15 (C : CX p s m args meth c cX12_numbered 4 (some .int) RX12 G) (hs0 : s.heap.size = G.1 + K.1) (hL : Lay K)   (pp : (Int32 × MM))  (M2 : MM) (y3 : Int32) (hf : fX12_numbered_j15 M2 y3 = some pp) : Z p l e (rmo 5 0 0) s m args below meth c 4 G (MQ below (QC G (some (.int pp.1)) K pp.2) args s 0 0 (AG G)) K 0 0 M2 15 [(0, .ref (G.1 + 90)), (1, .int y3)] [] := by
  unfold fX12_numbered_j15 at hf
  refine z_aload_n C 0 0 dX12_numbered_15 rfl rfl ?_
  replace hf := bd_out hf
  obtain ⟨p4, e5, hf⟩ := hf
  refine z_cV0 C [] (tX12_ends l G hL M2  _ e5) lk_X12_ends ok_X12 (lay_c90 hL) q_ml_X12_138 rfl ⟨Nat.le_of_ble_eq_true rfl, Nat.le_of_ble_eq_true rfl⟩ rfl (Nat.le_of_ble_eq_true rfl) ⟨Nat.le_refl _, Nat.le_refl _⟩ dX12_numbered_16 ?_
  refine z_iload_n C 1 1 dX12_numbered_19 rfl rfl ?_
  cases hf
  exact z_iret C rfl dX12_numbered_20
set_option maxHeartbeats 4000000 in
set_option maxRecDepth 100000 in
theorem wX12_numbered_j44 (C : CX p s m args meth c cX12_numbered 4 (some .int) RX12 G) (hs0 : s.heap.size = G.1 + K.1) (hL : Lay K)   (pp : (Int32 × MM))  (M10 : MM) (y11 : Int32) (y12 : Int32) (y13 : Int32) (hf : fX12_numbered_j44 M10 y11 y12 y13 = some pp) : Z p l e (rmo 5 0 0) s m args below meth c 4 G (MQ below (QC G (some (.int pp.1)) K pp.2) args s 0 0 (AG G)) K 0 0 M10 44 [(0, .ref (G.1 + 90)), (1, .int y11), (2, .int y12), (3, .int y13)] [] := by
  unfold fX12_numbered_j44 at hf
  refine z_aload_n C 0 0 dX12_numbered_44 rfl rfl ?_
  replace hf := bd_out hf
  obtain ⟨p14, e15, hf⟩ := hf
  refine z_cV0 C [] (tX12_advance l G hL M10  _ e15) lk_X12_advance ok_X12 (lay_c90 hL) q_ml_X12_149 rfl ⟨Nat.le_of_ble_eq_true rfl, Nat.le_of_ble_eq_true rfl⟩ rfl (Nat.le_of_ble_eq_true rfl) ⟨Nat.le_refl _, Nat.le_refl _⟩ dX12_numbered_45 ?_
  refine z_iload_n C 3 3 dX12_numbered_48 rfl rfl ?_
  refine z_iload_n C 1 1 dX12_numbered_49 rfl rfl ?_
  refine z_iload_n C 2 2 dX12_numbered_50 rfl rfl ?_
  refine z_cS1 C [] (tX12_isIn l G hL p14 y13 y11 y12) lk_X12_isIn q_ml_X12_141 rfl ⟨Nat.le_of_ble_eq_true rfl, Nat.le_of_ble_eq_true rfl⟩ rfl (Nat.le_of_ble_eq_true rfl) ⟨Nat.le_refl _, Nat.le_refl _⟩ dX12_numbered_51 ?_
  refine z_if_eq C 61 dX12_numbered_54 (by decide) (fun c16 => ?_) (fun c16 => ?_)
  · replace hf := ite_t c16 hf
    refine z_iload_n C 1 1 dX12_numbered_61 rfl rfl ?_
    cases hf
    exact z_iret C rfl dX12_numbered_62
  · replace hf := ite_f c16 hf
    refine z_iload_n C 3 3 dX12_numbered_57 rfl rfl ?_
    refine z_goto C 62 dX12_numbered_58 (by decide) ?_
    cases hf
    exact z_iret C rfl dX12_numbered_62
set_option maxHeartbeats 4000000 in
set_option maxRecDepth 100000 in
theorem tX12_numbered (l : Launch) (G : GG) {K : SK} (hL : Lay K) (M : MM) (x1 : Int32) (x2 : Int32) (pp : (Int32 × MM)) (hf : fX12_numbered M x1 x2 = some pp) : Ct l yX12_numbered cX12_numbered 4 (some .int) 5 0 0 G K M [.ref (G.1 + 90), .int x1, .int x2] (some (.int pp.1)) K pp.2 := by
  refine z_enter (lv := [(0, .ref (G.1 + 90)), (1, .int x1), (2, .int x2)]) (by decide +kernel) (Nat.le_of_ble_eq_true rfl) rfl ?_
  intro p e s m args below meth c C hnm hs0
  replace C : CX p s m args meth c cX12_numbered 4 (some .int) RX12 G := C
  unfold fX12_numbered at hf
  refine z_aload_n C 0 0 dX12_numbered_0 rfl rfl ?_
  refine z_getI C ok_X12 (lay_c90 hL) 8 (by decide) rfl q_fl_X12_134 dX12_numbered_1 ?_
  refine z_if_ne C 15 dX12_numbered_4 (by decide) (fun c1 => ?_) (fun c1 => ?_)
  · replace hf := ite_f c1 hf
    refine z_lv (lv2 := [(0, .ref (G.1 + 90)), (1, .int x1)]) [0, 1] rfl ?_
    exact wX12_numbered_j15 C hs0 hL pp M x1 hf
  · replace hf := ite_t c1 hf
    refine z_aload_n C 0 0 dX12_numbered_7 rfl rfl ?_
    refine z_getI C ok_X12 (lay_c90 hL) 5 (by decide) rfl q_fl_X12_111 dX12_numbered_8 ?_
    refine z_iconst C 1 dX12_numbered_11 (by decide) ?_
    refine z_icmp_eq C 21 dX12_numbered_12 (by decide) (fun c6 => ?_) (fun c6 => ?_)
    · replace hf := ite_t c6 hf
      refine z_aload_n C 0 0 dX12_numbered_21 rfl rfl ?_
      refine z_getI C ok_X12 (lay_c90 hL) 6 (by decide) rfl q_fl_X12_131 dX12_numbered_22 ?_
      refine z_topi (fun v7 e8 => ?_)
      replace hf := bnd_out e8 hf
      refine z_istore_n C [(3, .int v7), (0, .ref (G.1 + 90)), (1, .int x1), (2, .int x2)] dX12_numbered_25 rfl (by decide) rfl rfl ?_
      refine z_iload_n C 0 3 dX12_numbered_26 rfl rfl ?_
      refine z_iload_n C 2 1 dX12_numbered_27 rfl rfl ?_
      refine z_iload_n C 3 2 dX12_numbered_28 rfl rfl ?_
      refine z_cS1 C [] (tX12_isIn l G hL M v7 x1 x2) lk_X12_isIn q_ml_X12_141 rfl ⟨Nat.le_of_ble_eq_true rfl, Nat.le_of_ble_eq_true rfl⟩ rfl (Nat.le_of_ble_eq_true rfl) ⟨Nat.le_refl _, Nat.le_refl _⟩ dX12_numbered_29 ?_
      refine z_if_ne C 44 dX12_numbered_32 (by decide) (fun c9 => ?_) (fun c9 => ?_)
      · replace hf := ite_f c9 hf
        refine z_lv (lv2 := [(0, .ref (G.1 + 90)), (1, .int x1), (2, .int x2), (3, .int v7)]) [1, 2, 3, 0] rfl ?_
        exact wX12_numbered_j44 C hs0 hL pp M x1 x2 v7 hf
      · replace hf := ite_t c9 hf
        refine z_aload_n C 1 0 dX12_numbered_35 rfl rfl ?_
        refine z_iconst C 2 dX12_numbered_36 (by decide) ?_
        refine z_aload_n C 1 0 dX12_numbered_37 rfl rfl ?_
        refine z_getI C ok_X12 (lay_c90 hL) 4 (by decide) rfl q_fl_X12_108 dX12_numbered_38 ?_
        replace hf := bd_out hf
        obtain ⟨p17, e18, hf⟩ := hf
        refine z_cV0 C [] (tX12_also l G hL M 2 (gI M 90 4) _ e18) lk_X12_also ok_X12 (lay_c90 hL) q_ml_X12_145 rfl ⟨Nat.le_of_ble_eq_true rfl, Nat.le_of_ble_eq_true rfl⟩ rfl (Nat.le_of_ble_eq_true rfl) ⟨Nat.le_refl _, Nat.le_refl _⟩ dX12_numbered_41 ?_
        refine z_lv (lv2 := [(0, .ref (G.1 + 90)), (1, .int x1), (2, .int x2), (3, .int v7)]) [1, 2, 3, 0] rfl ?_
        exact wX12_numbered_j44 C hs0 hL pp p17 x1 x2 v7 hf
    · replace hf := ite_f c6 hf
      refine z_lv (lv2 := [(0, .ref (G.1 + 90)), (1, .int x1)]) [0, 1] rfl ?_
      exact wX12_numbered_j15 C hs0 hL pp M x1 hf
set_option maxHeartbeats 4000000 in
set_option maxRecDepth 100000 in
theorem wX12_takes_j27 (C : CX p s m args meth c cX12_takes 4 (some .int) RX12 G) (hs0 : s.heap.size = G.1 + K.1) (hL : Lay K)   (pp : (Int32 × MM))  (M2 : MM) (hf : fX12_takes_j27 M2 = some pp) : Z p l e (rmo 5 0 0) s m args below meth c 4 G (MQ below (QC G (some (.int pp.1)) K pp.2) args s 0 0 (AG G)) K 0 0 M2 27 [(0, .ref (G.1 + 90))] [] := by
  unfold fX12_takes_j27 at hf
  refine z_aload_n C 0 0 dX12_takes_27 rfl rfl ?_
  replace hf := bd_out hf
  obtain ⟨p3, e4, hf⟩ := hf
  refine z_cV0 C [] (tX12_ends l G hL M2  _ e4) lk_X12_ends ok_X12 (lay_c90 hL) q_ml_X12_138 rfl ⟨Nat.le_of_ble_eq_true rfl, Nat.le_of_ble_eq_true rfl⟩ rfl (Nat.le_of_ble_eq_true rfl) ⟨Nat.le_refl _, Nat.le_refl _⟩ dX12_takes_28 ?_
  refine z_iconst C 0 dX12_takes_31 (by decide) ?_
  cases hf
  exact z_iret C rfl dX12_takes_32
set_option maxHeartbeats 4000000 in
set_option maxRecDepth 100000 in
theorem tX12_takes (l : Launch) (G : GG) {K : SK} (hL : Lay K) (M : MM) (x1 : Int32) (x2 : Int32) (pp : (Int32 × MM)) (hf : fX12_takes M x1 x2 = some pp) : Ct l yX12_takes cX12_takes 4 (some .int) 5 0 0 G K M [.ref (G.1 + 90), .int x1, .int x2] (some (.int pp.1)) K pp.2 := by
  refine z_enter (lv := [(0, .ref (G.1 + 90)), (1, .int x1), (2, .int x2)]) (by decide +kernel) (Nat.le_of_ble_eq_true rfl) rfl ?_
  intro p e s m args below meth c C hnm hs0
  replace C : CX p s m args meth c cX12_takes 4 (some .int) RX12 G := C
  unfold fX12_takes at hf
  refine z_aload_n C 0 0 dX12_takes_0 rfl rfl ?_
  refine z_getI C ok_X12 (lay_c90 hL) 8 (by decide) rfl q_fl_X12_134 dX12_takes_1 ?_
  refine z_if_ne C 27 dX12_takes_4 (by decide) (fun c1 => ?_) (fun c1 => ?_)
  · replace hf := ite_f c1 hf
    refine z_lv (lv2 := [(0, .ref (G.1 + 90))]) [0] rfl ?_
    exact wX12_takes_j27 C hs0 hL pp M hf
  · replace hf := ite_t c1 hf
    refine z_aload_n C 0 0 dX12_takes_7 rfl rfl ?_
    refine z_getI C ok_X12 (lay_c90 hL) 5 (by decide) rfl q_fl_X12_111 dX12_takes_8 ?_
    refine z_iconst C 3 dX12_takes_11 (by decide) ?_
    refine z_icmp_ne C 27 dX12_takes_12 (by decide) (fun c5 => ?_) (fun c5 => ?_)
    · replace hf := ite_f c5 hf
      refine z_lv (lv2 := [(0, .ref (G.1 + 90))]) [0] rfl ?_
      exact wX12_takes_j27 C hs0 hL pp M hf
    · replace hf := ite_t c5 hf
      refine z_aload_n C 0 0 dX12_takes_15 rfl rfl ?_
      refine z_getI C ok_X12 (lay_c90 hL) 7 (by decide) rfl q_fl_X12_125 dX12_takes_16 ?_
      refine z_iload_n C 1 1 dX12_takes_19 rfl rfl ?_
      refine z_iload_n C 2 2 dX12_takes_20 rfl rfl ?_
      refine z_cS1 C [] (tX12_isIn l G hL M (gI M 90 7) x1 x2) lk_X12_isIn q_ml_X12_141 rfl ⟨Nat.le_of_ble_eq_true rfl, Nat.le_of_ble_eq_true rfl⟩ rfl (Nat.le_of_ble_eq_true rfl) ⟨Nat.le_refl _, Nat.le_refl _⟩ dX12_takes_21 ?_
      refine z_if_ne C 33 dX12_takes_24 (by decide) (fun c6 => ?_) (fun c6 => ?_)
      · replace hf := ite_f c6 hf
        refine z_aload_n C 0 0 dX12_takes_33 rfl rfl ?_
        refine z_getI C ok_X12 (lay_c90 hL) 7 (by decide) rfl q_fl_X12_125 dX12_takes_34 ?_
        refine z_topi (fun v7 e8 => ?_)
        replace hf := bnd_out e8 hf
        refine z_istore_n C [(3, .int v7), (0, .ref (G.1 + 90)), (1, .int x1), (2, .int x2)] dX12_takes_37 rfl (by decide) rfl rfl ?_
        refine z_aload_n C 1 0 dX12_takes_38 rfl rfl ?_
        replace hf := bd_out hf
        obtain ⟨p9, e10, hf⟩ := hf
        refine z_cV0 C [] (tX12_advance l G hL M  _ e10) lk_X12_advance ok_X12 (lay_c90 hL) q_ml_X12_149 rfl ⟨Nat.le_of_ble_eq_true rfl, Nat.le_of_ble_eq_true rfl⟩ rfl (Nat.le_of_ble_eq_true rfl) ⟨Nat.le_refl _, Nat.le_refl _⟩ dX12_takes_39 ?_
        refine z_iload_n C 0 3 dX12_takes_42 rfl rfl ?_
        cases hf
        exact z_iret C rfl dX12_takes_43
      · replace hf := ite_t c6 hf
        refine z_lv (lv2 := [(0, .ref (G.1 + 90))]) [0] rfl ?_
        exact wX12_takes_j27 C hs0 hL pp M hf
set_option maxHeartbeats 4000000 in
set_option maxRecDepth 100000 in
theorem wX12_endsLine_j22 (C : CX p s m args meth c cX12_endsLine 1 none RX12 G) (hs0 : s.heap.size = G.1 + K.1) (hL : Lay K)   (pp : MM)  (M2 : MM) (hf : fX12_endsLine_j22 M2 = some pp) : Z p l e (rmo 5 0 0) s m args below meth c 1 G (MQ below (QC G none K pp) args s 0 0 (AG G)) K 0 0 M2 22 [(0, .ref (G.1 + 90))] [] := by
  unfold fX12_endsLine_j22 at hf
  refine z_aload_n C 0 0 dX12_endsLine_22 rfl rfl ?_
  replace hf := bd_out hf
  obtain ⟨p3, e4, hf⟩ := hf
  refine z_cV0 C [] (tX12_ends l G hL M2  _ e4) lk_X12_ends ok_X12 (lay_c90 hL) q_ml_X12_138 rfl ⟨Nat.le_of_ble_eq_true rfl, Nat.le_of_ble_eq_true rfl⟩ rfl (Nat.le_of_ble_eq_true rfl) ⟨Nat.le_refl _, Nat.le_refl _⟩ dX12_endsLine_23 ?_
  cases hf
  exact z_vret C rfl dX12_endsLine_26
set_option maxHeartbeats 4000000 in
set_option maxRecDepth 100000 in
theorem tX12_endsLine (l : Launch) (G : GG) {K : SK} (hL : Lay K) (M : MM)  (pp : MM) (hf : fX12_endsLine M = some pp) : Ct l yX12_endsLine cX12_endsLine 1 none 5 0 0 G K M [.ref (G.1 + 90)] none K pp := by
  refine z_enter (lv := [(0, .ref (G.1 + 90))]) (by decide +kernel) (Nat.le_of_ble_eq_true rfl) rfl ?_
  intro p e s m args below meth c C hnm hs0
  replace C : CX p s m args meth c cX12_endsLine 1 none RX12 G := C
  unfold fX12_endsLine at hf
  refine z_aload_n C 0 0 dX12_endsLine_0 rfl rfl ?_
  refine z_getI C ok_X12 (lay_c90 hL) 8 (by decide) rfl q_fl_X12_134 dX12_endsLine_1 ?_
  refine z_if_ne C 22 dX12_endsLine_4 (by decide) (fun c1 => ?_) (fun c1 => ?_)
  · replace hf := ite_f c1 hf
    exact wX12_endsLine_j22 C hs0 hL pp M hf
  · replace hf := ite_t c1 hf
    refine z_aload_n C 0 0 dX12_endsLine_7 rfl rfl ?_
    refine z_getI C ok_X12 (lay_c90 hL) 5 (by decide) rfl q_fl_X12_111 dX12_endsLine_8 ?_
    refine z_iconst C 2 dX12_endsLine_11 (by decide) ?_
    refine z_icmp_ne C 22 dX12_endsLine_12 (by decide) (fun c5 => ?_) (fun c5 => ?_)
    · replace hf := ite_f c5 hf
      exact wX12_endsLine_j22 C hs0 hL pp M hf
    · replace hf := ite_t c5 hf
      refine z_aload_n C 0 0 dX12_endsLine_15 rfl rfl ?_
      replace hf := bd_out hf
      obtain ⟨p6, e7, hf⟩ := hf
      refine z_cV0 C [] (tX12_advance l G hL M  _ e7) lk_X12_advance ok_X12 (lay_c90 hL) q_ml_X12_149 rfl ⟨Nat.le_of_ble_eq_true rfl, Nat.le_of_ble_eq_true rfl⟩ rfl (Nat.le_of_ble_eq_true rfl) ⟨Nat.le_refl _, Nat.le_refl _⟩ dX12_endsLine_16 ?_
      refine z_goto C 26 dX12_endsLine_19 (by decide) ?_
      cases hf
      exact z_vret C rfl dX12_endsLine_26
set_option maxHeartbeats 4000000 in
set_option maxRecDepth 100000 in
theorem wX12_squareTold_j53 (C : CX p s m args meth c cX12_squareTold 3 (some .int) RX12 G) (hs0 : s.heap.size = G.1 + K.1) (hL : Lay K)   (pp : (Int32 × MM))  (M13 : MM) (y14 : Int32) (y15 : Int32) (y16 : Int32) (hf : fX12_squareTold_j53 M13 y14 y15 y16 = some pp) : Z p l e (rmo 6 0 0) s m args below meth c 3 G (MQ below (QC G (some (.int pp.1)) K pp.2) args s 0 0 (AG G)) K 0 0 M13 53 [(1, .int y14), (2, .int y15)] [.int y16, .ref (G.1 + 90)] := by
  unfold fX12_squareTold_j53 at hf
  refine z_putI C ok_X12 (lay_c90 hL) 10 (by decide) rfl rfl rfl rfl q_fl_X12_159 dX12_squareTold_53 ?_
  refine z_M (fun M17 e18 => ?_)
  replace hf := bnd_out e18 hf
  refine z_bipush C 8 dX12_squareTold_56 (by decide) ?_
  refine z_iload_n C 1 2 dX12_squareTold_58 rfl rfl ?_
  refine z_imul C dX12_squareTold_59 ?_
  refine z_iload_n C 0 1 dX12_squareTold_60 rfl rfl ?_
  refine z_iadd C dX12_squareTold_61 ?_
  cases hf
  exact z_iret C rfl dX12_squareTold_62
set_option maxHeartbeats 4000000 in
set_option maxRecDepth 100000 in
theorem wX12_squareTold_j33 (C : CX p s m args meth c cX12_squareTold 3 (some .int) RX12 G) (hs0 : s.heap.size = G.1 + K.1) (hL : Lay K)   (pp : (Int32 × MM))  (M6 : MM) (y7 : Int32) (y8 : Int32) (y9 : Int32) (hf : fX12_squareTold_j33 M6 y7 y8 y9 = some pp) : Z p l e (rmo 6 0 0) s m args below meth c 3 G (MQ below (QC G (some (.int pp.1)) K pp.2) args s 0 0 (AG G)) K 0 0 M6 33 [(0, .ref (G.1 + 90)), (1, .int y7), (2, .int y8)] [.int y9, .ref (G.1 + 90)] := by
  unfold fX12_squareTold_j33 at hf
  refine z_putI C ok_X12 (lay_c90 hL) 9 (by decide) rfl rfl rfl rfl q_fl_X12_156 dX12_squareTold_33 ?_
  refine z_M (fun M10 e11 => ?_)
  replace hf := bnd_out e11 hf
  refine z_aload_n C 0 0 dX12_squareTold_36 rfl rfl ?_
  refine z_iload_n C 2 2 dX12_squareTold_37 rfl rfl ?_
  refine z_aload_n C 0 0 dX12_squareTold_38 rfl rfl ?_
  refine z_getI C ok_X12 (lay_c90 hL) 10 (by decide) rfl q_fl_X12_159 dX12_squareTold_39 ?_
  refine z_icmp_le C 49 dX12_squareTold_42 (by decide) (fun c12 => ?_) (fun c12 => ?_)
  · replace hf := ite_t c12 hf
    refine z_aload_n C 0 0 dX12_squareTold_49 rfl rfl ?_
    refine z_getI C ok_X12 (lay_c90 hL) 10 (by decide) rfl q_fl_X12_159 dX12_squareTold_50 ?_
    refine z_lv (lv2 := [(1, .int y7), (2, .int y8)]) [1, 2] rfl ?_
    exact wX12_squareTold_j53 C hs0 hL pp M10 y7 y8 (gI M10 90 10) hf
  · replace hf := ite_f c12 hf
    refine z_iload_n C 2 2 dX12_squareTold_45 rfl rfl ?_
    refine z_goto C 53 dX12_squareTold_46 (by decide) ?_
    refine z_lv (lv2 := [(1, .int y7), (2, .int y8)]) [1, 2] rfl ?_
    exact wX12_squareTold_j53 C hs0 hL pp M10 y7 y8 y8 hf
set_option maxHeartbeats 4000000 in
set_option maxRecDepth 100000 in
theorem tX12_squareTold (l : Launch) (G : GG) {K : SK} (hL : Lay K) (M : MM)  (pp : (Int32 × MM)) (hf : fX12_squareTold M = some pp) : Ct l yX12_squareTold cX12_squareTold 3 (some .int) 6 0 0 G K M [.ref (G.1 + 90)] (some (.int pp.1)) K pp.2 := by
  refine z_enter (lv := [(0, .ref (G.1 + 90))]) (by decide +kernel) (Nat.le_of_ble_eq_true rfl) rfl ?_
  intro p e s m args below meth c C hnm hs0
  replace C : CX p s m args meth c cX12_squareTold 3 (some .int) RX12 G := C
  unfold fX12_squareTold at hf
  refine z_aload_n C 0 0 dX12_squareTold_0 rfl rfl ?_
  refine z_iconst C 0 dX12_squareTold_1 (by decide) ?_
  refine z_bipush C 7 dX12_squareTold_2 (by decide) ?_
  replace hf := bd_out hf
  obtain ⟨p1, e2, hf⟩ := hf
  refine z_cV1 C [] (tX12_numbered l G hL M 0 7 _ e2) lk_X12_numbered ok_X12 (lay_c90 hL) q_ml_X12_152 rfl ⟨Nat.le_of_ble_eq_true rfl, Nat.le_of_ble_eq_true rfl⟩ rfl (Nat.le_of_ble_eq_true rfl) ⟨Nat.le_refl _, Nat.le_refl _⟩ dX12_squareTold_4 ?_
  refine z_istore_n C [(1, .int p1.1), (0, .ref (G.1 + 90))] dX12_squareTold_7 rfl (by decide) rfl rfl ?_
  refine z_aload_n C 1 0 dX12_squareTold_8 rfl rfl ?_
  refine z_iconst C 0 dX12_squareTold_9 (by decide) ?_
  refine z_bipush C 7 dX12_squareTold_10 (by decide) ?_
  replace hf := bd_out hf
  obtain ⟨p3, e4, hf⟩ := hf
  refine z_cV1 C [] (tX12_numbered l G hL p1.2 0 7 _ e4) lk_X12_numbered ok_X12 (lay_c90 hL) q_ml_X12_152 rfl ⟨Nat.le_of_ble_eq_true rfl, Nat.le_of_ble_eq_true rfl⟩ rfl (Nat.le_of_ble_eq_true rfl) ⟨Nat.le_refl _, Nat.le_refl _⟩ dX12_squareTold_12 ?_
  refine z_istore_n C [(2, .int p3.1), (1, .int p1.1), (0, .ref (G.1 + 90))] dX12_squareTold_15 rfl (by decide) rfl rfl ?_
  refine z_aload_n C 2 0 dX12_squareTold_16 rfl rfl ?_
  refine z_iload_n C 1 1 dX12_squareTold_17 rfl rfl ?_
  refine z_aload_n C 2 0 dX12_squareTold_18 rfl rfl ?_
  refine z_getI C ok_X12 (lay_c90 hL) 9 (by decide) rfl q_fl_X12_156 dX12_squareTold_19 ?_
  refine z_icmp_le C 29 dX12_squareTold_22 (by decide) (fun c5 => ?_) (fun c5 => ?_)
  · replace hf := ite_t c5 hf
    refine z_aload_n C 2 0 dX12_squareTold_29 rfl rfl ?_
    refine z_getI C ok_X12 (lay_c90 hL) 9 (by decide) rfl q_fl_X12_156 dX12_squareTold_30 ?_
    refine z_lv (lv2 := [(0, .ref (G.1 + 90)), (1, .int p1.1), (2, .int p3.1)]) [2, 1, 0] rfl ?_
    exact wX12_squareTold_j33 C hs0 hL pp p3.2 p1.1 p3.1 (gI p3.2 90 9) hf
  · replace hf := ite_f c5 hf
    refine z_iload_n C 1 1 dX12_squareTold_25 rfl rfl ?_
    refine z_goto C 33 dX12_squareTold_26 (by decide) ?_
    refine z_lv (lv2 := [(0, .ref (G.1 + 90)), (1, .int p1.1), (2, .int p3.1)]) [2, 1, 0] rfl ?_
    exact wX12_squareTold_j33 C hs0 hL pp p3.2 p1.1 p3.1 p1.1 hf
set_option maxHeartbeats 4000000 in
set_option maxRecDepth 100000 in
theorem wX12_personLine_j27 (C : CX p s m args meth c cX12_personLine 5 none RX12 G) (hs0 : s.heap.size = G.1 + K.1) (hL : Lay K)   (pp : MM)  (M6 : MM) (y7 : Int32) (hf : fX12_personLine_j27 M6 y7 = some pp) : Z p l e (rmo 7 0 0) s m args below meth c 5 G (MQ below (QC G none K pp) args s 0 0 (AG G)) K 0 0 M6 27 [(0, .ref (G.1 + 90)), (2, .int y7)] [] := by
  unfold fX12_personLine_j27 at hf
  refine z_aload_n C 0 0 dX12_personLine_27 rfl rfl ?_
  replace hf := bd_out hf
  obtain ⟨p8, e9, hf⟩ := hf
  refine z_cV1 C [] (tX12_squareTold l G hL M6  _ e9) lk_X12_squareTold ok_X12 (lay_c90 hL) q_ml_X12_162 rfl ⟨Nat.le_of_ble_eq_true rfl, Nat.le_of_ble_eq_true rfl⟩ rfl (Nat.le_of_ble_eq_true rfl) ⟨Nat.le_refl _, Nat.le_refl _⟩ dX12_personLine_28 ?_
  refine z_istore_n C [(3, .int p8.1), (0, .ref (G.1 + 90)), (2, .int y7)] dX12_personLine_31 rfl (by decide) rfl rfl ?_
  refine z_aload_n C 1 0 dX12_personLine_32 rfl rfl ?_
  refine z_iconst C 0 dX12_personLine_33 (by decide) ?_
  refine z_bipush C 9 dX12_personLine_34 (by decide) ?_
  replace hf := bd_out hf
  obtain ⟨p10, e11, hf⟩ := hf
  refine z_cV1 C [] (tX12_numbered l G hL p8.2 0 9 _ e11) lk_X12_numbered ok_X12 (lay_c90 hL) q_ml_X12_152 rfl ⟨Nat.le_of_ble_eq_true rfl, Nat.le_of_ble_eq_true rfl⟩ rfl (Nat.le_of_ble_eq_true rfl) ⟨Nat.le_refl _, Nat.le_refl _⟩ dX12_personLine_36 ?_
  refine z_istore C [(4, .int p10.1), (3, .int p8.1), (0, .ref (G.1 + 90)), (2, .int y7)] dX12_personLine_39 (by decide) rfl rfl ?_
  refine z_iload_n C 3 2 dX12_personLine_41 rfl rfl ?_
  refine z_if_ne C 46 dX12_personLine_42 (by decide) (fun c12 => ?_) (fun c12 => ?_)
  · replace hf := ite_f c12 hf
    refine z_aload_n C 2 0 dX12_personLine_46 rfl rfl ?_
    refine z_getR C ok_X12 (lay_c90 hL) 11 (93) (by decide) rfl (lay_r90_11 hL) q_fl_X12_17 dX12_personLine_47 ?_
    refine z_bipush C 68 dX12_personLine_50 (by decide) ?_
    refine z_iconst C 2 dX12_personLine_52 (by decide) ?_
    refine z_aload_n C 2 0 dX12_personLine_53 rfl rfl ?_
    refine z_getR C ok_X12 (lay_c90 hL) 11 (93) (by decide) rfl (lay_r90_11 hL) q_fl_X12_17 dX12_personLine_54 ?_
    refine z_iconst C 2 dX12_personLine_57 (by decide) ?_
    refine z_iald C (lay_c93 hL) (inb_in (by decide)) dX12_personLine_58 ?_
    refine z_imul C dX12_personLine_59 ?_
    refine z_iadd C dX12_personLine_60 ?_
    refine z_iload_n C 1 3 dX12_personLine_61 rfl rfl ?_
    replace hf := gd_out hf
    obtain ⟨g13, hf⟩ := hf
    refine z_iast C (lay_c93 hL) (inb_in g13) dX12_personLine_62 ?_
    refine z_M (fun M14 e15 => ?_)
    replace hf := bnd_out e15 hf
    refine z_aload_n C 2 0 dX12_personLine_63 rfl rfl ?_
    refine z_getR C ok_X12 (lay_c90 hL) 11 (93) (by decide) rfl (lay_r90_11 hL) q_fl_X12_17 dX12_personLine_64 ?_
    refine z_bipush C 68 dX12_personLine_67 (by decide) ?_
    refine z_iconst C 2 dX12_personLine_69 (by decide) ?_
    refine z_aload_n C 2 0 dX12_personLine_70 rfl rfl ?_
    refine z_getR C ok_X12 (lay_c90 hL) 11 (93) (by decide) rfl (lay_r90_11 hL) q_fl_X12_17 dX12_personLine_71 ?_
    refine z_iconst C 2 dX12_personLine_74 (by decide) ?_
    refine z_iald C (lay_c93 hL) (inb_in (by decide)) dX12_personLine_75 ?_
    refine z_imul C dX12_personLine_76 ?_
    refine z_iadd C dX12_personLine_77 ?_
    refine z_iconst C 1 dX12_personLine_78 (by decide) ?_
    refine z_iadd C dX12_personLine_79 ?_
    refine z_iload C 0 dX12_personLine_80 rfl ?_
    replace hf := gd_out hf
    obtain ⟨g16, hf⟩ := hf
    refine z_iast C (lay_c93 hL) (inb_in g16) dX12_personLine_82 ?_
    refine z_M (fun M17 e18 => ?_)
    replace hf := bnd_out e18 hf
    refine z_aload_n C 2 0 dX12_personLine_83 rfl rfl ?_
    refine z_getR C ok_X12 (lay_c90 hL) 11 (93) (by decide) rfl (lay_r90_11 hL) q_fl_X12_17 dX12_personLine_84 ?_
    refine z_iconst C 2 dX12_personLine_87 (by decide) ?_
    refine z_dup2 C rfl rfl dX12_personLine_88 ?_
    refine z_iald C (lay_c93 hL) (inb_in (by decide)) dX12_personLine_89 ?_
    refine z_iconst C 1 dX12_personLine_90 (by decide) ?_
    refine z_iadd C dX12_personLine_91 ?_
    refine z_iast C (lay_c93 hL) (inb_in (by decide)) dX12_personLine_92 ?_
    refine z_M (fun M19 e20 => ?_)
    replace hf := bnd_out e20 hf
    cases hf
    exact z_vret C rfl dX12_personLine_93
  · replace hf := ite_t c12 hf
    cases hf
    exact z_vret C rfl dX12_personLine_45
set_option maxHeartbeats 4000000 in
set_option maxRecDepth 100000 in
theorem wX12_personLine_j16 (C : CX p s m args meth c cX12_personLine 5 none RX12 G) (hs0 : s.heap.size = G.1 + K.1) (hL : Lay K)   (pp : MM)  (M2 : MM) (y3 : Int32) (y4 : Int32) (hf : fX12_personLine_j16 M2 y3 y4 = some pp) : Z p l e (rmo 7 0 0) s m args below meth c 5 G (MQ below (QC G none K pp) args s 0 0 (AG G)) K 0 0 M2 16 [(0, .ref (G.1 + 90)), (1, .int y3)] [.int y4] := by
  unfold fX12_personLine_j16 at hf
  refine z_istore_n C [(2, .int y4), (0, .ref (G.1 + 90)), (1, .int y3)] dX12_personLine_16 rfl (by decide) rfl rfl ?_
  refine z_iload_n C 0 2 dX12_personLine_17 rfl rfl ?_
  refine z_if_ne C 27 dX12_personLine_18 (by decide) (fun c5 => ?_) (fun c5 => ?_)
  · replace hf := ite_f c5 hf
    refine z_lv (lv2 := [(0, .ref (G.1 + 90)), (2, .int y4)]) [1, 0] rfl ?_
    exact wX12_personLine_j27 C hs0 hL pp M2 y4 hf
  · replace hf := ite_t c5 hf
    refine z_aload_n C 1 0 dX12_personLine_21 rfl rfl ?_
    refine z_iconst C 3 dX12_personLine_22 (by decide) ?_
    refine z_iload_n C 2 1 dX12_personLine_23 rfl rfl ?_
    replace hf := bd_out hf
    obtain ⟨p21, e22, hf⟩ := hf
    refine z_cV0 C [] (tX12_also l G hL M2 3 y3 _ e22) lk_X12_also ok_X12 (lay_c90 hL) q_ml_X12_145 rfl ⟨Nat.le_of_ble_eq_true rfl, Nat.le_of_ble_eq_true rfl⟩ rfl (Nat.le_of_ble_eq_true rfl) ⟨Nat.le_refl _, Nat.le_refl _⟩ dX12_personLine_24 ?_
    refine z_lv (lv2 := [(0, .ref (G.1 + 90)), (2, .int y4)]) [1, 0] rfl ?_
    exact wX12_personLine_j27 C hs0 hL pp p21 y4 hf
set_option maxHeartbeats 4000000 in
set_option maxRecDepth 100000 in
theorem tX12_personLine (l : Launch) (G : GG) {K : SK} (hL : Lay K) (M : MM) (x1 : Int32) (pp : MM) (hf : fX12_personLine M x1 = some pp) : Ct l yX12_personLine cX12_personLine 5 none 7 0 0 G K M [.ref (G.1 + 90), .int x1] none K pp := by
  refine z_enter (lv := [(0, .ref (G.1 + 90)), (1, .int x1)]) (by decide +kernel) (Nat.le_of_ble_eq_true rfl) rfl ?_
  intro p e s m args below meth c C hnm hs0
  replace C : CX p s m args meth c cX12_personLine 5 none RX12 G := C
  unfold fX12_personLine at hf
  refine z_aload_n C 0 0 dX12_personLine_0 rfl rfl ?_
  refine z_getR C ok_X12 (lay_c90 hL) 11 (93) (by decide) rfl (lay_r90_11 hL) q_fl_X12_17 dX12_personLine_1 ?_
  refine z_iconst C 2 dX12_personLine_4 (by decide) ?_
  refine z_iald C (lay_c93 hL) (inb_in (by decide)) dX12_personLine_5 ?_
  refine z_bipush C 8 dX12_personLine_6 (by decide) ?_
  refine z_icmp_ge C 15 dX12_personLine_8 (by decide) (fun c1 => ?_) (fun c1 => ?_)
  · replace hf := ite_t c1 hf
    refine z_iconst C 0 dX12_personLine_15 (by decide) ?_
    exact wX12_personLine_j16 C hs0 hL pp M x1 0 hf
  · replace hf := ite_f c1 hf
    refine z_iconst C 1 dX12_personLine_11 (by decide) ?_
    refine z_goto C 16 dX12_personLine_12 (by decide) ?_
    exact wX12_personLine_j16 C hs0 hL pp M x1 1 hf
set_option maxHeartbeats 4000000 in
set_option maxRecDepth 100000 in
theorem wX12_shineLine_j27 (C : CX p s m args meth c cX12_shineLine 9 none RX12 G) (hs0 : s.heap.size = G.1 + K.1) (hL : Lay K)   (pp : MM)  (M7 : MM) (y8 : Int32) (y9 : Int32) (hf : fX12_shineLine_j27 M7 y8 y9 = some pp) : Z p l e (rmo 7 0 0) s m args below meth c 9 G (MQ below (QC G none K pp) args s 0 0 (AG G)) K 0 0 M7 27 [(0, .ref (G.1 + 90)), (2, .int y8), (3, .int y9)] [] := by
  unfold fX12_shineLine_j27 at hf
  refine z_aload_n C 0 0 dX12_shineLine_27 rfl rfl ?_
  replace hf := bd_out hf
  obtain ⟨p10, e11, hf⟩ := hf
  refine z_cV1 C [] (tX12_squareTold l G hL M7  _ e11) lk_X12_squareTold ok_X12 (lay_c90 hL) q_ml_X12_162 rfl ⟨Nat.le_of_ble_eq_true rfl, Nat.le_of_ble_eq_true rfl⟩ rfl (Nat.le_of_ble_eq_true rfl) ⟨Nat.le_refl _, Nat.le_refl _⟩ dX12_shineLine_28 ?_
  refine z_istore C [(4, .int p10.1), (0, .ref (G.1 + 90)), (2, .int y8), (3, .int y9)] dX12_shineLine_31 (by decide) rfl rfl ?_
  refine z_aload_n C 1 0 dX12_shineLine_33 rfl rfl ?_
  refine z_iconst C 0 dX12_shineLine_34 (by decide) ?_
  refine z_bipush C 7 dX12_shineLine_35 (by decide) ?_
  replace hf := bd_out hf
  obtain ⟨p12, e13, hf⟩ := hf
  refine z_cV1 C [] (tX12_numbered l G hL p10.2 0 7 _ e13) lk_X12_numbered ok_X12 (lay_c90 hL) q_ml_X12_152 rfl ⟨Nat.le_of_ble_eq_true rfl, Nat.le_of_ble_eq_true rfl⟩ rfl (Nat.le_of_ble_eq_true rfl) ⟨Nat.le_refl _, Nat.le_refl _⟩ dX12_shineLine_37 ?_
  refine z_istore C [(5, .int p12.1), (4, .int p10.1), (0, .ref (G.1 + 90)), (2, .int y8), (3, .int y9)] dX12_shineLine_40 (by decide) rfl rfl ?_
  refine z_aload_n C 2 0 dX12_shineLine_42 rfl rfl ?_
  refine z_iconst C 1 dX12_shineLine_43 (by decide) ?_
  refine z_bipush C 9 dX12_shineLine_44 (by decide) ?_
  replace hf := bd_out hf
  obtain ⟨p14, e15, hf⟩ := hf
  refine z_cV1 C [] (tX12_numbered l G hL p12.2 1 9 _ e15) lk_X12_numbered ok_X12 (lay_c90 hL) q_ml_X12_152 rfl ⟨Nat.le_of_ble_eq_true rfl, Nat.le_of_ble_eq_true rfl⟩ rfl (Nat.le_of_ble_eq_true rfl) ⟨Nat.le_refl _, Nat.le_refl _⟩ dX12_shineLine_46 ?_
  refine z_istore C [(6, .int p14.1), (5, .int p12.1), (4, .int p10.1), (0, .ref (G.1 + 90)), (2, .int y8), (3, .int y9)] dX12_shineLine_49 (by decide) rfl rfl ?_
  refine z_aload_n C 3 0 dX12_shineLine_51 rfl rfl ?_
  refine z_iconst C 0 dX12_shineLine_52 (by decide) ?_
  refine z_iconst C 3 dX12_shineLine_53 (by decide) ?_
  replace hf := bd_out hf
  obtain ⟨p16, e17, hf⟩ := hf
  refine z_cV1 C [] (tX12_numbered l G hL p14.2 0 3 _ e17) lk_X12_numbered ok_X12 (lay_c90 hL) q_ml_X12_152 rfl ⟨Nat.le_of_ble_eq_true rfl, Nat.le_of_ble_eq_true rfl⟩ rfl (Nat.le_of_ble_eq_true rfl) ⟨Nat.le_refl _, Nat.le_refl _⟩ dX12_shineLine_54 ?_
  refine z_istore C [(7, .int p16.1), (6, .int p14.1), (5, .int p12.1), (4, .int p10.1), (0, .ref (G.1 + 90)), (2, .int y8), (3, .int y9)] dX12_shineLine_57 (by decide) rfl rfl ?_
  refine z_iload_n C 6 3 dX12_shineLine_59 rfl rfl ?_
  refine z_if_ne C 64 dX12_shineLine_60 (by decide) (fun c18 => ?_) (fun c18 => ?_)
  · replace hf := ite_f c18 hf
    refine z_bipush C 84 dX12_shineLine_64 (by decide) ?_
    refine z_iconst C 5 dX12_shineLine_66 (by decide) ?_
    refine z_aload_n C 4 0 dX12_shineLine_67 rfl rfl ?_
    refine z_getR C ok_X12 (lay_c90 hL) 11 (93) (by decide) rfl (lay_r90_11 hL) q_fl_X12_17 dX12_shineLine_68 ?_
    refine z_iconst C 3 dX12_shineLine_71 (by decide) ?_
    refine z_iald C (lay_c93 hL) (inb_in (by decide)) dX12_shineLine_72 ?_
    refine z_imul C dX12_shineLine_73 ?_
    refine z_iadd C dX12_shineLine_74 ?_
    refine z_topi (fun v19 e20 => ?_)
    replace hf := bnd_out e20 hf
    refine z_istore C [(8, .int v19), (7, .int p16.1), (6, .int p14.1), (5, .int p12.1), (4, .int p10.1), (0, .ref (G.1 + 90)), (2, .int y8), (3, .int y9)] dX12_shineLine_75 (by decide) rfl rfl ?_
    refine z_aload_n C 5 0 dX12_shineLine_77 rfl rfl ?_
    refine z_getR C ok_X12 (lay_c90 hL) 11 (93) (by decide) rfl (lay_r90_11 hL) q_fl_X12_17 dX12_shineLine_78 ?_
    refine z_iload C 0 dX12_shineLine_81 rfl ?_
    refine z_iload_n C 6 2 dX12_shineLine_83 rfl rfl ?_
    replace hf := gd_out hf
    obtain ⟨g21, hf⟩ := hf
    refine z_iast C (lay_c93 hL) (inb_in g21) dX12_shineLine_84 ?_
    refine z_M (fun M22 e23 => ?_)
    replace hf := bnd_out e23 hf
    refine z_aload_n C 5 0 dX12_shineLine_85 rfl rfl ?_
    refine z_getR C ok_X12 (lay_c90 hL) 11 (93) (by decide) rfl (lay_r90_11 hL) q_fl_X12_17 dX12_shineLine_86 ?_
    refine z_iload C 0 dX12_shineLine_89 rfl ?_
    refine z_iconst C 1 dX12_shineLine_91 (by decide) ?_
    refine z_iadd C dX12_shineLine_92 ?_
    refine z_iload C 4 dX12_shineLine_93 rfl ?_
    replace hf := gd_out hf
    obtain ⟨g24, hf⟩ := hf
    refine z_iast C (lay_c93 hL) (inb_in g24) dX12_shineLine_95 ?_
    refine z_M (fun M25 e26 => ?_)
    replace hf := bnd_out e26 hf
    refine z_aload_n C 5 0 dX12_shineLine_96 rfl rfl ?_
    refine z_getR C ok_X12 (lay_c90 hL) 11 (93) (by decide) rfl (lay_r90_11 hL) q_fl_X12_17 dX12_shineLine_97 ?_
    refine z_iload C 0 dX12_shineLine_100 rfl ?_
    refine z_iconst C 2 dX12_shineLine_102 (by decide) ?_
    refine z_iadd C dX12_shineLine_103 ?_
    refine z_iload C 3 dX12_shineLine_104 rfl ?_
    replace hf := gd_out hf
    obtain ⟨g27, hf⟩ := hf
    refine z_iast C (lay_c93 hL) (inb_in g27) dX12_shineLine_106 ?_
    refine z_M (fun M28 e29 => ?_)
    replace hf := bnd_out e29 hf
    refine z_aload_n C 5 0 dX12_shineLine_107 rfl rfl ?_
    refine z_getR C ok_X12 (lay_c90 hL) 11 (93) (by decide) rfl (lay_r90_11 hL) q_fl_X12_17 dX12_shineLine_108 ?_
    refine z_iload C 0 dX12_shineLine_111 rfl ?_
    refine z_iconst C 3 dX12_shineLine_113 (by decide) ?_
    refine z_iadd C dX12_shineLine_114 ?_
    refine z_iload C 2 dX12_shineLine_115 rfl ?_
    replace hf := gd_out hf
    obtain ⟨g30, hf⟩ := hf
    refine z_iast C (lay_c93 hL) (inb_in g30) dX12_shineLine_117 ?_
    refine z_M (fun M31 e32 => ?_)
    replace hf := bnd_out e32 hf
    refine z_aload_n C 5 0 dX12_shineLine_118 rfl rfl ?_
    refine z_getR C ok_X12 (lay_c90 hL) 11 (93) (by decide) rfl (lay_r90_11 hL) q_fl_X12_17 dX12_shineLine_119 ?_
    refine z_iload C 0 dX12_shineLine_122 rfl ?_
    refine z_iconst C 4 dX12_shineLine_124 (by decide) ?_
    refine z_iadd C dX12_shineLine_125 ?_
    refine z_iload C 1 dX12_shineLine_126 rfl ?_
    replace hf := gd_out hf
    obtain ⟨g33, hf⟩ := hf
    refine z_iast C (lay_c93 hL) (inb_in g33) dX12_shineLine_128 ?_
    refine z_M (fun M34 e35 => ?_)
    replace hf := bnd_out e35 hf
    refine z_aload_n C 5 0 dX12_shineLine_129 rfl rfl ?_
    refine z_getR C ok_X12 (lay_c90 hL) 11 (93) (by decide) rfl (lay_r90_11 hL) q_fl_X12_17 dX12_shineLine_130 ?_
    refine z_iconst C 3 dX12_shineLine_133 (by decide) ?_
    refine z_dup2 C rfl rfl dX12_shineLine_134 ?_
    refine z_iald C (lay_c93 hL) (inb_in (by decide)) dX12_shineLine_135 ?_
    refine z_iconst C 1 dX12_shineLine_136 (by decide) ?_
    refine z_iadd C dX12_shineLine_137 ?_
    refine z_iast C (lay_c93 hL) (inb_in (by decide)) dX12_shineLine_138 ?_
    refine z_M (fun M36 e37 => ?_)
    replace hf := bnd_out e37 hf
    cases hf
    exact z_vret C rfl dX12_shineLine_139
  · replace hf := ite_t c18 hf
    cases hf
    exact z_vret C rfl dX12_shineLine_63
set_option maxHeartbeats 4000000 in
set_option maxRecDepth 100000 in
theorem wX12_shineLine_j16 (C : CX p s m args meth c cX12_shineLine 9 none RX12 G) (hs0 : s.heap.size = G.1 + K.1) (hL : Lay K)   (pp : MM)  (M2 : MM) (y3 : Int32) (y4 : Int32) (y5 : Int32) (hf : fX12_shineLine_j16 M2 y3 y4 y5 = some pp) : Z p l e (rmo 7 0 0) s m args below meth c 9 G (MQ below (QC G none K pp) args s 0 0 (AG G)) K 0 0 M2 16 [(0, .ref (G.1 + 90)), (1, .int y3), (2, .int y4)] [.int y5] := by
  unfold fX12_shineLine_j16 at hf
  refine z_istore_n C [(3, .int y5), (0, .ref (G.1 + 90)), (1, .int y3), (2, .int y4)] dX12_shineLine_16 rfl (by decide) rfl rfl ?_
  refine z_iload_n C 0 3 dX12_shineLine_17 rfl rfl ?_
  refine z_if_ne C 27 dX12_shineLine_18 (by decide) (fun c6 => ?_) (fun c6 => ?_)
  · replace hf := ite_f c6 hf
    refine z_lv (lv2 := [(0, .ref (G.1 + 90)), (2, .int y4), (3, .int y5)]) [1, 3, 0] rfl ?_
    exact wX12_shineLine_j27 C hs0 hL pp M2 y4 y5 hf
  · replace hf := ite_t c6 hf
    refine z_aload_n C 1 0 dX12_shineLine_21 rfl rfl ?_
    refine z_iconst C 3 dX12_shineLine_22 (by decide) ?_
    refine z_iload_n C 2 1 dX12_shineLine_23 rfl rfl ?_
    replace hf := bd_out hf
    obtain ⟨p38, e39, hf⟩ := hf
    refine z_cV0 C [] (tX12_also l G hL M2 3 y3 _ e39) lk_X12_also ok_X12 (lay_c90 hL) q_ml_X12_145 rfl ⟨Nat.le_of_ble_eq_true rfl, Nat.le_of_ble_eq_true rfl⟩ rfl (Nat.le_of_ble_eq_true rfl) ⟨Nat.le_refl _, Nat.le_refl _⟩ dX12_shineLine_24 ?_
    refine z_lv (lv2 := [(0, .ref (G.1 + 90)), (2, .int y4), (3, .int y5)]) [1, 3, 0] rfl ?_
    exact wX12_shineLine_j27 C hs0 hL pp p38 y4 y5 hf
set_option maxHeartbeats 4000000 in
set_option maxRecDepth 100000 in
theorem tX12_shineLine (l : Launch) (G : GG) {K : SK} (hL : Lay K) (M : MM) (x1 : Int32) (x2 : Int32) (pp : MM) (hf : fX12_shineLine M x1 x2 = some pp) : Ct l yX12_shineLine cX12_shineLine 9 none 7 0 0 G K M [.ref (G.1 + 90), .int x1, .int x2] none K pp := by
  refine z_enter (lv := [(0, .ref (G.1 + 90)), (1, .int x1), (2, .int x2)]) (by decide +kernel) (Nat.le_of_ble_eq_true rfl) rfl ?_
  intro p e s m args below meth c C hnm hs0
  replace C : CX p s m args meth c cX12_shineLine 9 none RX12 G := C
  unfold fX12_shineLine at hf
  refine z_aload_n C 0 0 dX12_shineLine_0 rfl rfl ?_
  refine z_getR C ok_X12 (lay_c90 hL) 11 (93) (by decide) rfl (lay_r90_11 hL) q_fl_X12_17 dX12_shineLine_1 ?_
  refine z_iconst C 3 dX12_shineLine_4 (by decide) ?_
  refine z_iald C (lay_c93 hL) (inb_in (by decide)) dX12_shineLine_5 ?_
  refine z_bipush C 8 dX12_shineLine_6 (by decide) ?_
  refine z_icmp_ge C 15 dX12_shineLine_8 (by decide) (fun c1 => ?_) (fun c1 => ?_)
  · replace hf := ite_t c1 hf
    refine z_iconst C 0 dX12_shineLine_15 (by decide) ?_
    exact wX12_shineLine_j16 C hs0 hL pp M x1 x2 0 hf
  · replace hf := ite_f c1 hf
    refine z_iconst C 1 dX12_shineLine_11 (by decide) ?_
    refine z_goto C 16 dX12_shineLine_12 (by decide) ?_
    exact wX12_shineLine_j16 C hs0 hL pp M x1 x2 1 hf
set_option maxHeartbeats 4000000 in
set_option maxRecDepth 100000 in
theorem wX12_parishLine_j107 (C : CX p s m args meth c cX12_parishLine 3 none RX12 G) (hs0 : s.heap.size = G.1 + K.1) (hL : Lay K)   (pp : MM)  (M6 : MM) (hf : fX12_parishLine_j107 M6 = some pp) : Z p l e (rmo 8 0 0) s m args below meth c 3 G (MQ below (QC G none K pp) args s 0 0 (AG G)) K 0 0 M6 107 [(0, .ref (G.1 + 90))] [] := by
  unfold fX12_parishLine_j107 at hf
  refine z_aload_n C 0 0 dX12_parishLine_107 rfl rfl ?_
  replace hf := bd_out hf
  obtain ⟨p7, e8, hf⟩ := hf
  refine z_cV0 C [] (tX12_endsLine l G hL M6  _ e8) lk_X12_endsLine ok_X12 (lay_c90 hL) q_ml_X12_176 rfl ⟨Nat.le_of_ble_eq_true rfl, Nat.le_of_ble_eq_true rfl⟩ rfl (Nat.le_of_ble_eq_true rfl) ⟨Nat.le_refl _, Nat.le_refl _⟩ dX12_parishLine_108 ?_
  cases hf
  exact z_vret C rfl dX12_parishLine_111
set_option maxHeartbeats 4000000 in
set_option maxRecDepth 100000 in
theorem tX12_parishLine (l : Launch) (G : GG) {K : SK} (hL : Lay K) (M : MM)  (pp : MM) (hf : fX12_parishLine M = some pp) : Ct l yX12_parishLine cX12_parishLine 3 none 8 0 0 G K M [.ref (G.1 + 90)] none K pp := by
  refine z_enter (lv := [(0, .ref (G.1 + 90))]) (by decide +kernel) (Nat.le_of_ble_eq_true rfl) rfl ?_
  intro p e s m args below meth c C hnm hs0
  replace C : CX p s m args meth c cX12_parishLine 3 none RX12 G := C
  unfold fX12_parishLine at hf
  refine z_aload_n C 0 0 dX12_parishLine_0 rfl rfl ?_
  refine z_getI C ok_X12 (lay_c90 hL) 4 (by decide) rfl q_fl_X12_108 dX12_parishLine_1 ?_
  refine z_topi (fun v1 e2 => ?_)
  replace hf := bnd_out e2 hf
  refine z_istore_n C [(1, .int v1), (0, .ref (G.1 + 90))] dX12_parishLine_4 rfl (by decide) rfl rfl ?_
  refine z_aload_n C 1 0 dX12_parishLine_5 rfl rfl ?_
  refine z_iconst C 1 dX12_parishLine_6 (by decide) ?_
  refine z_bipush C 7 dX12_parishLine_7 (by decide) ?_
  replace hf := bd_out hf
  obtain ⟨p3, e4, hf⟩ := hf
  refine z_cV1 C [] (tX12_takes l G hL M 1 7 _ e4) lk_X12_takes ok_X12 (lay_c90 hL) q_ml_X12_166 rfl ⟨Nat.le_of_ble_eq_true rfl, Nat.le_of_ble_eq_true rfl⟩ rfl (Nat.le_of_ble_eq_true rfl) ⟨Nat.le_refl _, Nat.le_refl _⟩ dX12_parishLine_9 ?_
  refine z_istore_n C [(2, .int p3.1), (1, .int v1), (0, .ref (G.1 + 90))] dX12_parishLine_12 rfl (by decide) rfl rfl ?_
  refine z_iload_n C 0 2 dX12_parishLine_13 rfl rfl ?_
  by_cases c5 : p3.1 = 0
  · replace hf := ite_t c5 hf
    refine z_tableIn C 44 dX12_parishLine_14 (by rw [c5]; decide) (by rw [c5]; decide) (by rw [c5]; rfl) (by decide) ?_
    refine z_goto C 107 dX12_parishLine_44 (by decide) ?_
    refine z_lv (lv2 := [(0, .ref (G.1 + 90))]) [2] rfl ?_
    exact wX12_parishLine_j107 C hs0 hL pp p3.2 hf
  · replace hf := ite_f c5 hf
    by_cases c9 : p3.1 = 1
    · replace hf := ite_t c9 hf
      refine z_tableIn C 47 dX12_parishLine_14 (by rw [c9]; decide) (by rw [c9]; decide) (by rw [c9]; rfl) (by decide) ?_
      refine z_aload_n C 2 0 dX12_parishLine_47 rfl rfl ?_
      refine z_getR C ok_X12 (lay_c90 hL) 11 (93) (by decide) rfl (lay_r90_11 hL) q_fl_X12_17 dX12_parishLine_48 ?_
      refine z_iconst C 0 dX12_parishLine_51 (by decide) ?_
      refine z_aload_n C 2 0 dX12_parishLine_52 rfl rfl ?_
      refine z_iconst C 2 dX12_parishLine_53 (by decide) ?_
      refine z_bipush C 8 dX12_parishLine_54 (by decide) ?_
      replace hf := bd_out hf
      obtain ⟨p10, e11, hf⟩ := hf
      refine z_cV1 C [.int 0, .ref (G.1 + 93)] (tX12_numbered l G hL p3.2 2 8 _ e11) lk_X12_numbered ok_X12 (lay_c90 hL) q_ml_X12_152 rfl ⟨Nat.le_of_ble_eq_true rfl, Nat.le_of_ble_eq_true rfl⟩ rfl (Nat.le_of_ble_eq_true rfl) ⟨Nat.le_refl _, Nat.le_refl _⟩ dX12_parishLine_56 ?_
      refine z_iast C (lay_c93 hL) (inb_in (by decide)) dX12_parishLine_59 ?_
      refine z_M (fun M12 e13 => ?_)
      replace hf := bnd_out e13 hf
      refine z_aload_n C 2 0 dX12_parishLine_60 rfl rfl ?_
      refine z_getR C ok_X12 (lay_c90 hL) 11 (93) (by decide) rfl (lay_r90_11 hL) q_fl_X12_17 dX12_parishLine_61 ?_
      refine z_iconst C 1 dX12_parishLine_64 (by decide) ?_
      refine z_aload_n C 2 0 dX12_parishLine_65 rfl rfl ?_
      refine z_iconst C 2 dX12_parishLine_66 (by decide) ?_
      refine z_bipush C 8 dX12_parishLine_67 (by decide) ?_
      replace hf := bd_out hf
      obtain ⟨p14, e15, hf⟩ := hf
      refine z_cV1 C [.int 1, .ref (G.1 + 93)] (tX12_numbered l G hL M12 2 8 _ e15) lk_X12_numbered ok_X12 (lay_c90 hL) q_ml_X12_152 rfl ⟨Nat.le_of_ble_eq_true rfl, Nat.le_of_ble_eq_true rfl⟩ rfl (Nat.le_of_ble_eq_true rfl) ⟨Nat.le_refl _, Nat.le_refl _⟩ dX12_parishLine_69 ?_
      refine z_iast C (lay_c93 hL) (inb_in (by decide)) dX12_parishLine_72 ?_
      refine z_M (fun M16 e17 => ?_)
      replace hf := bnd_out e17 hf
      refine z_goto C 107 dX12_parishLine_73 (by decide) ?_
      refine z_lv (lv2 := [(0, .ref (G.1 + 90))]) [2] rfl ?_
      exact wX12_parishLine_j107 C hs0 hL pp M16 hf
    · replace hf := ite_f c9 hf
      by_cases c18 : p3.1 = 2
      · replace hf := ite_t c18 hf
        refine z_tableIn C 76 dX12_parishLine_14 (by rw [c18]; decide) (by rw [c18]; decide) (by rw [c18]; rfl) (by decide) ?_
        refine z_aload_n C 2 0 dX12_parishLine_76 rfl rfl ?_
        refine z_getR C ok_X12 (lay_c90 hL) 11 (93) (by decide) rfl (lay_r90_11 hL) q_fl_X12_17 dX12_parishLine_77 ?_
        refine z_iconst C 4 dX12_parishLine_80 (by decide) ?_
        refine z_aload_n C 2 0 dX12_parishLine_81 rfl rfl ?_
        replace hf := bd_out hf
        obtain ⟨p19, e20, hf⟩ := hf
        refine z_cV1 C [.int 4, .ref (G.1 + 93)] (tX12_squareTold l G hL p3.2  _ e20) lk_X12_squareTold ok_X12 (lay_c90 hL) q_ml_X12_162 rfl ⟨Nat.le_of_ble_eq_true rfl, Nat.le_of_ble_eq_true rfl⟩ rfl (Nat.le_of_ble_eq_true rfl) ⟨Nat.le_refl _, Nat.le_refl _⟩ dX12_parishLine_82 ?_
        refine z_iadd C dX12_parishLine_85 ?_
        refine z_iconst C 1 dX12_parishLine_86 (by decide) ?_
        replace hf := gd_out hf
        obtain ⟨g21, hf⟩ := hf
        refine z_iast C (lay_c93 hL) (inb_in g21) dX12_parishLine_87 ?_
        refine z_M (fun M22 e23 => ?_)
        replace hf := bnd_out e23 hf
        refine z_goto C 107 dX12_parishLine_88 (by decide) ?_
        refine z_lv (lv2 := [(0, .ref (G.1 + 90))]) [2] rfl ?_
        exact wX12_parishLine_j107 C hs0 hL pp M22 hf
      · replace hf := ite_f c18 hf
        by_cases c24 : p3.1 = 3
        · replace hf := ite_t c24 hf
          refine z_tableIn C 91 dX12_parishLine_14 (by rw [c24]; decide) (by rw [c24]; decide) (by rw [c24]; rfl) (by decide) ?_
          refine z_aload_n C 2 0 dX12_parishLine_91 rfl rfl ?_
          refine z_iload_n C 1 1 dX12_parishLine_92 rfl rfl ?_
          replace hf := bd_out hf
          obtain ⟨p25, e26, hf⟩ := hf
          refine z_cV0 C [] (tX12_personLine l G hL p3.2 v1 _ e26) lk_X12_personLine ok_X12 (lay_c90 hL) q_ml_X12_169 rfl ⟨Nat.le_of_ble_eq_true rfl, Nat.le_of_ble_eq_true rfl⟩ rfl (Nat.le_of_ble_eq_true rfl) ⟨Nat.le_refl _, Nat.le_refl _⟩ dX12_parishLine_93 ?_
          refine z_goto C 107 dX12_parishLine_96 (by decide) ?_
          refine z_lv (lv2 := [(0, .ref (G.1 + 90))]) [2] rfl ?_
          exact wX12_parishLine_j107 C hs0 hL pp p25 hf
        · replace hf := ite_f c24 hf
          have ic5 : (p3.1).toInt ≠ 0 := fun q => c5 (Int32.toInt_inj.mp (q.trans (by decide)))
          have ic9 : (p3.1).toInt ≠ 1 := fun q => c9 (Int32.toInt_inj.mp (q.trans (by decide)))
          have ic18 : (p3.1).toInt ≠ 2 := fun q => c18 (Int32.toInt_inj.mp (q.trans (by decide)))
          have ic24 : (p3.1).toInt ≠ 3 := fun q => c24 (Int32.toInt_inj.mp (q.trans (by decide)))
          refine z_tableOut C 99 dX12_parishLine_14 (by omega) (by decide) ?_
          refine z_aload_n C 2 0 dX12_parishLine_99 rfl rfl ?_
          refine z_iload_n C 1 1 dX12_parishLine_100 rfl rfl ?_
          refine z_iload_n C 0 2 dX12_parishLine_101 rfl rfl ?_
          refine z_iconst C 4 dX12_parishLine_102 (by decide) ?_
          refine z_isub C dX12_parishLine_103 ?_
          replace hf := bd_out hf
          obtain ⟨p27, e28, hf⟩ := hf
          refine z_cV0 C [] (tX12_shineLine l G hL p3.2 v1 (p3.1 - 4) _ e28) lk_X12_shineLine ok_X12 (lay_c90 hL) q_ml_X12_173 rfl ⟨Nat.le_of_ble_eq_true rfl, Nat.le_of_ble_eq_true rfl⟩ rfl (Nat.le_of_ble_eq_true rfl) ⟨Nat.le_refl _, Nat.le_refl _⟩ dX12_parishLine_104 ?_
          refine z_lv (lv2 := [(0, .ref (G.1 + 90))]) [2] rfl ?_
          exact wX12_parishLine_j107 C hs0 hL pp p27 hf
set_option maxHeartbeats 4000000 in
set_option maxRecDepth 100000 in
theorem wX12_lawLine_j153 (C : CX p s m args meth c cX12_lawLine 3 none RX12 G) (hs0 : s.heap.size = G.1 + K.1) (hL : Lay K)   (pp : MM)  (M8 : MM) (hf : fX12_lawLine_j153 M8 = some pp) : Z p l e (rmo 6 0 0) s m args below meth c 3 G (MQ below (QC G none K pp) args s 0 0 (AG G)) K 0 0 M8 153 [(0, .ref (G.1 + 90))] [] := by
  unfold fX12_lawLine_j153 at hf
  refine z_aload_n C 0 0 dX12_lawLine_153 rfl rfl ?_
  replace hf := bd_out hf
  obtain ⟨p9, e10, hf⟩ := hf
  refine z_cV0 C [] (tX12_endsLine l G hL M8  _ e10) lk_X12_endsLine ok_X12 (lay_c90 hL) q_ml_X12_176 rfl ⟨Nat.le_of_ble_eq_true rfl, Nat.le_of_ble_eq_true rfl⟩ rfl (Nat.le_of_ble_eq_true rfl) ⟨Nat.le_refl _, Nat.le_refl _⟩ dX12_lawLine_154 ?_
  cases hf
  exact z_vret C rfl dX12_lawLine_157
set_option maxHeartbeats 4000000 in
set_option maxRecDepth 100000 in
theorem tX12_lawLine (l : Launch) (G : GG) {K : SK} (hL : Lay K) (M : MM)  (pp : MM) (hf : fX12_lawLine M = some pp) : Ct l yX12_lawLine cX12_lawLine 3 none 6 0 0 G K M [.ref (G.1 + 90)] none K pp := by
  refine z_enter (lv := [(0, .ref (G.1 + 90))]) (by decide +kernel) (Nat.le_of_ble_eq_true rfl) rfl ?_
  intro p e s m args below meth c C hnm hs0
  replace C : CX p s m args meth c cX12_lawLine 3 none RX12 G := C
  unfold fX12_lawLine at hf
  refine z_aload_n C 0 0 dX12_lawLine_0 rfl rfl ?_
  refine z_bipush C 8 dX12_lawLine_1 (by decide) ?_
  refine z_bipush C 13 dX12_lawLine_3 (by decide) ?_
  replace hf := bd_out hf
  obtain ⟨p1, e2, hf⟩ := hf
  refine z_cV1 C [] (tX12_takes l G hL M 8 13 _ e2) lk_X12_takes ok_X12 (lay_c90 hL) q_ml_X12_166 rfl ⟨Nat.le_of_ble_eq_true rfl, Nat.le_of_ble_eq_true rfl⟩ rfl (Nat.le_of_ble_eq_true rfl) ⟨Nat.le_refl _, Nat.le_refl _⟩ dX12_lawLine_5 ?_
  refine z_istore_n C [(1, .int p1.1), (0, .ref (G.1 + 90))] dX12_lawLine_8 rfl (by decide) rfl rfl ?_
  refine z_iload_n C 0 1 dX12_lawLine_9 rfl rfl ?_
  by_cases c3 : p1.1 = 8
  · replace hf := ite_t c3 hf
    refine z_tableIn C 48 dX12_lawLine_10 (by rw [c3]; decide) (by rw [c3]; decide) (by rw [c3]; rfl) (by decide) ?_
    refine z_aload_n C 1 0 dX12_lawLine_48 rfl rfl ?_
    refine z_getR C ok_X12 (lay_c90 hL) 11 (93) (by decide) rfl (lay_r90_11 hL) q_fl_X12_17 dX12_lawLine_49 ?_
    refine z_iconst C 0 dX12_lawLine_52 (by decide) ?_
    refine z_aload_n C 1 0 dX12_lawLine_53 rfl rfl ?_
    refine z_iconst C 0 dX12_lawLine_54 (by decide) ?_
    refine z_bipush C 9 dX12_lawLine_55 (by decide) ?_
    replace hf := bd_out hf
    obtain ⟨p4, e5, hf⟩ := hf
    refine z_cV1 C [.int 0, .ref (G.1 + 93)] (tX12_numbered l G hL p1.2 0 9 _ e5) lk_X12_numbered ok_X12 (lay_c90 hL) q_ml_X12_152 rfl ⟨Nat.le_of_ble_eq_true rfl, Nat.le_of_ble_eq_true rfl⟩ rfl (Nat.le_of_ble_eq_true rfl) ⟨Nat.le_refl _, Nat.le_refl _⟩ dX12_lawLine_57 ?_
    refine z_iast C (lay_c93 hL) (inb_in (by decide)) dX12_lawLine_60 ?_
    refine z_M (fun M6 e7 => ?_)
    replace hf := bnd_out e7 hf
    refine z_goto C 153 dX12_lawLine_61 (by decide) ?_
    refine z_lv (lv2 := [(0, .ref (G.1 + 90))]) [1] rfl ?_
    exact wX12_lawLine_j153 C hs0 hL pp M6 hf
  · replace hf := ite_f c3 hf
    by_cases c11 : p1.1 = 9
    · replace hf := ite_t c11 hf
      refine z_tableIn C 64 dX12_lawLine_10 (by rw [c11]; decide) (by rw [c11]; decide) (by rw [c11]; rfl) (by decide) ?_
      refine z_aload_n C 1 0 dX12_lawLine_64 rfl rfl ?_
      refine z_getR C ok_X12 (lay_c90 hL) 11 (93) (by decide) rfl (lay_r90_11 hL) q_fl_X12_17 dX12_lawLine_65 ?_
      refine z_iconst C 3 dX12_lawLine_68 (by decide) ?_
      refine z_aload_n C 1 0 dX12_lawLine_69 rfl rfl ?_
      refine z_iconst C 1 dX12_lawLine_70 (by decide) ?_
      refine z_bipush C 20 dX12_lawLine_71 (by decide) ?_
      replace hf := bd_out hf
      obtain ⟨p12, e13, hf⟩ := hf
      refine z_cV1 C [.int 3, .ref (G.1 + 93)] (tX12_numbered l G hL p1.2 1 20 _ e13) lk_X12_numbered ok_X12 (lay_c90 hL) q_ml_X12_152 rfl ⟨Nat.le_of_ble_eq_true rfl, Nat.le_of_ble_eq_true rfl⟩ rfl (Nat.le_of_ble_eq_true rfl) ⟨Nat.le_refl _, Nat.le_refl _⟩ dX12_lawLine_73 ?_
      refine z_iast C (lay_c93 hL) (inb_in (by decide)) dX12_lawLine_76 ?_
      refine z_M (fun M14 e15 => ?_)
      replace hf := bnd_out e15 hf
      refine z_goto C 153 dX12_lawLine_77 (by decide) ?_
      refine z_lv (lv2 := [(0, .ref (G.1 + 90))]) [1] rfl ?_
      exact wX12_lawLine_j153 C hs0 hL pp M14 hf
    · replace hf := ite_f c11 hf
      by_cases c16 : p1.1 = 10
      · replace hf := ite_t c16 hf
        refine z_tableIn C 80 dX12_lawLine_10 (by rw [c16]; decide) (by rw [c16]; decide) (by rw [c16]; rfl) (by decide) ?_
        refine z_aload_n C 1 0 dX12_lawLine_80 rfl rfl ?_
        refine z_getR C ok_X12 (lay_c90 hL) 11 (93) (by decide) rfl (lay_r90_11 hL) q_fl_X12_17 dX12_lawLine_81 ?_
        refine z_iconst C 4 dX12_lawLine_84 (by decide) ?_
        refine z_aload_n C 1 0 dX12_lawLine_85 rfl rfl ?_
        refine z_iconst C 0 dX12_lawLine_86 (by decide) ?_
        refine z_iconst C 2 dX12_lawLine_87 (by decide) ?_
        replace hf := bd_out hf
        obtain ⟨p17, e18, hf⟩ := hf
        refine z_cV1 C [.int 4, .ref (G.1 + 93)] (tX12_numbered l G hL p1.2 0 2 _ e18) lk_X12_numbered ok_X12 (lay_c90 hL) q_ml_X12_152 rfl ⟨Nat.le_of_ble_eq_true rfl, Nat.le_of_ble_eq_true rfl⟩ rfl (Nat.le_of_ble_eq_true rfl) ⟨Nat.le_refl _, Nat.le_refl _⟩ dX12_lawLine_88 ?_
        refine z_iast C (lay_c93 hL) (inb_in (by decide)) dX12_lawLine_91 ?_
        refine z_M (fun M19 e20 => ?_)
        replace hf := bnd_out e20 hf
        refine z_goto C 153 dX12_lawLine_92 (by decide) ?_
        refine z_lv (lv2 := [(0, .ref (G.1 + 90))]) [1] rfl ?_
        exact wX12_lawLine_j153 C hs0 hL pp M19 hf
      · replace hf := ite_f c16 hf
        by_cases c21 : p1.1 = 11
        · replace hf := ite_t c21 hf
          refine z_tableIn C 95 dX12_lawLine_10 (by rw [c21]; decide) (by rw [c21]; decide) (by rw [c21]; rfl) (by decide) ?_
          refine z_aload_n C 1 0 dX12_lawLine_95 rfl rfl ?_
          refine z_getR C ok_X12 (lay_c90 hL) 11 (93) (by decide) rfl (lay_r90_11 hL) q_fl_X12_17 dX12_lawLine_96 ?_
          refine z_iconst C 5 dX12_lawLine_99 (by decide) ?_
          refine z_aload_n C 1 0 dX12_lawLine_100 rfl rfl ?_
          refine z_iconst C 0 dX12_lawLine_101 (by decide) ?_
          refine z_bipush C 9 dX12_lawLine_102 (by decide) ?_
          replace hf := bd_out hf
          obtain ⟨p22, e23, hf⟩ := hf
          refine z_cV1 C [.int 5, .ref (G.1 + 93)] (tX12_numbered l G hL p1.2 0 9 _ e23) lk_X12_numbered ok_X12 (lay_c90 hL) q_ml_X12_152 rfl ⟨Nat.le_of_ble_eq_true rfl, Nat.le_of_ble_eq_true rfl⟩ rfl (Nat.le_of_ble_eq_true rfl) ⟨Nat.le_refl _, Nat.le_refl _⟩ dX12_lawLine_104 ?_
          refine z_iast C (lay_c93 hL) (inb_in (by decide)) dX12_lawLine_107 ?_
          refine z_M (fun M24 e25 => ?_)
          replace hf := bnd_out e25 hf
          refine z_goto C 153 dX12_lawLine_108 (by decide) ?_
          refine z_lv (lv2 := [(0, .ref (G.1 + 90))]) [1] rfl ?_
          exact wX12_lawLine_j153 C hs0 hL pp M24 hf
        · replace hf := ite_f c21 hf
          by_cases c26 : p1.1 = 12
          · replace hf := ite_t c26 hf
            refine z_tableIn C 111 dX12_lawLine_10 (by rw [c26]; decide) (by rw [c26]; decide) (by rw [c26]; rfl) (by decide) ?_
            refine z_aload_n C 1 0 dX12_lawLine_111 rfl rfl ?_
            refine z_getR C ok_X12 (lay_c90 hL) 11 (93) (by decide) rfl (lay_r90_11 hL) q_fl_X12_17 dX12_lawLine_112 ?_
            refine z_iconst C 1 dX12_lawLine_115 (by decide) ?_
            refine z_iconst C 0 dX12_lawLine_116 (by decide) ?_
            refine z_iast C (lay_c93 hL) (inb_in (by decide)) dX12_lawLine_117 ?_
            refine z_M (fun M27 e28 => ?_)
            replace hf := bnd_out e28 hf
            refine z_goto C 153 dX12_lawLine_118 (by decide) ?_
            refine z_lv (lv2 := [(0, .ref (G.1 + 90))]) [1] rfl ?_
            exact wX12_lawLine_j153 C hs0 hL pp M27 hf
          · replace hf := ite_f c26 hf
            by_cases c29 : p1.1 = 13
            · replace hf := ite_t c29 hf
              refine z_tableIn C 121 dX12_lawLine_10 (by rw [c29]; decide) (by rw [c29]; decide) (by rw [c29]; rfl) (by decide) ?_
              refine z_aload_n C 1 0 dX12_lawLine_121 rfl rfl ?_
              refine z_iconst C 4 dX12_lawLine_122 (by decide) ?_
              refine z_bipush C 7 dX12_lawLine_123 (by decide) ?_
              replace hf := bd_out hf
              obtain ⟨p30, e31, hf⟩ := hf
              refine z_cV1 C [] (tX12_takes l G hL p1.2 4 7 _ e31) lk_X12_takes ok_X12 (lay_c90 hL) q_ml_X12_166 rfl ⟨Nat.le_of_ble_eq_true rfl, Nat.le_of_ble_eq_true rfl⟩ rfl (Nat.le_of_ble_eq_true rfl) ⟨Nat.le_refl _, Nat.le_refl _⟩ dX12_lawLine_125 ?_
              refine z_iconst C 4 dX12_lawLine_128 (by decide) ?_
              refine z_isub C dX12_lawLine_129 ?_
              refine z_topi (fun v32 e33 => ?_)
              replace hf := bnd_out e33 hf
              refine z_istore_n C [(2, .int v32), (1, .int p1.1), (0, .ref (G.1 + 90))] dX12_lawLine_130 rfl (by decide) rfl rfl ?_
              refine z_aload_n C 2 0 dX12_lawLine_131 rfl rfl ?_
              refine z_getI C ok_X12 (lay_c90 hL) 8 (by decide) rfl q_fl_X12_134 dX12_lawLine_132 ?_
              refine z_if_ne C 153 dX12_lawLine_135 (by decide) (fun c34 => ?_) (fun c34 => ?_)
              · replace hf := ite_f c34 hf
                refine z_lv (lv2 := [(0, .ref (G.1 + 90))]) [2] rfl ?_
                exact wX12_lawLine_j153 C hs0 hL pp p30.2 hf
              · replace hf := ite_t c34 hf
                refine z_aload_n C 2 0 dX12_lawLine_138 rfl rfl ?_
                refine z_getR C ok_X12 (lay_c90 hL) 11 (93) (by decide) rfl (lay_r90_11 hL) q_fl_X12_17 dX12_lawLine_139 ?_
                refine z_iconst C 2 dX12_lawLine_142 (by decide) ?_
                refine z_dup2 C rfl rfl dX12_lawLine_143 ?_
                refine z_iald C (lay_c93 hL) (inb_in (by decide)) dX12_lawLine_144 ?_
                refine z_iconst C 1 dX12_lawLine_145 (by decide) ?_
                refine z_iload_n C 0 2 dX12_lawLine_146 rfl rfl ?_
                refine z_ishl C dX12_lawLine_147 ?_
                refine z_ior C dX12_lawLine_148 ?_
                refine z_iast C (lay_c93 hL) (inb_in (by decide)) dX12_lawLine_149 ?_
                refine z_M (fun M35 e36 => ?_)
                replace hf := bnd_out e36 hf
                refine z_goto C 153 dX12_lawLine_150 (by decide) ?_
                refine z_lv (lv2 := [(0, .ref (G.1 + 90))]) [2] rfl ?_
                exact wX12_lawLine_j153 C hs0 hL pp M35 hf
            · replace hf := ite_f c29 hf
              have ic3 : (p1.1).toInt ≠ 8 := fun q => c3 (Int32.toInt_inj.mp (q.trans (by decide)))
              have ic11 : (p1.1).toInt ≠ 9 := fun q => c11 (Int32.toInt_inj.mp (q.trans (by decide)))
              have ic16 : (p1.1).toInt ≠ 10 := fun q => c16 (Int32.toInt_inj.mp (q.trans (by decide)))
              have ic21 : (p1.1).toInt ≠ 11 := fun q => c21 (Int32.toInt_inj.mp (q.trans (by decide)))
              have ic26 : (p1.1).toInt ≠ 12 := fun q => c26 (Int32.toInt_inj.mp (q.trans (by decide)))
              have ic29 : (p1.1).toInt ≠ 13 := fun q => c29 (Int32.toInt_inj.mp (q.trans (by decide)))
              refine z_tableOut C 153 dX12_lawLine_10 (by omega) (by decide) ?_
              refine z_lv (lv2 := [(0, .ref (G.1 + 90))]) [1] rfl ?_
              exact wX12_lawLine_j153 C hs0 hL pp p1.2 hf
set_option maxHeartbeats 4000000 in
set_option maxRecDepth 100000 in
theorem wX12_eveningLine_j138 (C : CX p s m args meth c cX12_eveningLine 6 none RX12 G) (hs0 : s.heap.size = G.1 + K.1) (hL : Lay K)   (pp : MM)  (M20 : MM) (hf : fX12_eveningLine_j138 M20 = some pp) : Z p l e (rmo 6 0 0) s m args below meth c 6 G (MQ below (QC G none K pp) args s 0 0 (AG G)) K 0 0 M20 138 [(0, .ref (G.1 + 90))] [] := by
  unfold fX12_eveningLine_j138 at hf
  refine z_aload_n C 0 0 dX12_eveningLine_138 rfl rfl ?_
  replace hf := bd_out hf
  obtain ⟨p21, e22, hf⟩ := hf
  refine z_cV0 C [] (tX12_endsLine l G hL M20  _ e22) lk_X12_endsLine ok_X12 (lay_c90 hL) q_ml_X12_176 rfl ⟨Nat.le_of_ble_eq_true rfl, Nat.le_of_ble_eq_true rfl⟩ rfl (Nat.le_of_ble_eq_true rfl) ⟨Nat.le_refl _, Nat.le_refl _⟩ dX12_eveningLine_139 ?_
  cases hf
  exact z_vret C rfl dX12_eveningLine_142
set_option maxHeartbeats 4000000 in
set_option maxRecDepth 100000 in
theorem wX12_eveningLine_j74 (C : CX p s m args meth c cX12_eveningLine 6 none RX12 G) (hs0 : s.heap.size = G.1 + K.1) (hL : Lay K)   (pp : MM)  (M15 : MM) (y16 : Int32) (y17 : Int32) (y18 : Int32) (hf : fX12_eveningLine_j74 M15 y16 y17 y18 = some pp) : Z p l e (rmo 6 0 0) s m args below meth c 6 G (MQ below (QC G none K pp) args s 0 0 (AG G)) K 0 0 M15 74 [(0, .ref (G.1 + 90)), (2, .int y16), (3, .int y17)] [.int y18] := by
  unfold fX12_eveningLine_j74 at hf
  refine z_istore C [(4, .int y18), (0, .ref (G.1 + 90)), (2, .int y16), (3, .int y17)] dX12_eveningLine_74 (by decide) rfl rfl ?_
  refine z_aload_n C 1 0 dX12_eveningLine_76 rfl rfl ?_
  refine z_getR C ok_X12 (lay_c90 hL) 11 (93) (by decide) rfl (lay_r90_11 hL) q_fl_X12_17 dX12_eveningLine_77 ?_
  refine z_iconst C 0 dX12_eveningLine_80 (by decide) ?_
  refine z_iald C (lay_c93 hL) (inb_in (by decide)) dX12_eveningLine_81 ?_
  refine z_bipush C 40 dX12_eveningLine_82 (by decide) ?_
  refine z_icmp_ge C 138 dX12_eveningLine_84 (by decide) (fun c19 => ?_) (fun c19 => ?_)
  · replace hf := ite_t c19 hf
    refine z_lv (lv2 := [(0, .ref (G.1 + 90))]) [1] rfl ?_
    exact wX12_eveningLine_j138 C hs0 hL pp M15 hf
  · replace hf := ite_f c19 hf
    refine z_iconst C 1 dX12_eveningLine_87 (by decide) ?_
    refine z_iconst C 3 dX12_eveningLine_88 (by decide) ?_
    refine z_aload_n C 1 0 dX12_eveningLine_89 rfl rfl ?_
    refine z_getR C ok_X12 (lay_c90 hL) 11 (93) (by decide) rfl (lay_r90_11 hL) q_fl_X12_17 dX12_eveningLine_90 ?_
    refine z_iconst C 0 dX12_eveningLine_93 (by decide) ?_
    refine z_iald C (lay_c93 hL) (inb_in (by decide)) dX12_eveningLine_94 ?_
    refine z_imul C dX12_eveningLine_95 ?_
    refine z_iadd C dX12_eveningLine_96 ?_
    refine z_topi (fun v23 e24 => ?_)
    replace hf := bnd_out e24 hf
    refine z_istore C [(5, .int v23), (4, .int y18), (0, .ref (G.1 + 90)), (2, .int y16), (3, .int y17)] dX12_eveningLine_97 (by decide) rfl rfl ?_
    refine z_aload_n C 2 0 dX12_eveningLine_99 rfl rfl ?_
    refine z_getR C ok_X12 (lay_c90 hL) 11 (93) (by decide) rfl (lay_r90_11 hL) q_fl_X12_17 dX12_eveningLine_100 ?_
    refine z_iload C 0 dX12_eveningLine_103 rfl ?_
    refine z_iload_n C 3 2 dX12_eveningLine_105 rfl rfl ?_
    replace hf := gd_out hf
    obtain ⟨g25, hf⟩ := hf
    refine z_iast C (lay_c93 hL) (inb_in g25) dX12_eveningLine_106 ?_
    refine z_M (fun M26 e27 => ?_)
    replace hf := bnd_out e27 hf
    refine z_aload_n C 2 0 dX12_eveningLine_107 rfl rfl ?_
    refine z_getR C ok_X12 (lay_c90 hL) 11 (93) (by decide) rfl (lay_r90_11 hL) q_fl_X12_17 dX12_eveningLine_108 ?_
    refine z_iload C 0 dX12_eveningLine_111 rfl ?_
    refine z_iconst C 1 dX12_eveningLine_113 (by decide) ?_
    refine z_iadd C dX12_eveningLine_114 ?_
    refine z_iload_n C 4 3 dX12_eveningLine_115 rfl rfl ?_
    replace hf := gd_out hf
    obtain ⟨g28, hf⟩ := hf
    refine z_iast C (lay_c93 hL) (inb_in g28) dX12_eveningLine_116 ?_
    refine z_M (fun M29 e30 => ?_)
    replace hf := bnd_out e30 hf
    refine z_aload_n C 2 0 dX12_eveningLine_117 rfl rfl ?_
    refine z_getR C ok_X12 (lay_c90 hL) 11 (93) (by decide) rfl (lay_r90_11 hL) q_fl_X12_17 dX12_eveningLine_118 ?_
    refine z_iload C 0 dX12_eveningLine_121 rfl ?_
    refine z_iconst C 2 dX12_eveningLine_123 (by decide) ?_
    refine z_iadd C dX12_eveningLine_124 ?_
    refine z_iload C 1 dX12_eveningLine_125 rfl ?_
    replace hf := gd_out hf
    obtain ⟨g31, hf⟩ := hf
    refine z_iast C (lay_c93 hL) (inb_in g31) dX12_eveningLine_127 ?_
    refine z_M (fun M32 e33 => ?_)
    replace hf := bnd_out e33 hf
    refine z_aload_n C 2 0 dX12_eveningLine_128 rfl rfl ?_
    refine z_getR C ok_X12 (lay_c90 hL) 11 (93) (by decide) rfl (lay_r90_11 hL) q_fl_X12_17 dX12_eveningLine_129 ?_
    refine z_iconst C 0 dX12_eveningLine_132 (by decide) ?_
    refine z_dup2 C rfl rfl dX12_eveningLine_133 ?_
    refine z_iald C (lay_c93 hL) (inb_in (by decide)) dX12_eveningLine_134 ?_
    refine z_iconst C 1 dX12_eveningLine_135 (by decide) ?_
    refine z_iadd C dX12_eveningLine_136 ?_
    refine z_iast C (lay_c93 hL) (inb_in (by decide)) dX12_eveningLine_137 ?_
    refine z_M (fun M34 e35 => ?_)
    replace hf := bnd_out e35 hf
    refine z_lv (lv2 := [(0, .ref (G.1 + 90))]) [2] rfl ?_
    exact wX12_eveningLine_j138 C hs0 hL pp M34 hf
set_option maxHeartbeats 4000000 in
set_option maxRecDepth 100000 in
theorem wX12_eveningLine_j57 (C : CX p s m args meth c cX12_eveningLine 6 none RX12 G) (hs0 : s.heap.size = G.1 + K.1) (hL : Lay K)   (pp : MM)  (M11 : MM) (y12 : Int32) (y13 : Int32) (hf : fX12_eveningLine_j57 M11 y12 y13 = some pp) : Z p l e (rmo 6 0 0) s m args below meth c 6 G (MQ below (QC G none K pp) args s 0 0 (AG G)) K 0 0 M11 57 [(0, .ref (G.1 + 90)), (2, .int y12)] [.int y13] := by
  unfold fX12_eveningLine_j57 at hf
  refine z_istore_n C [(3, .int y13), (0, .ref (G.1 + 90)), (2, .int y12)] dX12_eveningLine_57 rfl (by decide) rfl rfl ?_
  refine z_iload_n C 2 2 dX12_eveningLine_58 rfl rfl ?_
  refine z_iconst C 2 dX12_eveningLine_59 (by decide) ?_
  refine z_icmp_ge C 73 dX12_eveningLine_60 (by decide) (fun c14 => ?_) (fun c14 => ?_)
  · replace hf := ite_t c14 hf
    refine z_iconst C (-1) dX12_eveningLine_73 (by decide) ?_
    refine z_lv (lv2 := [(0, .ref (G.1 + 90)), (2, .int y12), (3, .int y13)]) [1, 2, 0] rfl ?_
    exact wX12_eveningLine_j74 C hs0 hL pp M11 y12 y13 (-1) hf
  · replace hf := ite_f c14 hf
    refine z_aload_n C 1 0 dX12_eveningLine_63 rfl rfl ?_
    refine z_iconst C 0 dX12_eveningLine_64 (by decide) ?_
    refine z_bipush C 7 dX12_eveningLine_65 (by decide) ?_
    replace hf := bd_out hf
    obtain ⟨p36, e37, hf⟩ := hf
    refine z_cV1 C [] (tX12_numbered l G hL M11 0 7 _ e37) lk_X12_numbered ok_X12 (lay_c90 hL) q_ml_X12_152 rfl ⟨Nat.le_of_ble_eq_true rfl, Nat.le_of_ble_eq_true rfl⟩ rfl (Nat.le_of_ble_eq_true rfl) ⟨Nat.le_refl _, Nat.le_refl _⟩ dX12_eveningLine_67 ?_
    refine z_goto C 74 dX12_eveningLine_70 (by decide) ?_
    refine z_lv (lv2 := [(0, .ref (G.1 + 90)), (2, .int y12), (3, .int y13)]) [1, 2, 0] rfl ?_
    exact wX12_eveningLine_j74 C hs0 hL pp p36.2 y12 y13 p36.1 hf
set_option maxHeartbeats 4000000 in
set_option maxRecDepth 100000 in
theorem wX12_eveningLine_j41 (C : CX p s m args meth c cX12_eveningLine 6 none RX12 G) (hs0 : s.heap.size = G.1 + K.1) (hL : Lay K)   (pp : MM)  (M8 : MM) (y9 : Int32) (hf : fX12_eveningLine_j41 M8 y9 = some pp) : Z p l e (rmo 6 0 0) s m args below meth c 6 G (MQ below (QC G none K pp) args s 0 0 (AG G)) K 0 0 M8 41 [(0, .ref (G.1 + 90)), (2, .int y9)] [] := by
  unfold fX12_eveningLine_j41 at hf
  refine z_iload_n C 1 2 dX12_eveningLine_41 rfl rfl ?_
  refine z_iconst C 4 dX12_eveningLine_42 (by decide) ?_
  refine z_icmp_ge C 56 dX12_eveningLine_43 (by decide) (fun c10 => ?_) (fun c10 => ?_)
  · replace hf := ite_t c10 hf
    refine z_iconst C (-1) dX12_eveningLine_56 (by decide) ?_
    exact wX12_eveningLine_j57 C hs0 hL pp M8 y9 (-1) hf
  · replace hf := ite_f c10 hf
    refine z_aload_n C 0 0 dX12_eveningLine_46 rfl rfl ?_
    refine z_iconst C 0 dX12_eveningLine_47 (by decide) ?_
    refine z_bipush C 7 dX12_eveningLine_48 (by decide) ?_
    replace hf := bd_out hf
    obtain ⟨p38, e39, hf⟩ := hf
    refine z_cV1 C [] (tX12_numbered l G hL M8 0 7 _ e39) lk_X12_numbered ok_X12 (lay_c90 hL) q_ml_X12_152 rfl ⟨Nat.le_of_ble_eq_true rfl, Nat.le_of_ble_eq_true rfl⟩ rfl (Nat.le_of_ble_eq_true rfl) ⟨Nat.le_refl _, Nat.le_refl _⟩ dX12_eveningLine_50 ?_
    refine z_goto C 57 dX12_eveningLine_53 (by decide) ?_
    exact wX12_eveningLine_j57 C hs0 hL pp p38.2 y9 p38.1 hf
set_option maxHeartbeats 4000000 in
set_option maxRecDepth 100000 in
theorem tX12_eveningLine (l : Launch) (G : GG) {K : SK} (hL : Lay K) (M : MM)  (pp : MM) (hf : fX12_eveningLine M = some pp) : Ct l yX12_eveningLine cX12_eveningLine 6 none 6 0 0 G K M [.ref (G.1 + 90)] none K pp := by
  refine z_enter (lv := [(0, .ref (G.1 + 90))]) (by decide +kernel) (Nat.le_of_ble_eq_true rfl) rfl ?_
  intro p e s m args below meth c C hnm hs0
  replace C : CX p s m args meth c cX12_eveningLine 6 none RX12 G := C
  unfold fX12_eveningLine at hf
  refine z_aload_n C 0 0 dX12_eveningLine_0 rfl rfl ?_
  refine z_getI C ok_X12 (lay_c90 hL) 4 (by decide) rfl q_fl_X12_108 dX12_eveningLine_1 ?_
  refine z_topi (fun v1 e2 => ?_)
  replace hf := bnd_out e2 hf
  refine z_istore_n C [(1, .int v1), (0, .ref (G.1 + 90))] dX12_eveningLine_4 rfl (by decide) rfl rfl ?_
  refine z_aload_n C 1 0 dX12_eveningLine_5 rfl rfl ?_
  refine z_bipush C 14 dX12_eveningLine_6 (by decide) ?_
  refine z_bipush C 18 dX12_eveningLine_8 (by decide) ?_
  replace hf := bd_out hf
  obtain ⟨p3, e4, hf⟩ := hf
  refine z_cV1 C [] (tX12_takes l G hL M 14 18 _ e4) lk_X12_takes ok_X12 (lay_c90 hL) q_ml_X12_166 rfl ⟨Nat.le_of_ble_eq_true rfl, Nat.le_of_ble_eq_true rfl⟩ rfl (Nat.le_of_ble_eq_true rfl) ⟨Nat.le_refl _, Nat.le_refl _⟩ dX12_eveningLine_10 ?_
  refine z_bipush C 14 dX12_eveningLine_13 (by decide) ?_
  refine z_isub C dX12_eveningLine_15 ?_
  refine z_topi (fun v5 e6 => ?_)
  replace hf := bnd_out e6 hf
  refine z_istore_n C [(2, .int v5), (1, .int v1), (0, .ref (G.1 + 90))] dX12_eveningLine_16 rfl (by decide) rfl rfl ?_
  refine z_aload_n C 2 0 dX12_eveningLine_17 rfl rfl ?_
  refine z_getI C ok_X12 (lay_c90 hL) 8 (by decide) rfl q_fl_X12_134 dX12_eveningLine_18 ?_
  refine z_if_ne C 41 dX12_eveningLine_21 (by decide) (fun c7 => ?_) (fun c7 => ?_)
  · replace hf := ite_f c7 hf
    refine z_lv (lv2 := [(0, .ref (G.1 + 90)), (2, .int v5)]) [2, 0] rfl ?_
    exact wX12_eveningLine_j41 C hs0 hL pp p3.2 v5 hf
  · replace hf := ite_t c7 hf
    refine z_aload_n C 2 0 dX12_eveningLine_24 rfl rfl ?_
    refine z_getR C ok_X12 (lay_c90 hL) 11 (93) (by decide) rfl (lay_r90_11 hL) q_fl_X12_17 dX12_eveningLine_25 ?_
    refine z_iconst C 0 dX12_eveningLine_28 (by decide) ?_
    refine z_iald C (lay_c93 hL) (inb_in (by decide)) dX12_eveningLine_29 ?_
    refine z_bipush C 40 dX12_eveningLine_30 (by decide) ?_
    refine z_icmp_lt C 41 dX12_eveningLine_32 (by decide) (fun c40 => ?_) (fun c40 => ?_)
    · replace hf := ite_t c40 hf
      refine z_lv (lv2 := [(0, .ref (G.1 + 90)), (2, .int v5)]) [2, 0] rfl ?_
      exact wX12_eveningLine_j41 C hs0 hL pp p3.2 v5 hf
    · replace hf := ite_f c40 hf
      refine z_aload_n C 2 0 dX12_eveningLine_35 rfl rfl ?_
      refine z_iconst C 3 dX12_eveningLine_36 (by decide) ?_
      refine z_iload_n C 1 1 dX12_eveningLine_37 rfl rfl ?_
      replace hf := bd_out hf
      obtain ⟨p41, e42, hf⟩ := hf
      refine z_cV0 C [] (tX12_also l G hL p3.2 3 v1 _ e42) lk_X12_also ok_X12 (lay_c90 hL) q_ml_X12_145 rfl ⟨Nat.le_of_ble_eq_true rfl, Nat.le_of_ble_eq_true rfl⟩ rfl (Nat.le_of_ble_eq_true rfl) ⟨Nat.le_refl _, Nat.le_refl _⟩ dX12_eveningLine_38 ?_
      refine z_lv (lv2 := [(0, .ref (G.1 + 90)), (2, .int v5)]) [2, 0] rfl ?_
      exact wX12_eveningLine_j41 C hs0 hL pp p41 v5 hf
set_option maxHeartbeats 4000000 in
set_option maxRecDepth 100000 in
theorem wX12_sightLine_j56 (C : CX p s m args meth c cX12_sightLine 3 none RX12 G) (hs0 : s.heap.size = G.1 + K.1) (hL : Lay K)   (pp : MM)  (M11 : MM) (hf : fX12_sightLine_j56 M11 = some pp) : Z p l e (rmo 6 0 0) s m args below meth c 3 G (MQ below (QC G none K pp) args s 0 0 (AG G)) K 0 0 M11 56 [(0, .ref (G.1 + 90))] [] := by
  unfold fX12_sightLine_j56 at hf
  refine z_aload_n C 0 0 dX12_sightLine_56 rfl rfl ?_
  replace hf := bd_out hf
  obtain ⟨p12, e13, hf⟩ := hf
  refine z_cV0 C [] (tX12_endsLine l G hL M11  _ e13) lk_X12_endsLine ok_X12 (lay_c90 hL) q_ml_X12_176 rfl ⟨Nat.le_of_ble_eq_true rfl, Nat.le_of_ble_eq_true rfl⟩ rfl (Nat.le_of_ble_eq_true rfl) ⟨Nat.le_refl _, Nat.le_refl _⟩ dX12_sightLine_57 ?_
  cases hf
  exact z_vret C rfl dX12_sightLine_60
set_option maxHeartbeats 4000000 in
set_option maxRecDepth 100000 in
theorem tX12_sightLine (l : Launch) (G : GG) {K : SK} (hL : Lay K) (M : MM)  (pp : MM) (hf : fX12_sightLine M = some pp) : Ct l yX12_sightLine cX12_sightLine 3 none 6 0 0 G K M [.ref (G.1 + 90)] none K pp := by
  refine z_enter (lv := [(0, .ref (G.1 + 90))]) (by decide +kernel) (Nat.le_of_ble_eq_true rfl) rfl ?_
  intro p e s m args below meth c C hnm hs0
  replace C : CX p s m args meth c cX12_sightLine 3 none RX12 G := C
  unfold fX12_sightLine at hf
  refine z_aload_n C 0 0 dX12_sightLine_0 rfl rfl ?_
  refine z_bipush C 19 dX12_sightLine_1 (by decide) ?_
  refine z_bipush C 20 dX12_sightLine_3 (by decide) ?_
  replace hf := bd_out hf
  obtain ⟨p1, e2, hf⟩ := hf
  refine z_cV1 C [] (tX12_takes l G hL M 19 20 _ e2) lk_X12_takes ok_X12 (lay_c90 hL) q_ml_X12_166 rfl ⟨Nat.le_of_ble_eq_true rfl, Nat.le_of_ble_eq_true rfl⟩ rfl (Nat.le_of_ble_eq_true rfl) ⟨Nat.le_refl _, Nat.le_refl _⟩ dX12_sightLine_5 ?_
  refine z_istore_n C [(1, .int p1.1), (0, .ref (G.1 + 90))] dX12_sightLine_8 rfl (by decide) rfl rfl ?_
  refine z_iload_n C 0 1 dX12_sightLine_9 rfl rfl ?_
  refine z_bipush C 20 dX12_sightLine_10 (by decide) ?_
  refine z_icmp_ne C 31 dX12_sightLine_12 (by decide) (fun c3 => ?_) (fun c3 => ?_)
  · replace hf := ite_f c3 hf
    refine z_aload_n C 1 0 dX12_sightLine_31 rfl rfl ?_
    refine z_iconst C 0 dX12_sightLine_32 (by decide) ?_
    refine z_bipush C 7 dX12_sightLine_33 (by decide) ?_
    replace hf := bd_out hf
    obtain ⟨p4, e5, hf⟩ := hf
    refine z_cV1 C [] (tX12_numbered l G hL p1.2 0 7 _ e5) lk_X12_numbered ok_X12 (lay_c90 hL) q_ml_X12_152 rfl ⟨Nat.le_of_ble_eq_true rfl, Nat.le_of_ble_eq_true rfl⟩ rfl (Nat.le_of_ble_eq_true rfl) ⟨Nat.le_refl _, Nat.le_refl _⟩ dX12_sightLine_35 ?_
    refine z_istore_n C [(2, .int p4.1), (1, .int p1.1), (0, .ref (G.1 + 90))] dX12_sightLine_38 rfl (by decide) rfl rfl ?_
    refine z_aload_n C 2 0 dX12_sightLine_39 rfl rfl ?_
    refine z_getR C ok_X12 (lay_c90 hL) 11 (93) (by decide) rfl (lay_r90_11 hL) q_fl_X12_17 dX12_sightLine_40 ?_
    refine z_iconst C 1 dX12_sightLine_43 (by decide) ?_
    refine z_iload_n C 0 2 dX12_sightLine_44 rfl rfl ?_
    refine z_iadd C dX12_sightLine_45 ?_
    refine z_iconst C 1 dX12_sightLine_46 (by decide) ?_
    refine z_aload_n C 2 0 dX12_sightLine_47 rfl rfl ?_
    refine z_iconst C 0 dX12_sightLine_48 (by decide) ?_
    refine z_bipush C 9 dX12_sightLine_49 (by decide) ?_
    replace hf := bd_out hf
    obtain ⟨p6, e7, hf⟩ := hf
    refine z_cV1 C [.int 1, .int (1 + p4.1), .ref (G.1 + 93)] (tX12_numbered l G hL p4.2 0 9 _ e7) lk_X12_numbered ok_X12 (lay_c90 hL) q_ml_X12_152 rfl ⟨Nat.le_of_ble_eq_true rfl, Nat.le_of_ble_eq_true rfl⟩ rfl (Nat.le_of_ble_eq_true rfl) ⟨Nat.le_refl _, Nat.le_refl _⟩ dX12_sightLine_51 ?_
    refine z_iadd C dX12_sightLine_54 ?_
    replace hf := gd_out hf
    obtain ⟨g8, hf⟩ := hf
    refine z_iast C (lay_c93 hL) (inb_in g8) dX12_sightLine_55 ?_
    refine z_M (fun M9 e10 => ?_)
    replace hf := bnd_out e10 hf
    refine z_lv (lv2 := [(0, .ref (G.1 + 90))]) [2] rfl ?_
    exact wX12_sightLine_j56 C hs0 hL pp M9 hf
  · replace hf := ite_t c3 hf
    refine z_aload_n C 1 0 dX12_sightLine_15 rfl rfl ?_
    refine z_getR C ok_X12 (lay_c90 hL) 11 (93) (by decide) rfl (lay_r90_11 hL) q_fl_X12_17 dX12_sightLine_16 ?_
    refine z_iconst C 0 dX12_sightLine_19 (by decide) ?_
    refine z_aload_n C 1 0 dX12_sightLine_20 rfl rfl ?_
    refine z_iconst C 0 dX12_sightLine_21 (by decide) ?_
    refine z_bipush C 9 dX12_sightLine_22 (by decide) ?_
    replace hf := bd_out hf
    obtain ⟨p14, e15, hf⟩ := hf
    refine z_cV1 C [.int 0, .ref (G.1 + 93)] (tX12_numbered l G hL p1.2 0 9 _ e15) lk_X12_numbered ok_X12 (lay_c90 hL) q_ml_X12_152 rfl ⟨Nat.le_of_ble_eq_true rfl, Nat.le_of_ble_eq_true rfl⟩ rfl (Nat.le_of_ble_eq_true rfl) ⟨Nat.le_refl _, Nat.le_refl _⟩ dX12_sightLine_24 ?_
    refine z_iast C (lay_c93 hL) (inb_in (by decide)) dX12_sightLine_27 ?_
    refine z_M (fun M16 e17 => ?_)
    replace hf := bnd_out e17 hf
    refine z_goto C 56 dX12_sightLine_28 (by decide) ?_
    refine z_lv (lv2 := [(0, .ref (G.1 + 90))]) [1] rfl ?_
    exact wX12_sightLine_j56 C hs0 hL pp M16 hf
set_option maxHeartbeats 4000000 in
set_option maxRecDepth 100000 in
theorem tX12_placeOf (l : Launch) (G : GG) {K : SK} (hL : Lay K) (M : MM) (x0 : Int32) (x1 : Int32) : Ct l yX12_placeOf cX12_placeOf 2 (some .int) 0 0 0 G K M [.int x0, .int x1] (some (.int (fX12_placeOf x0 x1))) K M := by
  generalize hf : fX12_placeOf x0 x1 = pp
  refine z_enter (lv := [(0, .int x0), (1, .int x1)]) (by decide +kernel) (Nat.le_of_ble_eq_true rfl) rfl ?_
  intro p e s m args below meth c C hnm hs0
  replace C : CX p s m args meth c cX12_placeOf 2 (some .int) RX12 G := C
  unfold fX12_placeOf at hf
  refine z_iload_n C 0 0 dX12_placeOf_0 rfl rfl ?_
  refine z_if_ne C 15 dX12_placeOf_1 (by decide) (fun c1 => ?_) (fun c1 => ?_)
  · replace hf := ite_f c1 hf
    refine z_iload_n C 0 0 dX12_placeOf_15 rfl rfl ?_
    refine z_iconst C 1 dX12_placeOf_16 (by decide) ?_
    refine z_icmp_ne C 31 dX12_placeOf_17 (by decide) (fun c2 => ?_) (fun c2 => ?_)
    · replace hf := ite_f c2 hf
      refine z_iload_n C 0 0 dX12_placeOf_31 rfl rfl ?_
      refine z_iconst C 2 dX12_placeOf_32 (by decide) ?_
      refine z_icmp_ne C 47 dX12_placeOf_33 (by decide) (fun c3 => ?_) (fun c3 => ?_)
      · replace hf := ite_f c3 hf
        refine z_sipush C 1112 dX12_placeOf_47 (by decide) ?_
        refine z_bipush C 9 dX12_placeOf_50 (by decide) ?_
        refine z_iload_n C 1 1 dX12_placeOf_52 rfl rfl ?_
        refine z_imul C dX12_placeOf_53 ?_
        refine z_iadd C dX12_placeOf_54 ?_
        cases hf
        exact z_iret C rfl dX12_placeOf_55
      · replace hf := ite_t c3 hf
        refine z_sipush C 870 dX12_placeOf_36 (by decide) ?_
        refine z_bipush C 121 dX12_placeOf_39 (by decide) ?_
        refine z_iload_n C 1 1 dX12_placeOf_41 rfl rfl ?_
        refine z_imul C dX12_placeOf_42 ?_
        refine z_iadd C dX12_placeOf_43 ?_
        refine z_goto C 55 dX12_placeOf_44 (by decide) ?_
        cases hf
        exact z_iret C rfl dX12_placeOf_55
    · replace hf := ite_t c2 hf
      refine z_sipush C 858 dX12_placeOf_20 (by decide) ?_
      refine z_bipush C 6 dX12_placeOf_23 (by decide) ?_
      refine z_iload_n C 1 1 dX12_placeOf_25 rfl rfl ?_
      refine z_imul C dX12_placeOf_26 ?_
      refine z_iadd C dX12_placeOf_27 ?_
      refine z_goto C 55 dX12_placeOf_28 (by decide) ?_
      cases hf
      exact z_iret C rfl dX12_placeOf_55
  · replace hf := ite_t c1 hf
    refine z_sipush C 610 dX12_placeOf_4 (by decide) ?_
    refine z_bipush C 124 dX12_placeOf_7 (by decide) ?_
    refine z_iload_n C 1 1 dX12_placeOf_9 rfl rfl ?_
    refine z_imul C dX12_placeOf_10 ?_
    refine z_iadd C dX12_placeOf_11 ?_
    refine z_goto C 55 dX12_placeOf_12 (by decide) ?_
    cases hf
    exact z_iret C rfl dX12_placeOf_55
set_option maxHeartbeats 4000000 in
set_option maxRecDepth 100000 in
theorem tX12_sizeOf (l : Launch) (G : GG) {K : SK} (hL : Lay K) (M : MM) (x0 : Int32) : Ct l yX12_sizeOf cX12_sizeOf 1 (some .int) 0 0 0 G K M [.int x0] (some (.int (fX12_sizeOf x0))) K M := by
  generalize hf : fX12_sizeOf x0 = pp
  refine z_enter (lv := [(0, .int x0)]) (by decide +kernel) (Nat.le_of_ble_eq_true rfl) rfl ?_
  intro p e s m args below meth c C hnm hs0
  replace C : CX p s m args meth c cX12_sizeOf 1 (some .int) RX12 G := C
  unfold fX12_sizeOf at hf
  refine z_iload_n C 0 0 dX12_sizeOf_0 rfl rfl ?_
  refine z_if_ne C 9 dX12_sizeOf_1 (by decide) (fun c1 => ?_) (fun c1 => ?_)
  · replace hf := ite_f c1 hf
    refine z_iload_n C 0 0 dX12_sizeOf_9 rfl rfl ?_
    refine z_iconst C 1 dX12_sizeOf_10 (by decide) ?_
    refine z_icmp_ne C 19 dX12_sizeOf_11 (by decide) (fun c2 => ?_) (fun c2 => ?_)
    · replace hf := ite_f c2 hf
      refine z_iload_n C 0 0 dX12_sizeOf_19 rfl rfl ?_
      refine z_iconst C 2 dX12_sizeOf_20 (by decide) ?_
      refine z_icmp_ne C 29 dX12_sizeOf_21 (by decide) (fun c3 => ?_) (fun c3 => ?_)
      · replace hf := ite_f c3 hf
        refine z_bipush C 9 dX12_sizeOf_29 (by decide) ?_
        cases hf
        exact z_iret C rfl dX12_sizeOf_31
      · replace hf := ite_t c3 hf
        refine z_bipush C 121 dX12_sizeOf_24 (by decide) ?_
        refine z_goto C 31 dX12_sizeOf_26 (by decide) ?_
        cases hf
        exact z_iret C rfl dX12_sizeOf_31
    · replace hf := ite_t c2 hf
      refine z_bipush C 6 dX12_sizeOf_14 (by decide) ?_
      refine z_goto C 31 dX12_sizeOf_16 (by decide) ?_
      cases hf
      exact z_iret C rfl dX12_sizeOf_31
  · replace hf := ite_t c1 hf
    refine z_bipush C 124 dX12_sizeOf_4 (by decide) ?_
    refine z_goto C 31 dX12_sizeOf_6 (by decide) ?_
    cases hf
    exact z_iret C rfl dX12_sizeOf_31
set_option maxHeartbeats 4000000 in
set_option maxRecDepth 100000 in
theorem tX12_isOf (l : Launch) (G : GG) {K : SK} (hL : Lay K) (M : MM) (x1 : Int32) (x2 : Int32) (pp : Int32) (hf : fX12_isOf M x1 x2 = some pp) : Ct l yX12_isOf cX12_isOf 3 (some .boolean) 1 0 0 G K M [.ref (G.1 + 90), .int x1, .int x2] (some (.int pp)) K M := by
  refine z_enter (lv := [(0, .ref (G.1 + 90)), (1, .int x1), (2, .int x2)]) (by decide +kernel) (Nat.le_of_ble_eq_true rfl) rfl ?_
  intro p e s m args below meth c C hnm hs0
  replace C : CX p s m args meth c cX12_isOf 3 (some .boolean) RX12 G := C
  unfold fX12_isOf at hf
  refine z_iload_n C 2 2 dX12_isOf_0 rfl rfl ?_
  refine z_iconst C 0 dX12_isOf_1 (by decide) ?_
  refine z_aload_n C 0 0 dX12_isOf_2 rfl rfl ?_
  refine z_getR C ok_X12 (lay_c90 hL) 0 (91) (by decide) rfl (lay_r90_0 hL) q_fl_X12_7 dX12_isOf_3 ?_
  refine z_iload_n C 1 1 dX12_isOf_6 rfl rfl ?_
  replace hf := gd_out hf
  obtain ⟨g1, hf⟩ := hf
  refine z_iald C (lay_c91 hL) (inb_in g1) dX12_isOf_7 ?_
  refine z_iconst C 1 dX12_isOf_8 (by decide) ?_
  refine z_isub C dX12_isOf_9 ?_
  refine z_cS1 C [] (tX12_isIn l G hL M x2 0 ((gI M 91 (ix x1)) - 1)) lk_X12_isIn q_ml_X12_141 rfl ⟨Nat.le_of_ble_eq_true rfl, Nat.le_of_ble_eq_true rfl⟩ rfl (Nat.le_of_ble_eq_true rfl) ⟨Nat.le_refl _, Nat.le_refl _⟩ dX12_isOf_10 ?_
  replace hf := gd_out hf
  obtain ⟨g2, hf⟩ := hf
  cases hf
  exact z_zret C rfl (isb_n g2) dX12_isOf_13
set_option maxHeartbeats 4000000 in
set_option maxRecDepth 100000 in
theorem wX12_clears_l2 (C : CX p s m args meth c cX12_clears 3 none RX12 G) (hs0 : s.heap.size = G.1 + K.1) (hL : Lay K)  (k21 : MM → Int32 → Option MM) (pp : MM) (hk21 : ∀ (M5 : MM) (y6 : Int32), k21 M5 y6 = some pp → Z p l e (rmo 0 0 0) s m args below meth c 3 G (MQ below (QC G none K pp) args s 0 0 (AG G)) K 0 0 M5 21 [(0, .ref (G.1 + 90)), (1, .int y6)] []) : ∀ (n : Nat) (M1 : MM) (y2 : Int32) (y3 : Int32) (hf : fX12_clears_l2 k21 n M1 y2 y3 = some pp), Z p l e (rmo 0 0 0) s m args below meth c 3 G (MQ below (QC G none K pp) args s 0 0 (AG G)) K 0 0 M1 2 [(0, .ref (G.1 + 90)), (1, .int y2), (2, .int y3)] [] := by
  intro n
  induction n with
  | zero => intro M1 y2 y3 hf; exact nomatch (show (none : Option MM) = some pp from hf)
  | succ n ih =>
    intro M1 y2 y3 hf
    rw [fX12_clears_l2.eq_2] at hf
    refine z_iload_n C 2 2 dX12_clears_2 rfl rfl ?_
    refine z_bipush C 124 dX12_clears_3 (by decide) ?_
    refine z_icmp_ge C 21 dX12_clears_5 (by decide) (fun c4 => ?_) (fun c4 => ?_)
    · replace hf := ite_t c4 hf
      refine z_lv (lv2 := [(0, .ref (G.1 + 90)), (1, .int y2)]) [0, 1] rfl ?_
      exact hk21 M1 y2  hf
    · replace hf := ite_f c4 hf
      refine z_aload_n C 0 0 dX12_clears_8 rfl rfl ?_
      refine z_getR C ok_X12 (lay_c90 hL) 11 (93) (by decide) rfl (lay_r90_11 hL) q_fl_X12_17 dX12_clears_9 ?_
      refine z_iload_n C 2 2 dX12_clears_12 rfl rfl ?_
      refine z_iconst C 0 dX12_clears_13 (by decide) ?_
      replace hf := gd_out hf
      obtain ⟨g7, hf⟩ := hf
      refine z_iast C (lay_c93 hL) (inb_in g7) dX12_clears_14 ?_
      refine z_M (fun M8 e9 => ?_)
      replace hf := bnd_out e9 hf
      refine z_iinc C 2 (y3 + 1) [(2, .int (y3 + 1)), (0, .ref (G.1 + 90)), (1, .int y2)] dX12_clears_15 rfl rfl (by decide) rfl rfl ?_
      refine z_goto C 2 dX12_clears_18 (by decide) ?_
      refine z_lv (lv2 := [(0, .ref (G.1 + 90)), (1, .int y2), (2, .int (y3 + 1))]) [1, 2, 0] rfl ?_
      exact ih M8 y2 (y3 + 1)  hf
set_option maxHeartbeats 4000000 in
set_option maxRecDepth 100000 in
theorem wX12_clears_j41 (C : CX p s m args meth c cX12_clears 3 none RX12 G) (hs0 : s.heap.size = G.1 + K.1) (hL : Lay K)   (pp : MM)  (M13 : MM) (y14 : Int32) (hf : fX12_clears_j41 M13 y14 = some pp) : Z p l e (rmo 0 0 0) s m args below meth c 3 G (MQ below (QC G none K pp) args s 0 0 (AG G)) K 0 0 M13 41 [(0, .ref (G.1 + 90)), (1, .int y14)] [] := by
  unfold fX12_clears_j41 at hf
  refine z_iload_n C 1 1 dX12_clears_41 rfl rfl ?_
  refine z_iconst C 1 dX12_clears_42 (by decide) ?_
  refine z_icmp_ne C 67 dX12_clears_43 (by decide) (fun c15 => ?_) (fun c15 => ?_)
  · replace hf := ite_f c15 hf
    cases hf
    exact z_vret C rfl dX12_clears_67
  · replace hf := ite_t c15 hf
    refine z_aload_n C 0 0 dX12_clears_46 rfl rfl ?_
    refine z_getR C ok_X12 (lay_c90 hL) 11 (93) (by decide) rfl (lay_r90_11 hL) q_fl_X12_17 dX12_clears_47 ?_
    refine z_iconst C 1 dX12_clears_50 (by decide) ?_
    refine z_iconst C 1 dX12_clears_51 (by decide) ?_
    refine z_iast C (lay_c93 hL) (inb_in (by decide)) dX12_clears_52 ?_
    refine z_M (fun M16 e17 => ?_)
    replace hf := bnd_out e17 hf
    refine z_aload_n C 0 0 dX12_clears_53 rfl rfl ?_
    refine z_getR C ok_X12 (lay_c90 hL) 11 (93) (by decide) rfl (lay_r90_11 hL) q_fl_X12_17 dX12_clears_54 ?_
    refine z_iconst C 3 dX12_clears_57 (by decide) ?_
    refine z_iconst C 5 dX12_clears_58 (by decide) ?_
    refine z_iast C (lay_c93 hL) (inb_in (by decide)) dX12_clears_59 ?_
    refine z_M (fun M18 e19 => ?_)
    replace hf := bnd_out e19 hf
    refine z_aload_n C 0 0 dX12_clears_60 rfl rfl ?_
    refine z_getR C ok_X12 (lay_c90 hL) 11 (93) (by decide) rfl (lay_r90_11 hL) q_fl_X12_17 dX12_clears_61 ?_
    refine z_iconst C 5 dX12_clears_64 (by decide) ?_
    refine z_iconst C 1 dX12_clears_65 (by decide) ?_
    refine z_iast C (lay_c93 hL) (inb_in (by decide)) dX12_clears_66 ?_
    refine z_M (fun M20 e21 => ?_)
    replace hf := bnd_out e21 hf
    cases hf
    exact z_vret C rfl dX12_clears_67
set_option maxHeartbeats 4000000 in
set_option maxRecDepth 100000 in
theorem tX12_clears (l : Launch) (G : GG) {K : SK} (hL : Lay K) (M : MM) (x1 : Int32) (pp : MM) (hf : fX12_clears M x1 = some pp) : Ct l yX12_clears cX12_clears 3 none 0 0 0 G K M [.ref (G.1 + 90), .int x1] none K pp := by
  refine z_enter (lv := [(0, .ref (G.1 + 90)), (1, .int x1)]) (by decide +kernel) (Nat.le_of_ble_eq_true rfl) rfl ?_
  intro p e s m args below meth c C hnm hs0
  replace C : CX p s m args meth c cX12_clears 3 none RX12 G := C
  unfold fX12_clears at hf
  refine z_iconst C 0 dX12_clears_0 (by decide) ?_
  refine z_istore_n C [(2, .int 0), (0, .ref (G.1 + 90)), (1, .int x1)] dX12_clears_1 rfl (by decide) rfl rfl ?_
  refine z_lv (lv2 := [(0, .ref (G.1 + 90)), (1, .int x1), (2, .int 0)]) [1, 2, 0] rfl ?_
  refine wX12_clears_l2 C hs0 hL _ pp ?_ FU M x1 0 hf
  · intro M10 y11 hf
    refine z_iload_n C 1 1 dX12_clears_21 rfl rfl ?_
    refine z_if_ne C 41 dX12_clears_22 (by decide) (fun c12 => ?_) (fun c12 => ?_)
    · replace hf := ite_f c12 hf
      exact wX12_clears_j41 C hs0 hL pp M10 y11 hf
    · replace hf := ite_t c12 hf
      refine z_aload_n C 0 0 dX12_clears_25 rfl rfl ?_
      refine z_getR C ok_X12 (lay_c90 hL) 11 (93) (by decide) rfl (lay_r90_11 hL) q_fl_X12_17 dX12_clears_26 ?_
      refine z_iconst C 0 dX12_clears_29 (by decide) ?_
      refine z_bipush C 6 dX12_clears_30 (by decide) ?_
      refine z_iast C (lay_c93 hL) (inb_in (by decide)) dX12_clears_32 ?_
      refine z_M (fun M22 e23 => ?_)
      replace hf := bnd_out e23 hf
      refine z_aload_n C 0 0 dX12_clears_33 rfl rfl ?_
      refine z_getR C ok_X12 (lay_c90 hL) 11 (93) (by decide) rfl (lay_r90_11 hL) q_fl_X12_17 dX12_clears_34 ?_
      refine z_iconst C 1 dX12_clears_37 (by decide) ?_
      refine z_bipush C 6 dX12_clears_38 (by decide) ?_
      refine z_iast C (lay_c93 hL) (inb_in (by decide)) dX12_clears_40 ?_
      refine z_M (fun M24 e25 => ?_)
      replace hf := bnd_out e25 hf
      exact wX12_clears_j41 C hs0 hL pp M24 y11 hf
set_option maxHeartbeats 4000000 in
set_option maxRecDepth 100000 in
theorem wX12_wrongAtEnd_j78 (C : CX p s m args meth c cX12_wrongAtEnd 4 (some .int) RX12 G) (hs0 : s.heap.size = G.1 + K.1) (hL : Lay K) (M : MM) (k47 : Int32 → Int32 → Int32 → Option Int32) (pp : Int32) (hk47 : ∀ (y22 : Int32) (y23 : Int32) (y24 : Int32), k47 y22 y23 y24 = some pp → Z p l e (rmo 0 0 0) s m args below meth c 4 G (MQ below (QC G (some (.int pp)) K M) args s 0 0 (AG G)) K 0 0 M 47 [(0, .ref (G.1 + 90)), (1, .int y22), (2, .int y23), (3, .int y24)] []) (y16 : Int32) (y17 : Int32) (y18 : Int32) (y19 : Int32) (hf : fX12_wrongAtEnd_j78 M k47 y16 y17 y18 y19 = some pp) : Z p l e (rmo 0 0 0) s m args below meth c 4 G (MQ below (QC G (some (.int pp)) K M) args s 0 0 (AG G)) K 0 0 M 78 [(0, .ref (G.1 + 90)), (1, .int y16), (3, .int y17)] [.int y19, .int y18] := by
  unfold fX12_wrongAtEnd_j78 at hf
  refine z_iadd C dX12_wrongAtEnd_78 ?_
  refine z_topi (fun v20 e21 => ?_)
  replace hf := bnd_out e21 hf
  refine z_istore_n C [(2, .int v20), (0, .ref (G.1 + 90)), (1, .int y16), (3, .int y17)] dX12_wrongAtEnd_79 rfl (by decide) rfl rfl ?_
  refine z_iinc C 3 (y17 + 1) [(3, .int (y17 + 1)), (2, .int v20), (0, .ref (G.1 + 90)), (1, .int y16)] dX12_wrongAtEnd_80 rfl rfl (by decide) rfl rfl ?_
  refine z_goto C 47 dX12_wrongAtEnd_83 (by decide) ?_
  refine z_lv (lv2 := [(0, .ref (G.1 + 90)), (1, .int y16), (2, .int v20), (3, .int (y17 + 1))]) [2, 3, 1, 0] rfl ?_
  exact hk47 y16 v20 (y17 + 1)  hf
set_option maxHeartbeats 4000000 in
set_option maxRecDepth 100000 in
theorem wX12_wrongAtEnd_l47 (C : CX p s m args meth c cX12_wrongAtEnd 4 (some .int) RX12 G) (hs0 : s.heap.size = G.1 + K.1) (hL : Lay K) (M : MM) (k86 : Int32 → Int32 → Option Int32) (pp : Int32) (hk86 : ∀ (y12 : Int32) (y13 : Int32), k86 y12 y13 = some pp → Z p l e (rmo 0 0 0) s m args below meth c 4 G (MQ below (QC G (some (.int pp)) K M) args s 0 0 (AG G)) K 0 0 M 86 [(0, .ref (G.1 + 90)), (1, .int y12), (2, .int y13)] []) : ∀ (n : Nat) (y8 : Int32) (y9 : Int32) (y10 : Int32) (hf : fX12_wrongAtEnd_l47 M k86 n y8 y9 y10 = some pp), Z p l e (rmo 0 0 0) s m args below meth c 4 G (MQ below (QC G (some (.int pp)) K M) args s 0 0 (AG G)) K 0 0 M 47 [(0, .ref (G.1 + 90)), (1, .int y8), (2, .int y9), (3, .int y10)] [] := by
  intro n
  induction n with
  | zero => intro y8 y9 y10 hf; exact nomatch (show (none : Option Int32) = some pp from hf)
  | succ n ih =>
    intro y8 y9 y10 hf
    rw [fX12_wrongAtEnd_l47.eq_2] at hf
    refine z_iload_n C 3 3 dX12_wrongAtEnd_47 rfl rfl ?_
    refine z_aload_n C 0 0 dX12_wrongAtEnd_48 rfl rfl ?_
    refine z_getR C ok_X12 (lay_c90 hL) 11 (93) (by decide) rfl (lay_r90_11 hL) q_fl_X12_17 dX12_wrongAtEnd_49 ?_
    refine z_iconst C 2 dX12_wrongAtEnd_52 (by decide) ?_
    refine z_iald C (lay_c93 hL) (inb_in (by decide)) dX12_wrongAtEnd_53 ?_
    refine z_icmp_ge C 86 dX12_wrongAtEnd_54 (by decide) (fun c11 => ?_) (fun c11 => ?_)
    · replace hf := ite_t c11 hf
      refine z_lv (lv2 := [(0, .ref (G.1 + 90)), (1, .int y8), (2, .int y9)]) [0, 1, 2] rfl ?_
      exact hk86 y8 y9  hf
    · replace hf := ite_f c11 hf
      refine z_iload_n C 2 2 dX12_wrongAtEnd_57 rfl rfl ?_
      refine z_aload_n C 0 0 dX12_wrongAtEnd_58 rfl rfl ?_
      refine z_getR C ok_X12 (lay_c90 hL) 11 (93) (by decide) rfl (lay_r90_11 hL) q_fl_X12_17 dX12_wrongAtEnd_59 ?_
      refine z_bipush C 68 dX12_wrongAtEnd_62 (by decide) ?_
      refine z_iconst C 2 dX12_wrongAtEnd_64 (by decide) ?_
      refine z_iload_n C 3 3 dX12_wrongAtEnd_65 rfl rfl ?_
      refine z_imul C dX12_wrongAtEnd_66 ?_
      refine z_iadd C dX12_wrongAtEnd_67 ?_
      replace hf := gd_out hf
      obtain ⟨g14, hf⟩ := hf
      refine z_iald C (lay_c93 hL) (inb_in g14) dX12_wrongAtEnd_68 ?_
      refine z_iload_n C 1 1 dX12_wrongAtEnd_69 rfl rfl ?_
      refine z_icmp_ne C 77 dX12_wrongAtEnd_70 (by decide) (fun c15 => ?_) (fun c15 => ?_)
      · replace hf := ite_f c15 hf
        refine z_iconst C 0 dX12_wrongAtEnd_77 (by decide) ?_
        refine z_lv (lv2 := [(0, .ref (G.1 + 90)), (1, .int y8), (3, .int y10)]) [0, 1, 3] rfl ?_
        refine wX12_wrongAtEnd_j78 C hs0 hL M _ pp ?_ y8 y10 y9 0 hf
        · intro y25 y26 y27 hf
          exact ih y25 y26 y27  hf
      · replace hf := ite_t c15 hf
        refine z_iconst C 1 dX12_wrongAtEnd_73 (by decide) ?_
        refine z_goto C 78 dX12_wrongAtEnd_74 (by decide) ?_
        refine z_lv (lv2 := [(0, .ref (G.1 + 90)), (1, .int y8), (3, .int y10)]) [0, 1, 3] rfl ?_
        refine wX12_wrongAtEnd_j78 C hs0 hL M _ pp ?_ y8 y10 y9 1 hf
        · intro y28 y29 y30 hf
          exact ih y28 y29 y30  hf
set_option maxHeartbeats 4000000 in
set_option maxRecDepth 100000 in
theorem wX12_wrongAtEnd_j121 (C : CX p s m args meth c cX12_wrongAtEnd 4 (some .int) RX12 G) (hs0 : s.heap.size = G.1 + K.1) (hL : Lay K) (M : MM) (k88 : Int32 → Int32 → Int32 → Option Int32) (pp : Int32) (hk88 : ∀ (y47 : Int32) (y48 : Int32) (y49 : Int32), k88 y47 y48 y49 = some pp → Z p l e (rmo 0 0 0) s m args below meth c 4 G (MQ below (QC G (some (.int pp)) K M) args s 0 0 (AG G)) K 0 0 M 88 [(0, .ref (G.1 + 90)), (1, .int y47), (2, .int y48), (3, .int y49)] []) (y41 : Int32) (y42 : Int32) (y43 : Int32) (y44 : Int32) (hf : fX12_wrongAtEnd_j121 M k88 y41 y42 y43 y44 = some pp) : Z p l e (rmo 0 0 0) s m args below meth c 4 G (MQ below (QC G (some (.int pp)) K M) args s 0 0 (AG G)) K 0 0 M 121 [(0, .ref (G.1 + 90)), (1, .int y41), (3, .int y42)] [.int y44, .int y43] := by
  unfold fX12_wrongAtEnd_j121 at hf
  refine z_iadd C dX12_wrongAtEnd_121 ?_
  refine z_topi (fun v45 e46 => ?_)
  replace hf := bnd_out e46 hf
  refine z_istore_n C [(2, .int v45), (0, .ref (G.1 + 90)), (1, .int y41), (3, .int y42)] dX12_wrongAtEnd_122 rfl (by decide) rfl rfl ?_
  refine z_iinc C 3 (y42 + 1) [(3, .int (y42 + 1)), (2, .int v45), (0, .ref (G.1 + 90)), (1, .int y41)] dX12_wrongAtEnd_123 rfl rfl (by decide) rfl rfl ?_
  refine z_goto C 88 dX12_wrongAtEnd_126 (by decide) ?_
  refine z_lv (lv2 := [(0, .ref (G.1 + 90)), (1, .int y41), (2, .int v45), (3, .int (y42 + 1))]) [2, 3, 1, 0] rfl ?_
  exact hk88 y41 v45 (y42 + 1)  hf
set_option maxHeartbeats 4000000 in
set_option maxRecDepth 100000 in
theorem wX12_wrongAtEnd_l88 (C : CX p s m args meth c cX12_wrongAtEnd 4 (some .int) RX12 G) (hs0 : s.heap.size = G.1 + K.1) (hL : Lay K) (M : MM) (k129 : Int32 → Int32 → Option Int32) (pp : Int32) (hk129 : ∀ (y37 : Int32) (y38 : Int32), k129 y37 y38 = some pp → Z p l e (rmo 0 0 0) s m args below meth c 4 G (MQ below (QC G (some (.int pp)) K M) args s 0 0 (AG G)) K 0 0 M 129 [(0, .ref (G.1 + 90)), (1, .int y37), (2, .int y38)] []) : ∀ (n : Nat) (y33 : Int32) (y34 : Int32) (y35 : Int32) (hf : fX12_wrongAtEnd_l88 M k129 n y33 y34 y35 = some pp), Z p l e (rmo 0 0 0) s m args below meth c 4 G (MQ below (QC G (some (.int pp)) K M) args s 0 0 (AG G)) K 0 0 M 88 [(0, .ref (G.1 + 90)), (1, .int y33), (2, .int y34), (3, .int y35)] [] := by
  intro n
  induction n with
  | zero => intro y33 y34 y35 hf; exact nomatch (show (none : Option Int32) = some pp from hf)
  | succ n ih =>
    intro y33 y34 y35 hf
    rw [fX12_wrongAtEnd_l88.eq_2] at hf
    refine z_iload_n C 3 3 dX12_wrongAtEnd_88 rfl rfl ?_
    refine z_aload_n C 0 0 dX12_wrongAtEnd_89 rfl rfl ?_
    refine z_getR C ok_X12 (lay_c90 hL) 11 (93) (by decide) rfl (lay_r90_11 hL) q_fl_X12_17 dX12_wrongAtEnd_90 ?_
    refine z_iconst C 3 dX12_wrongAtEnd_93 (by decide) ?_
    refine z_iald C (lay_c93 hL) (inb_in (by decide)) dX12_wrongAtEnd_94 ?_
    refine z_icmp_ge C 129 dX12_wrongAtEnd_95 (by decide) (fun c36 => ?_) (fun c36 => ?_)
    · replace hf := ite_t c36 hf
      refine z_lv (lv2 := [(0, .ref (G.1 + 90)), (1, .int y33), (2, .int y34)]) [0, 1, 2] rfl ?_
      exact hk129 y33 y34  hf
    · replace hf := ite_f c36 hf
      refine z_iload_n C 2 2 dX12_wrongAtEnd_98 rfl rfl ?_
      refine z_aload_n C 0 0 dX12_wrongAtEnd_99 rfl rfl ?_
      refine z_getR C ok_X12 (lay_c90 hL) 11 (93) (by decide) rfl (lay_r90_11 hL) q_fl_X12_17 dX12_wrongAtEnd_100 ?_
      refine z_bipush C 84 dX12_wrongAtEnd_103 (by decide) ?_
      refine z_iconst C 5 dX12_wrongAtEnd_105 (by decide) ?_
      refine z_iload_n C 3 3 dX12_wrongAtEnd_106 rfl rfl ?_
      refine z_imul C dX12_wrongAtEnd_107 ?_
      refine z_iadd C dX12_wrongAtEnd_108 ?_
      refine z_iconst C 1 dX12_wrongAtEnd_109 (by decide) ?_
      refine z_iadd C dX12_wrongAtEnd_110 ?_
      replace hf := gd_out hf
      obtain ⟨g39, hf⟩ := hf
      refine z_iald C (lay_c93 hL) (inb_in g39) dX12_wrongAtEnd_111 ?_
      refine z_iload_n C 1 1 dX12_wrongAtEnd_112 rfl rfl ?_
      refine z_icmp_ne C 120 dX12_wrongAtEnd_113 (by decide) (fun c40 => ?_) (fun c40 => ?_)
      · replace hf := ite_f c40 hf
        refine z_iconst C 0 dX12_wrongAtEnd_120 (by decide) ?_
        refine z_lv (lv2 := [(0, .ref (G.1 + 90)), (1, .int y33), (3, .int y35)]) [0, 1, 3] rfl ?_
        refine wX12_wrongAtEnd_j121 C hs0 hL M _ pp ?_ y33 y35 y34 0 hf
        · intro y50 y51 y52 hf
          exact ih y50 y51 y52  hf
      · replace hf := ite_t c40 hf
        refine z_iconst C 1 dX12_wrongAtEnd_116 (by decide) ?_
        refine z_goto C 121 dX12_wrongAtEnd_117 (by decide) ?_
        refine z_lv (lv2 := [(0, .ref (G.1 + 90)), (1, .int y33), (3, .int y35)]) [0, 1, 3] rfl ?_
        refine wX12_wrongAtEnd_j121 C hs0 hL M _ pp ?_ y33 y35 y34 1 hf
        · intro y53 y54 y55 hf
          exact ih y53 y54 y55  hf
set_option maxHeartbeats 4000000 in
set_option maxRecDepth 100000 in
theorem wX12_wrongAtEnd_l30 (C : CX p s m args meth c cX12_wrongAtEnd 4 (some .int) RX12 G) (hs0 : s.heap.size = G.1 + K.1) (hL : Lay K) (M : MM)  (pp : Int32)  : ∀ (n : Nat) (y3 : Int32) (hf : fX12_wrongAtEnd_l30 M n y3 = some pp), Z p l e (rmo 0 0 0) s m args below meth c 4 G (MQ below (QC G (some (.int pp)) K M) args s 0 0 (AG G)) K 0 0 M 30 [(0, .ref (G.1 + 90)), (1, .int y3)] [] := by
  intro n
  induction n with
  | zero => intro y3 hf; exact nomatch (show (none : Option Int32) = some pp from hf)
  | succ n ih =>
    intro y3 hf
    rw [fX12_wrongAtEnd_l30.eq_2] at hf
    refine z_iload_n C 1 1 dX12_wrongAtEnd_30 rfl rfl ?_
    refine z_bipush C 64 dX12_wrongAtEnd_31 (by decide) ?_
    refine z_icmp_ge C 142 dX12_wrongAtEnd_33 (by decide) (fun c4 => ?_) (fun c4 => ?_)
    · replace hf := ite_t c4 hf
      refine z_iconst C 0 dX12_wrongAtEnd_142 (by decide) ?_
      cases hf
      exact z_iret C rfl dX12_wrongAtEnd_143
    · replace hf := ite_f c4 hf
      refine z_aload_n C 0 0 dX12_wrongAtEnd_36 rfl rfl ?_
      refine z_getR C ok_X12 (lay_c90 hL) 11 (93) (by decide) rfl (lay_r90_11 hL) q_fl_X12_17 dX12_wrongAtEnd_37 ?_
      refine z_iconst C 4 dX12_wrongAtEnd_40 (by decide) ?_
      refine z_iload_n C 1 1 dX12_wrongAtEnd_41 rfl rfl ?_
      refine z_iadd C dX12_wrongAtEnd_42 ?_
      replace hf := gd_out hf
      obtain ⟨g5, hf⟩ := hf
      refine z_iald C (lay_c93 hL) (inb_in g5) dX12_wrongAtEnd_43 ?_
      refine z_topi (fun v6 e7 => ?_)
      replace hf := bnd_out e7 hf
      refine z_istore_n C [(2, .int v6), (0, .ref (G.1 + 90)), (1, .int y3)] dX12_wrongAtEnd_44 rfl (by decide) rfl rfl ?_
      refine z_iconst C 0 dX12_wrongAtEnd_45 (by decide) ?_
      refine z_istore_n C [(3, .int 0), (2, .int v6), (0, .ref (G.1 + 90)), (1, .int y3)] dX12_wrongAtEnd_46 rfl (by decide) rfl rfl ?_
      refine z_lv (lv2 := [(0, .ref (G.1 + 90)), (1, .int y3), (2, .int v6), (3, .int 0)]) [2, 3, 1, 0] rfl ?_
      refine wX12_wrongAtEnd_l47 C hs0 hL M _ pp ?_ FU y3 v6 0 hf
      · intro y31 y32 hf
        refine z_iconst C 0 dX12_wrongAtEnd_86 (by decide) ?_
        refine z_istore_n C [(3, .int 0), (0, .ref (G.1 + 90)), (1, .int y31), (2, .int y32)] dX12_wrongAtEnd_87 rfl (by decide) rfl rfl ?_
        refine z_lv (lv2 := [(0, .ref (G.1 + 90)), (1, .int y31), (2, .int y32), (3, .int 0)]) [1, 2, 3, 0] rfl ?_
        refine wX12_wrongAtEnd_l88 C hs0 hL M _ pp ?_ FU y31 y32 0 hf
        · intro y56 y57 hf
          refine z_iload_n C 2 2 dX12_wrongAtEnd_129 rfl rfl ?_
          refine z_iconst C 1 dX12_wrongAtEnd_130 (by decide) ?_
          refine z_icmp_le C 136 dX12_wrongAtEnd_131 (by decide) (fun c58 => ?_) (fun c58 => ?_)
          · replace hf := ite_t c58 hf
            refine z_iinc C 1 (y56 + 1) [(1, .int (y56 + 1)), (0, .ref (G.1 + 90)), (2, .int y57)] dX12_wrongAtEnd_136 rfl rfl (by decide) rfl rfl ?_
            refine z_goto C 30 dX12_wrongAtEnd_139 (by decide) ?_
            refine z_lv (lv2 := [(0, .ref (G.1 + 90)), (1, .int (y56 + 1))]) [1, 0] rfl ?_
            exact ih (y56 + 1)  hf
          · replace hf := ite_f c58 hf
            refine z_iconst C 5 dX12_wrongAtEnd_134 (by decide) ?_
            cases hf
            exact z_iret C rfl dX12_wrongAtEnd_135
set_option maxHeartbeats 4000000 in
set_option maxRecDepth 100000 in
theorem tX12_wrongAtEnd (l : Launch) (G : GG) {K : SK} (hL : Lay K) (M : MM)  (pp : Int32) (hf : fX12_wrongAtEnd M = some pp) : Ct l yX12_wrongAtEnd cX12_wrongAtEnd 4 (some .int) 0 0 0 G K M [.ref (G.1 + 90)] (some (.int pp)) K M := by
  refine z_enter (lv := [(0, .ref (G.1 + 90))]) (by decide +kernel) (Nat.le_of_ble_eq_true rfl) rfl ?_
  intro p e s m args below meth c C hnm hs0
  replace C : CX p s m args meth c cX12_wrongAtEnd 4 (some .int) RX12 G := C
  unfold fX12_wrongAtEnd at hf
  refine z_aload_n C 0 0 dX12_wrongAtEnd_0 rfl rfl ?_
  refine z_getI C ok_X12 (lay_c90 hL) 9 (by decide) rfl q_fl_X12_156 dX12_wrongAtEnd_1 ?_
  refine z_aload_n C 0 0 dX12_wrongAtEnd_4 rfl rfl ?_
  refine z_getR C ok_X12 (lay_c90 hL) 11 (93) (by decide) rfl (lay_r90_11 hL) q_fl_X12_17 dX12_wrongAtEnd_5 ?_
  refine z_iconst C 0 dX12_wrongAtEnd_8 (by decide) ?_
  refine z_iald C (lay_c93 hL) (inb_in (by decide)) dX12_wrongAtEnd_9 ?_
  refine z_icmp_ge C 26 dX12_wrongAtEnd_10 (by decide) (fun c1 => ?_) (fun c1 => ?_)
  · replace hf := ite_t c1 hf
    refine z_iconst C 4 dX12_wrongAtEnd_26 (by decide) ?_
    cases hf
    exact z_iret C rfl dX12_wrongAtEnd_27
  · replace hf := ite_f c1 hf
    refine z_aload_n C 0 0 dX12_wrongAtEnd_13 rfl rfl ?_
    refine z_getI C ok_X12 (lay_c90 hL) 10 (by decide) rfl q_fl_X12_159 dX12_wrongAtEnd_14 ?_
    refine z_aload_n C 0 0 dX12_wrongAtEnd_17 rfl rfl ?_
    refine z_getR C ok_X12 (lay_c90 hL) 11 (93) (by decide) rfl (lay_r90_11 hL) q_fl_X12_17 dX12_wrongAtEnd_18 ?_
    refine z_iconst C 1 dX12_wrongAtEnd_21 (by decide) ?_
    refine z_iald C (lay_c93 hL) (inb_in (by decide)) dX12_wrongAtEnd_22 ?_
    refine z_icmp_lt C 28 dX12_wrongAtEnd_23 (by decide) (fun c2 => ?_) (fun c2 => ?_)
    · replace hf := ite_t c2 hf
      refine z_iconst C 0 dX12_wrongAtEnd_28 (by decide) ?_
      refine z_istore_n C [(1, .int 0), (0, .ref (G.1 + 90))] dX12_wrongAtEnd_29 rfl (by decide) rfl rfl ?_
      refine z_lv (lv2 := [(0, .ref (G.1 + 90)), (1, .int 0)]) [1, 0] rfl ?_
      exact wX12_wrongAtEnd_l30 C hs0 hL M pp FU 0 hf
    · replace hf := ite_f c2 hf
      refine z_iconst C 4 dX12_wrongAtEnd_26 (by decide) ?_
      cases hf
      exact z_iret C rfl dX12_wrongAtEnd_27
set_option maxHeartbeats 4000000 in
set_option maxRecDepth 100000 in
theorem wX12_text_l100 (C : CX p s m args meth c cX12_text 6 (some .int) RX12 G) (hs0 : s.heap.size = G.1 + K.1) (hL : Lay K)  (k168 : MM → Int32 → Int32 → Option (Int32 × MM)) (pp : (Int32 × MM)) (hk168 : ∀ (M33 : MM) (y34 : Int32) (y35 : Int32), k168 M33 y34 y35 = some pp → Z p l e (rmo 9 0 0) s m args below meth c 6 G (MQ below (QC G (some (.int pp.1)) K pp.2) args s 0 0 (AG G)) K 0 0 M33 168 [(0, .ref (G.1 + 90)), (1, .int y34), (2, .int y35)] []) : ∀ (n : Nat) (M29 : MM) (y30 : Int32) (y31 : Int32) (hf : fX12_text_l100 k168 n M29 y30 y31 = some pp), Z p l e (rmo 9 0 0) s m args below meth c 6 G (MQ below (QC G (some (.int pp.1)) K pp.2) args s 0 0 (AG G)) K 0 0 M29 100 [(0, .ref (G.1 + 90)), (1, .int y30), (2, .int y31)] [] := by
  intro n
  induction n with
  | zero => intro M29 y30 y31 hf; exact nomatch (show (none : Option (Int32 × MM)) = some pp from hf)
  | succ n ih =>
    intro M29 y30 y31 hf
    rw [fX12_text_l100.eq_2] at hf
    refine z_aload_n C 0 0 dX12_text_100 rfl rfl ?_
    refine z_getI C ok_X12 (lay_c90 hL) 8 (by decide) rfl q_fl_X12_134 dX12_text_101 ?_
    refine z_if_ne C 168 dX12_text_104 (by decide) (fun c32 => ?_) (fun c32 => ?_)
    · replace hf := ite_f c32 hf
      exact hk168 M29 y30 y31  hf
    · replace hf := ite_t c32 hf
      refine z_aload_n C 0 0 dX12_text_107 rfl rfl ?_
      refine z_getI C ok_X12 (lay_c90 hL) 5 (by decide) rfl q_fl_X12_111 dX12_text_108 ?_
      refine z_if_eq C 168 dX12_text_111 (by decide) (fun c36 => ?_) (fun c36 => ?_)
      · replace hf := ite_t c36 hf
        exact hk168 M29 y30 y31  hf
      · replace hf := ite_f c36 hf
        refine z_iload_n C 1 1 dX12_text_114 rfl rfl ?_
        by_cases c37 : y30 = 0
        · replace hf := ite_t c37 hf
          refine z_tableIn C 140 dX12_text_115 (by rw [c37]; decide) (by rw [c37]; decide) (by rw [c37]; rfl) (by decide) ?_
          refine z_aload_n C 0 0 dX12_text_140 rfl rfl ?_
          replace hf := bd_out hf
          obtain ⟨p38, e39, hf⟩ := hf
          refine z_cV0 C [] (tX12_parishLine l G hL M29  _ e39) lk_X12_parishLine ok_X12 (lay_c90 hL) q_ml_X12_186 rfl ⟨Nat.le_of_ble_eq_true rfl, Nat.le_of_ble_eq_true rfl⟩ rfl (Nat.le_of_ble_eq_true rfl) ⟨Nat.le_refl _, Nat.le_refl _⟩ dX12_text_141 ?_
          refine z_goto C 100 dX12_text_144 (by decide) ?_
          exact ih p38 y30 y31  hf
        · replace hf := ite_f c37 hf
          by_cases c40 : y30 = 1
          · replace hf := ite_t c40 hf
            refine z_tableIn C 147 dX12_text_115 (by rw [c40]; decide) (by rw [c40]; decide) (by rw [c40]; rfl) (by decide) ?_
            refine z_aload_n C 0 0 dX12_text_147 rfl rfl ?_
            replace hf := bd_out hf
            obtain ⟨p41, e42, hf⟩ := hf
            refine z_cV0 C [] (tX12_lawLine l G hL M29  _ e42) lk_X12_lawLine ok_X12 (lay_c90 hL) q_ml_X12_189 rfl ⟨Nat.le_of_ble_eq_true rfl, Nat.le_of_ble_eq_true rfl⟩ rfl (Nat.le_of_ble_eq_true rfl) ⟨Nat.le_refl _, Nat.le_refl _⟩ dX12_text_148 ?_
            refine z_goto C 100 dX12_text_151 (by decide) ?_
            exact ih p41 y30 y31  hf
          · replace hf := ite_f c40 hf
            by_cases c43 : y30 = 2
            · replace hf := ite_t c43 hf
              refine z_tableIn C 154 dX12_text_115 (by rw [c43]; decide) (by rw [c43]; decide) (by rw [c43]; rfl) (by decide) ?_
              refine z_aload_n C 0 0 dX12_text_154 rfl rfl ?_
              replace hf := bd_out hf
              obtain ⟨p44, e45, hf⟩ := hf
              refine z_cV0 C [] (tX12_eveningLine l G hL M29  _ e45) lk_X12_eveningLine ok_X12 (lay_c90 hL) q_ml_X12_192 rfl ⟨Nat.le_of_ble_eq_true rfl, Nat.le_of_ble_eq_true rfl⟩ rfl (Nat.le_of_ble_eq_true rfl) ⟨Nat.le_refl _, Nat.le_refl _⟩ dX12_text_155 ?_
              refine z_goto C 100 dX12_text_158 (by decide) ?_
              exact ih p44 y30 y31  hf
            · replace hf := ite_f c43 hf
              have ic37 : (y30).toInt ≠ 0 := fun q => c37 (Int32.toInt_inj.mp (q.trans (by decide)))
              have ic40 : (y30).toInt ≠ 1 := fun q => c40 (Int32.toInt_inj.mp (q.trans (by decide)))
              have ic43 : (y30).toInt ≠ 2 := fun q => c43 (Int32.toInt_inj.mp (q.trans (by decide)))
              refine z_tableOut C 161 dX12_text_115 (by omega) (by decide) ?_
              refine z_aload_n C 0 0 dX12_text_161 rfl rfl ?_
              replace hf := bd_out hf
              obtain ⟨p46, e47, hf⟩ := hf
              refine z_cV0 C [] (tX12_sightLine l G hL M29  _ e47) lk_X12_sightLine ok_X12 (lay_c90 hL) q_ml_X12_195 rfl ⟨Nat.le_of_ble_eq_true rfl, Nat.le_of_ble_eq_true rfl⟩ rfl (Nat.le_of_ble_eq_true rfl) ⟨Nat.le_refl _, Nat.le_refl _⟩ dX12_text_162 ?_
              refine z_goto C 100 dX12_text_165 (by decide) ?_
              exact ih p46 y30 y31  hf
set_option maxHeartbeats 4000000 in
set_option maxRecDepth 100000 in
theorem wX12_text_l249 (C : CX p s m args meth c cX12_text 6 (some .int) RX12 G) (hs0 : s.heap.size = G.1 + K.1) (hL : Lay K)   (pp : (Int32 × MM))  : ∀ (n : Nat) (M76 : MM) (y77 : Int32) (y78 : Int32) (y79 : Int32) (hf : fX12_text_l249 n M76 y77 y78 y79 = some pp), Z p l e (rmo 9 0 0) s m args below meth c 6 G (MQ below (QC G (some (.int pp.1)) K pp.2) args s 0 0 (AG G)) K 0 0 M76 249 [(0, .ref (G.1 + 90)), (1, .int y77), (4, .int y78), (5, .int y79)] [] := by
  intro n
  induction n with
  | zero => intro M76 y77 y78 y79 hf; exact nomatch (show (none : Option (Int32 × MM)) = some pp from hf)
  | succ n ih =>
    intro M76 y77 y78 y79 hf
    rw [fX12_text_l249.eq_2] at hf
    refine z_iload C 3 dX12_text_249 rfl ?_
    refine z_iload_n C 1 1 dX12_text_251 rfl rfl ?_
    refine z_cS1 C [.int y79] (tX12_sizeOf l G hL M76 y77) lk_X12_sizeOf q_ml_X12_201 rfl ⟨Nat.le_of_ble_eq_true rfl, Nat.le_of_ble_eq_true rfl⟩ rfl (Nat.le_of_ble_eq_true rfl) ⟨Nat.le_refl _, Nat.le_refl _⟩ dX12_text_252 ?_
    refine z_icmp_ge C 285 dX12_text_255 (by decide) (fun c80 => ?_) (fun c80 => ?_)
    · replace hf := ite_t c80 hf
      refine z_iload C 2 dX12_text_285 rfl ?_
      cases hf
      exact z_iret C rfl dX12_text_287
    · replace hf := ite_f c80 hf
      refine z_aload_n C 0 0 dX12_text_258 rfl rfl ?_
      refine z_getR C ok_X12 (lay_c90 hL) 0 (91) (by decide) rfl (lay_r90_0 hL) q_fl_X12_7 dX12_text_259 ?_
      refine z_iload_n C 1 1 dX12_text_262 rfl rfl ?_
      refine z_iload C 2 dX12_text_263 rfl ?_
      refine z_cS1 C [.ref (G.1 + 91)] (tX12_placeOf l G hL M76 y77 y78) lk_X12_placeOf q_ml_X12_204 rfl ⟨Nat.le_of_ble_eq_true rfl, Nat.le_of_ble_eq_true rfl⟩ rfl (Nat.le_of_ble_eq_true rfl) ⟨Nat.le_refl _, Nat.le_refl _⟩ dX12_text_265 ?_
      refine z_iload C 3 dX12_text_268 rfl ?_
      refine z_iadd C dX12_text_270 ?_
      refine z_aload_n C 0 0 dX12_text_271 rfl rfl ?_
      refine z_getR C ok_X12 (lay_c90 hL) 11 (93) (by decide) rfl (lay_r90_11 hL) q_fl_X12_17 dX12_text_272 ?_
      refine z_iload C 3 dX12_text_275 rfl ?_
      replace hf := gd_out hf
      obtain ⟨g81, hf⟩ := hf
      refine z_iald C (lay_c93 hL) (inb_in g81) dX12_text_277 ?_
      replace hf := gd_out hf
      obtain ⟨g82, hf⟩ := hf
      refine z_iast C (lay_c91 hL) (inb_in g82) dX12_text_278 ?_
      refine z_M (fun M83 e84 => ?_)
      replace hf := bnd_out e84 hf
      refine z_iinc C 3 (y79 + 1) [(5, .int (y79 + 1)), (0, .ref (G.1 + 90)), (1, .int y77), (4, .int y78)] dX12_text_279 rfl rfl (by decide) rfl rfl ?_
      refine z_goto C 249 dX12_text_282 (by decide) ?_
      refine z_lv (lv2 := [(0, .ref (G.1 + 90)), (1, .int y77), (4, .int y78), (5, .int (y79 + 1))]) [1, 2, 3, 0] rfl ?_
      exact ih M83 y77 y78 (y79 + 1)  hf
set_option maxHeartbeats 4000000 in
set_option maxRecDepth 100000 in
theorem wX12_text_j246 (C : CX p s m args meth c cX12_text 6 (some .int) RX12 G) (hs0 : s.heap.size = G.1 + K.1) (hL : Lay K)   (pp : (Int32 × MM))  (M73 : MM) (y74 : Int32) (y75 : Int32) (hf : fX12_text_j246 M73 y74 y75 = some pp) : Z p l e (rmo 9 0 0) s m args below meth c 6 G (MQ below (QC G (some (.int pp.1)) K pp.2) args s 0 0 (AG G)) K 0 0 M73 246 [(0, .ref (G.1 + 90)), (1, .int y74), (4, .int y75)] [] := by
  unfold fX12_text_j246 at hf
  refine z_iconst C 0 dX12_text_246 (by decide) ?_
  refine z_istore C [(5, .int 0), (0, .ref (G.1 + 90)), (1, .int y74), (4, .int y75)] dX12_text_247 (by decide) rfl rfl ?_
  refine z_lv (lv2 := [(0, .ref (G.1 + 90)), (1, .int y74), (4, .int y75), (5, .int 0)]) [1, 2, 3, 0] rfl ?_
  exact wX12_text_l249 C hs0 hL pp FU M73 y74 y75 0 hf
set_option maxHeartbeats 4000000 in
set_option maxRecDepth 100000 in
theorem wX12_text_j229 (C : CX p s m args meth c cX12_text 6 (some .int) RX12 G) (hs0 : s.heap.size = G.1 + K.1) (hL : Lay K)   (pp : (Int32 × MM))  (M68 : MM) (y69 : Int32) (y70 : Int32) (y71 : Int32) (hf : fX12_text_j229 M68 y69 y70 y71 = some pp) : Z p l e (rmo 9 0 0) s m args below meth c 6 G (MQ below (QC G (some (.int pp.1)) K pp.2) args s 0 0 (AG G)) K 0 0 M68 229 [(0, .ref (G.1 + 90)), (1, .int y69), (2, .int y70)] [.int y71] := by
  unfold fX12_text_j229 at hf
  refine z_istore C [(4, .int y71), (0, .ref (G.1 + 90)), (1, .int y69), (2, .int y70)] dX12_text_229 (by decide) rfl rfl ?_
  refine z_iload_n C 3 2 dX12_text_231 rfl rfl ?_
  refine z_iconst C (-1) dX12_text_232 (by decide) ?_
  refine z_icmp_ne C 246 dX12_text_233 (by decide) (fun c72 => ?_) (fun c72 => ?_)
  · replace hf := ite_f c72 hf
    refine z_lv (lv2 := [(0, .ref (G.1 + 90)), (1, .int y69), (4, .int y71)]) [1, 2, 0] rfl ?_
    exact wX12_text_j246 C hs0 hL pp M68 y69 y71 hf
  · replace hf := ite_t c72 hf
    refine z_aload_n C 1 0 dX12_text_236 rfl rfl ?_
    refine z_getR C ok_X12 (lay_c90 hL) 0 (91) (by decide) rfl (lay_r90_0 hL) q_fl_X12_7 dX12_text_237 ?_
    refine z_iload_n C 2 1 dX12_text_240 rfl rfl ?_
    refine z_dup2 C rfl rfl dX12_text_241 ?_
    replace hf := gd_out hf
    obtain ⟨g85, hf⟩ := hf
    refine z_iald C (lay_c91 hL) (inb_in g85) dX12_text_242 ?_
    refine z_iconst C 1 dX12_text_243 (by decide) ?_
    refine z_iadd C dX12_text_244 ?_
    replace hf := gd_out hf
    obtain ⟨g86, hf⟩ := hf
    refine z_iast C (lay_c91 hL) (inb_in g86) dX12_text_245 ?_
    refine z_M (fun M87 e88 => ?_)
    replace hf := bnd_out e88 hf
    refine z_lv (lv2 := [(0, .ref (G.1 + 90)), (1, .int y69), (4, .int y71)]) [1, 2, 0] rfl ?_
    exact wX12_text_j246 C hs0 hL pp M87 y69 y71 hf
set_option maxHeartbeats 4000000 in
set_option maxRecDepth 100000 in
theorem wX12_text_j203 (C : CX p s m args meth c cX12_text 6 (some .int) RX12 G) (hs0 : s.heap.size = G.1 + K.1) (hL : Lay K)   (pp : (Int32 × MM))  (M63 : MM) (y64 : Int32) (y65 : Int32) (hf : fX12_text_j203 M63 y64 y65 = some pp) : Z p l e (rmo 9 0 0) s m args below meth c 6 G (MQ below (QC G (some (.int pp.1)) K pp.2) args s 0 0 (AG G)) K 0 0 M63 203 [(0, .ref (G.1 + 90)), (1, .int y64), (2, .int y65)] [] := by
  unfold fX12_text_j203 at hf
  refine z_aload_n C 0 0 dX12_text_203 rfl rfl ?_
  refine z_getR C ok_X12 (lay_c90 hL) 0 (91) (by decide) rfl (lay_r90_0 hL) q_fl_X12_7 dX12_text_204 ?_
  refine z_iconst C 5 dX12_text_207 (by decide) ?_
  refine z_iald C (lay_c91 hL) (inb_in (by decide)) dX12_text_208 ?_
  refine z_if_eq C 214 dX12_text_209 (by decide) (fun c66 => ?_) (fun c66 => ?_)
  · replace hf := ite_t c66 hf
    refine z_iload_n C 2 2 dX12_text_214 rfl rfl ?_
    refine z_iconst C (-1) dX12_text_215 (by decide) ?_
    refine z_icmp_ne C 228 dX12_text_216 (by decide) (fun c67 => ?_) (fun c67 => ?_)
    · replace hf := ite_f c67 hf
      refine z_iload_n C 2 2 dX12_text_228 rfl rfl ?_
      exact wX12_text_j229 C hs0 hL pp M63 y64 y65 y65 hf
    · replace hf := ite_t c67 hf
      refine z_aload_n C 0 0 dX12_text_219 rfl rfl ?_
      refine z_getR C ok_X12 (lay_c90 hL) 0 (91) (by decide) rfl (lay_r90_0 hL) q_fl_X12_7 dX12_text_220 ?_
      refine z_iload_n C 1 1 dX12_text_223 rfl rfl ?_
      replace hf := gd_out hf
      obtain ⟨g89, hf⟩ := hf
      refine z_iald C (lay_c91 hL) (inb_in g89) dX12_text_224 ?_
      refine z_goto C 229 dX12_text_225 (by decide) ?_
      exact wX12_text_j229 C hs0 hL pp M63 y64 y65 (gI M63 91 (ix y64)) hf
  · replace hf := ite_f c66 hf
    refine z_iconst C (-1) dX12_text_212 (by decide) ?_
    cases hf
    exact z_iret C rfl dX12_text_213
set_option maxHeartbeats 4000000 in
set_option maxRecDepth 100000 in
theorem wX12_text_j189 (C : CX p s m args meth c cX12_text 6 (some .int) RX12 G) (hs0 : s.heap.size = G.1 + K.1) (hL : Lay K)   (pp : (Int32 × MM))  (M58 : MM) (y59 : Int32) (y60 : Int32) (y61 : Int32) (hf : fX12_text_j189 M58 y59 y60 y61 = some pp) : Z p l e (rmo 9 0 0) s m args below meth c 6 G (MQ below (QC G (some (.int pp.1)) K pp.2) args s 0 0 (AG G)) K 0 0 M58 189 [(0, .ref (G.1 + 90)), (1, .int y59), (2, .int y60)] [.int y61] := by
  unfold fX12_text_j189 at hf
  refine z_istore_n C [(3, .int y61), (0, .ref (G.1 + 90)), (1, .int y59), (2, .int y60)] dX12_text_189 rfl (by decide) rfl rfl ?_
  refine z_iload_n C 0 3 dX12_text_190 rfl rfl ?_
  refine z_if_eq C 203 dX12_text_191 (by decide) (fun c62 => ?_) (fun c62 => ?_)
  · replace hf := ite_t c62 hf
    refine z_lv (lv2 := [(0, .ref (G.1 + 90)), (1, .int y59), (2, .int y60)]) [1, 2, 3] rfl ?_
    exact wX12_text_j203 C hs0 hL pp M58 y59 y60 hf
  · replace hf := ite_f c62 hf
    refine z_aload_n C 1 0 dX12_text_194 rfl rfl ?_
    refine z_iload_n C 0 3 dX12_text_195 rfl rfl ?_
    refine z_aload_n C 1 0 dX12_text_196 rfl rfl ?_
    refine z_getI C ok_X12 (lay_c90 hL) 4 (by decide) rfl q_fl_X12_108 dX12_text_197 ?_
    replace hf := bd_out hf
    obtain ⟨p90, e91, hf⟩ := hf
    refine z_cV0 C [] (tX12_also l G hL M58 y61 (gI M58 90 4) _ e91) lk_X12_also ok_X12 (lay_c90 hL) q_ml_X12_145 rfl ⟨Nat.le_of_ble_eq_true rfl, Nat.le_of_ble_eq_true rfl⟩ rfl (Nat.le_of_ble_eq_true rfl) ⟨Nat.le_refl _, Nat.le_refl _⟩ dX12_text_200 ?_
    refine z_lv (lv2 := [(0, .ref (G.1 + 90)), (1, .int y59), (2, .int y60)]) [1, 2, 3] rfl ?_
    exact wX12_text_j203 C hs0 hL pp p90 y59 y60 hf
set_option maxHeartbeats 4000000 in
set_option maxRecDepth 100000 in
theorem wX12_text_j188 (C : CX p s m args meth c cX12_text 6 (some .int) RX12 G) (hs0 : s.heap.size = G.1 + K.1) (hL : Lay K)   (pp : (Int32 × MM))  (M55 : MM) (y56 : Int32) (y57 : Int32) (hf : fX12_text_j188 M55 y56 y57 = some pp) : Z p l e (rmo 9 0 0) s m args below meth c 6 G (MQ below (QC G (some (.int pp.1)) K pp.2) args s 0 0 (AG G)) K 0 0 M55 188 [(0, .ref (G.1 + 90)), (1, .int y56), (2, .int y57)] [] := by
  unfold fX12_text_j188 at hf
  refine z_iconst C 0 dX12_text_188 (by decide) ?_
  exact wX12_text_j189 C hs0 hL pp M55 y56 y57 0 hf
set_option maxHeartbeats 4000000 in
set_option maxRecDepth 100000 in
theorem wX12_text_j168 (C : CX p s m args meth c cX12_text 6 (some .int) RX12 G) (hs0 : s.heap.size = G.1 + K.1) (hL : Lay K)   (pp : (Int32 × MM))  (M51 : MM) (y52 : Int32) (y53 : Int32) (hf : fX12_text_j168 M51 y52 y53 = some pp) : Z p l e (rmo 9 0 0) s m args below meth c 6 G (MQ below (QC G (some (.int pp.1)) K pp.2) args s 0 0 (AG G)) K 0 0 M51 168 [(0, .ref (G.1 + 90)), (1, .int y52), (2, .int y53)] [] := by
  unfold fX12_text_j168 at hf
  refine z_aload_n C 0 0 dX12_text_168 rfl rfl ?_
  refine z_getR C ok_X12 (lay_c90 hL) 0 (91) (by decide) rfl (lay_r90_0 hL) q_fl_X12_7 dX12_text_169 ?_
  refine z_iconst C 5 dX12_text_172 (by decide) ?_
  refine z_iald C (lay_c91 hL) (inb_in (by decide)) dX12_text_173 ?_
  refine z_if_ne C 188 dX12_text_174 (by decide) (fun c54 => ?_) (fun c54 => ?_)
  · replace hf := ite_f c54 hf
    exact wX12_text_j188 C hs0 hL pp M51 y52 y53 hf
  · replace hf := ite_t c54 hf
    refine z_iload_n C 1 1 dX12_text_177 rfl rfl ?_
    refine z_if_ne C 188 dX12_text_178 (by decide) (fun c92 => ?_) (fun c92 => ?_)
    · replace hf := ite_f c92 hf
      exact wX12_text_j188 C hs0 hL pp M51 y52 y53 hf
    · replace hf := ite_t c92 hf
      refine z_aload_n C 0 0 dX12_text_181 rfl rfl ?_
      replace hf := bd_out hf
      obtain ⟨p93, e94, hf⟩ := hf
      refine z_cV1 C [] (tX12_wrongAtEnd l G hL M51  _ e94) lk_X12_wrongAtEnd ok_X12 (lay_c90 hL) q_ml_X12_198 rfl ⟨Nat.le_of_ble_eq_true rfl, Nat.le_of_ble_eq_true rfl⟩ rfl (Nat.le_of_ble_eq_true rfl) ⟨Nat.le_refl _, Nat.le_refl _⟩ dX12_text_182 ?_
      refine z_goto C 189 dX12_text_185 (by decide) ?_
      exact wX12_text_j189 C hs0 hL pp M51 y52 y53 p93 hf
set_option maxHeartbeats 4000000 in
set_option maxRecDepth 100000 in
theorem wX12_text_j71 (C : CX p s m args meth c cX12_text 6 (some .int) RX12 G) (hs0 : s.heap.size = G.1 + K.1) (hL : Lay K)   (pp : (Int32 × MM))  (M14 : MM) (y15 : Int32) (y16 : Int32) (hf : fX12_text_j71 M14 y15 y16 = some pp) : Z p l e (rmo 9 0 0) s m args below meth c 6 G (MQ below (QC G (some (.int pp.1)) K pp.2) args s 0 0 (AG G)) K 0 0 M14 71 [(0, .ref (G.1 + 90)), (1, .int y15), (2, .int y16)] [] := by
  unfold fX12_text_j71 at hf
  refine z_aload_n C 0 0 dX12_text_71 rfl rfl ?_
  refine z_iconst C 0 dX12_text_72 (by decide) ?_
  refine z_putI C ok_X12 (lay_c90 hL) 3 (by decide) rfl rfl rfl rfl q_fl_X12_101 dX12_text_73 ?_
  refine z_M (fun M17 e18 => ?_)
  replace hf := bnd_out e18 hf
  refine z_aload_n C 0 0 dX12_text_76 rfl rfl ?_
  refine z_iconst C 0 dX12_text_77 (by decide) ?_
  refine z_putI C ok_X12 (lay_c90 hL) 8 (by decide) rfl rfl (by decide) (by decide) q_fl_X12_134 dX12_text_78 ?_
  refine z_M (fun M19 e20 => ?_)
  replace hf := bnd_out e20 hf
  refine z_aload_n C 0 0 dX12_text_81 rfl rfl ?_
  refine z_iconst C (-1) dX12_text_82 (by decide) ?_
  refine z_putI C ok_X12 (lay_c90 hL) 9 (by decide) rfl rfl rfl rfl q_fl_X12_156 dX12_text_83 ?_
  refine z_M (fun M21 e22 => ?_)
  replace hf := bnd_out e22 hf
  refine z_aload_n C 0 0 dX12_text_86 rfl rfl ?_
  refine z_iconst C (-1) dX12_text_87 (by decide) ?_
  refine z_putI C ok_X12 (lay_c90 hL) 10 (by decide) rfl rfl rfl rfl q_fl_X12_159 dX12_text_88 ?_
  refine z_M (fun M23 e24 => ?_)
  replace hf := bnd_out e24 hf
  refine z_aload_n C 0 0 dX12_text_91 rfl rfl ?_
  refine z_iload_n C 1 1 dX12_text_92 rfl rfl ?_
  replace hf := bd_out hf
  obtain ⟨p25, e26, hf⟩ := hf
  refine z_cV0 C [] (tX12_clears l G hL M23 y15 _ e26) lk_X12_clears ok_X12 (lay_c90 hL) q_ml_X12_183 rfl ⟨Nat.le_of_ble_eq_true rfl, Nat.le_of_ble_eq_true rfl⟩ rfl (Nat.le_of_ble_eq_true rfl) ⟨Nat.le_refl _, Nat.le_refl _⟩ dX12_text_93 ?_
  refine z_aload_n C 0 0 dX12_text_96 rfl rfl ?_
  replace hf := bd_out hf
  obtain ⟨p27, e28, hf⟩ := hf
  refine z_cV0 C [] (tX12_advance l G hL p25  _ e28) lk_X12_advance ok_X12 (lay_c90 hL) q_ml_X12_149 rfl ⟨Nat.le_of_ble_eq_true rfl, Nat.le_of_ble_eq_true rfl⟩ rfl (Nat.le_of_ble_eq_true rfl) ⟨Nat.le_refl _, Nat.le_refl _⟩ dX12_text_97 ?_
  refine wX12_text_l100 C hs0 hL _ pp ?_ FU p27 y15 y16 hf
  · intro M48 y49 y50 hf
    exact wX12_text_j168 C hs0 hL pp M48 y49 y50 hf
set_option maxHeartbeats 4000000 in
set_option maxRecDepth 100000 in
theorem tX12_text (l : Launch) (G : GG) {K : SK} (hL : Lay K) (M : MM) (x1 : Int32) (x2 : Int32) (pp : (Int32 × MM)) (hf : fX12_text M x1 x2 = some pp) : Ct l yX12_text cX12_text 6 (some .int) 9 0 0 G K M [.ref (G.1 + 90), .int x1, .int x2] (some (.int pp.1)) K pp.2 := by
  refine z_enter (lv := [(0, .ref (G.1 + 90)), (1, .int x1), (2, .int x2)]) (by decide +kernel) (Nat.le_of_ble_eq_true rfl) rfl ?_
  intro p e s m args below meth c C hnm hs0
  replace C : CX p s m args meth c cX12_text 6 (some .int) RX12 G := C
  unfold fX12_text at hf
  refine z_aload_n C 0 0 dX12_text_0 rfl rfl ?_
  refine z_aload_n C 0 0 dX12_text_1 rfl rfl ?_
  refine z_getR C ok_X12 (lay_c90 hL) 0 (91) (by decide) rfl (lay_r90_0 hL) q_fl_X12_7 dX12_text_2 ?_
  refine z_iconst C 4 dX12_text_5 (by decide) ?_
  refine z_iald C (lay_c91 hL) (inb_in (by decide)) dX12_text_6 ?_
  refine z_putI C ok_X12 (lay_c90 hL) 2 (by decide) rfl rfl rfl rfl q_fl_X12_83 dX12_text_7 ?_
  refine z_M (fun M1 e2 => ?_)
  replace hf := bnd_out e2 hf
  refine z_aload_n C 0 0 dX12_text_10 rfl rfl ?_
  refine z_getR C ok_X12 (lay_c90 hL) 0 (91) (by decide) rfl (lay_r90_0 hL) q_fl_X12_7 dX12_text_11 ?_
  refine z_iconst C 4 dX12_text_14 (by decide) ?_
  refine z_iconst C 0 dX12_text_15 (by decide) ?_
  refine z_iast C (lay_c91 hL) (inb_in (by decide)) dX12_text_16 ?_
  refine z_M (fun M3 e4 => ?_)
  replace hf := bnd_out e4 hf
  refine z_aload_n C 0 0 dX12_text_17 rfl rfl ?_
  refine z_getR C ok_X12 (lay_c90 hL) 0 (91) (by decide) rfl (lay_r90_0 hL) q_fl_X12_7 dX12_text_18 ?_
  refine z_iconst C 5 dX12_text_21 (by decide) ?_
  refine z_iconst C 0 dX12_text_22 (by decide) ?_
  refine z_iast C (lay_c91 hL) (inb_in (by decide)) dX12_text_23 ?_
  refine z_M (fun M5 e6 => ?_)
  replace hf := bnd_out e6 hf
  refine z_aload_n C 0 0 dX12_text_24 rfl rfl ?_
  refine z_getR C ok_X12 (lay_c90 hL) 0 (91) (by decide) rfl (lay_r90_0 hL) q_fl_X12_7 dX12_text_25 ?_
  refine z_bipush C 6 dX12_text_28 (by decide) ?_
  refine z_iconst C (-1) dX12_text_30 (by decide) ?_
  refine z_iast C (lay_c91 hL) (inb_in (by decide)) dX12_text_31 ?_
  refine z_M (fun M7 e8 => ?_)
  replace hf := bnd_out e8 hf
  refine z_iload_n C 1 1 dX12_text_32 rfl rfl ?_
  refine z_iconst C 0 dX12_text_33 (by decide) ?_
  refine z_iconst C 3 dX12_text_34 (by decide) ?_
  refine z_cS1 C [] (tX12_isIn l G hL M7 x1 0 3) lk_X12_isIn q_ml_X12_141 rfl ⟨Nat.le_of_ble_eq_true rfl, Nat.le_of_ble_eq_true rfl⟩ rfl (Nat.le_of_ble_eq_true rfl) ⟨Nat.le_refl _, Nat.le_refl _⟩ dX12_text_35 ?_
  refine z_if_eq C 68 dX12_text_38 (by decide) (fun c9 => ?_) (fun c9 => ?_)
  · replace hf := ite_t c9 hf
    refine z_bipush C (-2) dX12_text_68 (by decide) ?_
    cases hf
    exact z_iret C rfl dX12_text_70
  · replace hf := ite_f c9 hf
    refine z_iload_n C 2 2 dX12_text_41 rfl rfl ?_
    refine z_iconst C (-1) dX12_text_42 (by decide) ?_
    refine z_icmp_ne C 59 dX12_text_43 (by decide) (fun c10 => ?_) (fun c10 => ?_)
    · replace hf := ite_f c10 hf
      refine z_aload_n C 0 0 dX12_text_59 rfl rfl ?_
      refine z_iload_n C 1 1 dX12_text_60 rfl rfl ?_
      refine z_iload_n C 2 2 dX12_text_61 rfl rfl ?_
      replace hf := bd_out hf
      obtain ⟨p11, e12, hf⟩ := hf
      refine z_cV1 C [] (tX12_isOf l G hL M7 x1 x2 _ e12) lk_X12_isOf ok_X12 (lay_c90 hL) q_ml_X12_179 rfl ⟨Nat.le_of_ble_eq_true rfl, Nat.le_of_ble_eq_true rfl⟩ rfl (Nat.le_of_ble_eq_true rfl) ⟨Nat.le_refl _, Nat.le_refl _⟩ dX12_text_62 ?_
      refine z_if_ne C 71 dX12_text_65 (by decide) (fun c13 => ?_) (fun c13 => ?_)
      · replace hf := ite_f c13 hf
        exact wX12_text_j71 C hs0 hL pp M7 x1 x2 hf
      · replace hf := ite_t c13 hf
        refine z_bipush C (-2) dX12_text_68 (by decide) ?_
        cases hf
        exact z_iret C rfl dX12_text_70
    · replace hf := ite_t c10 hf
      refine z_aload_n C 0 0 dX12_text_46 rfl rfl ?_
      refine z_getR C ok_X12 (lay_c90 hL) 0 (91) (by decide) rfl (lay_r90_0 hL) q_fl_X12_7 dX12_text_47 ?_
      refine z_iload_n C 1 1 dX12_text_50 rfl rfl ?_
      replace hf := gd_out hf
      obtain ⟨g95, hf⟩ := hf
      refine z_iald C (lay_c91 hL) (inb_in g95) dX12_text_51 ?_
      refine z_iconst C 2 dX12_text_52 (by decide) ?_
      refine z_icmp_lt C 71 dX12_text_53 (by decide) (fun c96 => ?_) (fun c96 => ?_)
      · replace hf := ite_t c96 hf
        exact wX12_text_j71 C hs0 hL pp M7 x1 x2 hf
      · replace hf := ite_f c96 hf
        refine z_goto C 68 dX12_text_56 (by decide) ?_
        refine z_bipush C (-2) dX12_text_68 (by decide) ?_
        cases hf
        exact z_iret C rfl dX12_text_70
set_option maxHeartbeats 4000000 in
set_option maxRecDepth 100000 in
theorem tX12_fault (l : Launch) (G : GG) {K : SK} (hL : Lay K) (M : MM) (x1 : Int32) : Ct l yX12_fault cX12_fault 2 (some .int) 0 0 0 G K M [.ref (G.1 + 90), .int x1] (some (.int (fX12_fault M x1))) K M := by
  generalize hf : fX12_fault M x1 = pp
  refine z_enter (lv := [(0, .ref (G.1 + 90)), (1, .int x1)]) (by decide +kernel) (Nat.le_of_ble_eq_true rfl) rfl ?_
  intro p e s m args below meth c C hnm hs0
  replace C : CX p s m args meth c cX12_fault 2 (some .int) RX12 G := C
  unfold fX12_fault at hf
  refine z_iload_n C 1 1 dX12_fault_0 rfl rfl ?_
  refine z_if_ne C 13 dX12_fault_1 (by decide) (fun c1 => ?_) (fun c1 => ?_)
  · replace hf := ite_f c1 hf
    refine z_iload_n C 1 1 dX12_fault_13 rfl rfl ?_
    refine z_iconst C 1 dX12_fault_14 (by decide) ?_
    refine z_icmp_ne C 28 dX12_fault_15 (by decide) (fun c2 => ?_) (fun c2 => ?_)
    · replace hf := ite_f c2 hf
      refine z_iconst C (-1) dX12_fault_28 (by decide) ?_
      cases hf
      exact z_iret C rfl dX12_fault_29
    · replace hf := ite_t c2 hf
      refine z_aload_n C 0 0 dX12_fault_18 rfl rfl ?_
      refine z_getR C ok_X12 (lay_c90 hL) 0 (91) (by decide) rfl (lay_r90_0 hL) q_fl_X12_7 dX12_fault_19 ?_
      refine z_bipush C 6 dX12_fault_22 (by decide) ?_
      refine z_iald C (lay_c91 hL) (inb_in (by decide)) dX12_fault_24 ?_
      refine z_goto C 29 dX12_fault_25 (by decide) ?_
      cases hf
      exact z_iret C rfl dX12_fault_29
  · replace hf := ite_t c1 hf
    refine z_aload_n C 0 0 dX12_fault_4 rfl rfl ?_
    refine z_getR C ok_X12 (lay_c90 hL) 0 (91) (by decide) rfl (lay_r90_0 hL) q_fl_X12_7 dX12_fault_5 ?_
    refine z_iconst C 5 dX12_fault_8 (by decide) ?_
    refine z_iald C (lay_c91 hL) (inb_in (by decide)) dX12_fault_9 ?_
    refine z_goto C 29 dX12_fault_10 (by decide) ?_
    cases hf
    exact z_iret C rfl dX12_fault_29
set_option maxHeartbeats 4000000 in
set_option maxRecDepth 100000 in
theorem wX12_isParish_j96 (C : CX p s m args meth c cX12_isParish 3 (some .boolean) RX12 G) (hs0 : s.heap.size = G.1 + K.1) (hL : Lay K)  (k57 : MM → Int32 → Option (Int32 × MM)) (pp : (Int32 × MM)) (hk57 : ∀ (M52 : MM) (y53 : Int32), k57 M52 y53 = some pp → Z p l e (rmo 2 0 0) s m args below meth c 3 G (MQ below (QC G (some (.int pp.1)) K pp.2) args s 0 0 (AG G)) K 0 0 M52 57 [(0, .ref (G.1 + 90)), (2, .int y53)] []) (M18 : MM) (y19 : Int32) (y20 : Int32) (y21 : Int32) (hf : fX12_isParish_j96 k57 M18 y19 y20 y21 = some pp) : Z p l e (rmo 2 0 0) s m args below meth c 3 G (MQ below (QC G (some (.int pp.1)) K pp.2) args s 0 0 (AG G)) K 0 0 M18 96 [(0, .ref (G.1 + 90)), (2, .int y19)] [.int y21, .int y20, .ref (G.1 + 94)] := by
  unfold fX12_isParish_j96 at hf
  replace hf := gd_out hf
  obtain ⟨g22, hf⟩ := hf
  refine z_iast C (lay_c94 hL) (inb_in g22) dX12_isParish_96 ?_
  refine z_M (fun M23 e24 => ?_)
  replace hf := bnd_out e24 hf
  refine z_aload_n C 0 0 dX12_isParish_97 rfl rfl ?_
  refine z_getR C ok_X12 (lay_c90 hL) 16 (95) (by decide) rfl (lay_r90_16 hL) q_fl_X12_23 dX12_isParish_98 ?_
  refine z_iload_n C 1 2 dX12_isParish_101 rfl rfl ?_
  refine z_aload_n C 0 0 dX12_isParish_102 rfl rfl ?_
  refine z_getR C ok_X12 (lay_c90 hL) 0 (91) (by decide) rfl (lay_r90_0 hL) q_fl_X12_7 dX12_isParish_103 ?_
  refine z_aload_n C 0 0 dX12_isParish_106 rfl rfl ?_
  refine z_getI C ok_X12 (lay_c90 hL) 12 (by decide) rfl q_fl_X12_207 dX12_isParish_107 ?_
  refine z_bipush C 68 dX12_isParish_110 (by decide) ?_
  refine z_iadd C dX12_isParish_112 ?_
  refine z_iconst C 2 dX12_isParish_113 (by decide) ?_
  refine z_iload_n C 1 2 dX12_isParish_114 rfl rfl ?_
  refine z_imul C dX12_isParish_115 ?_
  refine z_iadd C dX12_isParish_116 ?_
  refine z_iconst C 1 dX12_isParish_117 (by decide) ?_
  refine z_iadd C dX12_isParish_118 ?_
  replace hf := gd_out hf
  obtain ⟨g25, hf⟩ := hf
  refine z_iald C (lay_c91 hL) (inb_in g25) dX12_isParish_119 ?_
  replace hf := gd_out hf
  obtain ⟨g26, hf⟩ := hf
  refine z_iast C (lay_c95 hL) (inb_in g26) dX12_isParish_120 ?_
  refine z_M (fun M27 e28 => ?_)
  replace hf := bnd_out e28 hf
  refine z_aload_n C 0 0 dX12_isParish_121 rfl rfl ?_
  refine z_getR C ok_X12 (lay_c90 hL) 17 (96) (by decide) rfl (lay_r90_17 hL) q_fl_X12_26 dX12_isParish_122 ?_
  refine z_iload_n C 1 2 dX12_isParish_125 rfl rfl ?_
  refine z_aload_n C 0 0 dX12_isParish_126 rfl rfl ?_
  refine z_getR C ok_X12 (lay_c90 hL) 0 (91) (by decide) rfl (lay_r90_0 hL) q_fl_X12_7 dX12_isParish_127 ?_
  refine z_aload_n C 0 0 dX12_isParish_130 rfl rfl ?_
  refine z_getI C ok_X12 (lay_c90 hL) 12 (by decide) rfl q_fl_X12_207 dX12_isParish_131 ?_
  refine z_bipush C 84 dX12_isParish_134 (by decide) ?_
  refine z_iadd C dX12_isParish_136 ?_
  refine z_iconst C 5 dX12_isParish_137 (by decide) ?_
  refine z_iload_n C 1 2 dX12_isParish_138 rfl rfl ?_
  refine z_imul C dX12_isParish_139 ?_
  refine z_iadd C dX12_isParish_140 ?_
  replace hf := gd_out hf
  obtain ⟨g29, hf⟩ := hf
  refine z_iald C (lay_c91 hL) (inb_in g29) dX12_isParish_141 ?_
  replace hf := gd_out hf
  obtain ⟨g30, hf⟩ := hf
  refine z_iast C (lay_c96 hL) (inb_in g30) dX12_isParish_142 ?_
  refine z_M (fun M31 e32 => ?_)
  replace hf := bnd_out e32 hf
  refine z_aload_n C 0 0 dX12_isParish_143 rfl rfl ?_
  refine z_getR C ok_X12 (lay_c90 hL) 18 (97) (by decide) rfl (lay_r90_18 hL) q_fl_X12_29 dX12_isParish_144 ?_
  refine z_iload_n C 1 2 dX12_isParish_147 rfl rfl ?_
  refine z_aload_n C 0 0 dX12_isParish_148 rfl rfl ?_
  refine z_getR C ok_X12 (lay_c90 hL) 0 (91) (by decide) rfl (lay_r90_0 hL) q_fl_X12_7 dX12_isParish_149 ?_
  refine z_aload_n C 0 0 dX12_isParish_152 rfl rfl ?_
  refine z_getI C ok_X12 (lay_c90 hL) 12 (by decide) rfl q_fl_X12_207 dX12_isParish_153 ?_
  refine z_bipush C 84 dX12_isParish_156 (by decide) ?_
  refine z_iadd C dX12_isParish_158 ?_
  refine z_iconst C 5 dX12_isParish_159 (by decide) ?_
  refine z_iload_n C 1 2 dX12_isParish_160 rfl rfl ?_
  refine z_imul C dX12_isParish_161 ?_
  refine z_iadd C dX12_isParish_162 ?_
  refine z_iconst C 1 dX12_isParish_163 (by decide) ?_
  refine z_iadd C dX12_isParish_164 ?_
  replace hf := gd_out hf
  obtain ⟨g33, hf⟩ := hf
  refine z_iald C (lay_c91 hL) (inb_in g33) dX12_isParish_165 ?_
  replace hf := gd_out hf
  obtain ⟨g34, hf⟩ := hf
  refine z_iast C (lay_c97 hL) (inb_in g34) dX12_isParish_166 ?_
  refine z_M (fun M35 e36 => ?_)
  replace hf := bnd_out e36 hf
  refine z_aload_n C 0 0 dX12_isParish_167 rfl rfl ?_
  refine z_getR C ok_X12 (lay_c90 hL) 19 (98) (by decide) rfl (lay_r90_19 hL) q_fl_X12_32 dX12_isParish_168 ?_
  refine z_iload_n C 1 2 dX12_isParish_171 rfl rfl ?_
  refine z_aload_n C 0 0 dX12_isParish_172 rfl rfl ?_
  refine z_getR C ok_X12 (lay_c90 hL) 0 (91) (by decide) rfl (lay_r90_0 hL) q_fl_X12_7 dX12_isParish_173 ?_
  refine z_aload_n C 0 0 dX12_isParish_176 rfl rfl ?_
  refine z_getI C ok_X12 (lay_c90 hL) 12 (by decide) rfl q_fl_X12_207 dX12_isParish_177 ?_
  refine z_bipush C 84 dX12_isParish_180 (by decide) ?_
  refine z_iadd C dX12_isParish_182 ?_
  refine z_iconst C 5 dX12_isParish_183 (by decide) ?_
  refine z_iload_n C 1 2 dX12_isParish_184 rfl rfl ?_
  refine z_imul C dX12_isParish_185 ?_
  refine z_iadd C dX12_isParish_186 ?_
  refine z_iconst C 2 dX12_isParish_187 (by decide) ?_
  refine z_iadd C dX12_isParish_188 ?_
  replace hf := gd_out hf
  obtain ⟨g37, hf⟩ := hf
  refine z_iald C (lay_c91 hL) (inb_in g37) dX12_isParish_189 ?_
  replace hf := gd_out hf
  obtain ⟨g38, hf⟩ := hf
  refine z_iast C (lay_c98 hL) (inb_in g38) dX12_isParish_190 ?_
  refine z_M (fun M39 e40 => ?_)
  replace hf := bnd_out e40 hf
  refine z_aload_n C 0 0 dX12_isParish_191 rfl rfl ?_
  refine z_getR C ok_X12 (lay_c90 hL) 20 (99) (by decide) rfl (lay_r90_20 hL) q_fl_X12_35 dX12_isParish_192 ?_
  refine z_iload_n C 1 2 dX12_isParish_195 rfl rfl ?_
  refine z_aload_n C 0 0 dX12_isParish_196 rfl rfl ?_
  refine z_getR C ok_X12 (lay_c90 hL) 0 (91) (by decide) rfl (lay_r90_0 hL) q_fl_X12_7 dX12_isParish_197 ?_
  refine z_aload_n C 0 0 dX12_isParish_200 rfl rfl ?_
  refine z_getI C ok_X12 (lay_c90 hL) 12 (by decide) rfl q_fl_X12_207 dX12_isParish_201 ?_
  refine z_bipush C 84 dX12_isParish_204 (by decide) ?_
  refine z_iadd C dX12_isParish_206 ?_
  refine z_iconst C 5 dX12_isParish_207 (by decide) ?_
  refine z_iload_n C 1 2 dX12_isParish_208 rfl rfl ?_
  refine z_imul C dX12_isParish_209 ?_
  refine z_iadd C dX12_isParish_210 ?_
  refine z_iconst C 3 dX12_isParish_211 (by decide) ?_
  refine z_iadd C dX12_isParish_212 ?_
  replace hf := gd_out hf
  obtain ⟨g41, hf⟩ := hf
  refine z_iald C (lay_c91 hL) (inb_in g41) dX12_isParish_213 ?_
  replace hf := gd_out hf
  obtain ⟨g42, hf⟩ := hf
  refine z_iast C (lay_c99 hL) (inb_in g42) dX12_isParish_214 ?_
  refine z_M (fun M43 e44 => ?_)
  replace hf := bnd_out e44 hf
  refine z_aload_n C 0 0 dX12_isParish_215 rfl rfl ?_
  refine z_getR C ok_X12 (lay_c90 hL) 21 (100) (by decide) rfl (lay_r90_21 hL) q_fl_X12_38 dX12_isParish_216 ?_
  refine z_iload_n C 1 2 dX12_isParish_219 rfl rfl ?_
  refine z_aload_n C 0 0 dX12_isParish_220 rfl rfl ?_
  refine z_getR C ok_X12 (lay_c90 hL) 0 (91) (by decide) rfl (lay_r90_0 hL) q_fl_X12_7 dX12_isParish_221 ?_
  refine z_aload_n C 0 0 dX12_isParish_224 rfl rfl ?_
  refine z_getI C ok_X12 (lay_c90 hL) 12 (by decide) rfl q_fl_X12_207 dX12_isParish_225 ?_
  refine z_bipush C 84 dX12_isParish_228 (by decide) ?_
  refine z_iadd C dX12_isParish_230 ?_
  refine z_iconst C 5 dX12_isParish_231 (by decide) ?_
  refine z_iload_n C 1 2 dX12_isParish_232 rfl rfl ?_
  refine z_imul C dX12_isParish_233 ?_
  refine z_iadd C dX12_isParish_234 ?_
  refine z_iconst C 4 dX12_isParish_235 (by decide) ?_
  refine z_iadd C dX12_isParish_236 ?_
  replace hf := gd_out hf
  obtain ⟨g45, hf⟩ := hf
  refine z_iald C (lay_c91 hL) (inb_in g45) dX12_isParish_237 ?_
  replace hf := gd_out hf
  obtain ⟨g46, hf⟩ := hf
  refine z_iast C (lay_c100 hL) (inb_in g46) dX12_isParish_238 ?_
  refine z_M (fun M47 e48 => ?_)
  replace hf := bnd_out e48 hf
  refine z_aload_n C 0 0 dX12_isParish_239 rfl rfl ?_
  refine z_getR C ok_X12 (lay_c90 hL) 22 (101) (by decide) rfl (lay_r90_22 hL) q_fl_X12_41 dX12_isParish_240 ?_
  refine z_iload_n C 1 2 dX12_isParish_243 rfl rfl ?_
  refine z_iconst C 0 dX12_isParish_244 (by decide) ?_
  replace hf := gd_out hf
  obtain ⟨g49, hf⟩ := hf
  refine z_zast C (lay_c101 hL) (inb_in g49) dX12_isParish_245 ?_
  refine z_M (fun M50 e51 => ?_)
  replace hf := bnd_out e51 hf
  refine z_iinc C 1 (y19 + 1) [(2, .int (y19 + 1)), (0, .ref (G.1 + 90))] dX12_isParish_246 rfl rfl (by decide) rfl rfl ?_
  refine z_goto C 57 dX12_isParish_249 (by decide) ?_
  refine z_lv (lv2 := [(0, .ref (G.1 + 90)), (2, .int (y19 + 1))]) [1, 0] rfl ?_
  exact hk57 M50 (y19 + 1)  hf
set_option maxHeartbeats 4000000 in
set_option maxRecDepth 100000 in
theorem wX12_isParish_l57 (C : CX p s m args meth c cX12_isParish 3 (some .boolean) RX12 G) (hs0 : s.heap.size = G.1 + K.1) (hL : Lay K)   (pp : (Int32 × MM))  : ∀ (n : Nat) (M14 : MM) (y15 : Int32) (hf : fX12_isParish_l57 n M14 y15 = some pp), Z p l e (rmo 2 0 0) s m args below meth c 3 G (MQ below (QC G (some (.int pp.1)) K pp.2) args s 0 0 (AG G)) K 0 0 M14 57 [(0, .ref (G.1 + 90)), (2, .int y15)] [] := by
  intro n
  induction n with
  | zero => intro M14 y15 hf; exact nomatch (show (none : Option (Int32 × MM)) = some pp from hf)
  | succ n ih =>
    intro M14 y15 hf
    rw [fX12_isParish_l57.eq_2] at hf
    refine z_iload_n C 1 2 dX12_isParish_57 rfl rfl ?_
    refine z_bipush C 8 dX12_isParish_58 (by decide) ?_
    refine z_icmp_ge C 252 dX12_isParish_60 (by decide) (fun c16 => ?_) (fun c16 => ?_)
    · replace hf := ite_t c16 hf
      refine z_iconst C 1 dX12_isParish_252 (by decide) ?_
      cases hf
      exact z_zret C rfl nb1 dX12_isParish_253
    · replace hf := ite_f c16 hf
      refine z_aload_n C 0 0 dX12_isParish_63 rfl rfl ?_
      refine z_getR C ok_X12 (lay_c90 hL) 15 (94) (by decide) rfl (lay_r90_15 hL) q_fl_X12_20 dX12_isParish_64 ?_
      refine z_iload_n C 1 2 dX12_isParish_67 rfl rfl ?_
      refine z_iload_n C 1 2 dX12_isParish_68 rfl rfl ?_
      refine z_aload_n C 0 0 dX12_isParish_69 rfl rfl ?_
      refine z_getI C ok_X12 (lay_c90 hL) 13 (by decide) rfl q_fl_X12_213 dX12_isParish_70 ?_
      refine z_icmp_ge C 95 dX12_isParish_73 (by decide) (fun c17 => ?_) (fun c17 => ?_)
      · replace hf := ite_t c17 hf
        refine z_iconst C (-1) dX12_isParish_95 (by decide) ?_
        refine wX12_isParish_j96 C hs0 hL _ pp ?_ M14 y15 y15 (-1) hf
        · intro M54 y55 hf
          exact ih M54 y55  hf
      · replace hf := ite_f c17 hf
        refine z_aload_n C 0 0 dX12_isParish_76 rfl rfl ?_
        refine z_getR C ok_X12 (lay_c90 hL) 0 (91) (by decide) rfl (lay_r90_0 hL) q_fl_X12_7 dX12_isParish_77 ?_
        refine z_aload_n C 0 0 dX12_isParish_80 rfl rfl ?_
        refine z_getI C ok_X12 (lay_c90 hL) 12 (by decide) rfl q_fl_X12_207 dX12_isParish_81 ?_
        refine z_bipush C 68 dX12_isParish_84 (by decide) ?_
        refine z_iadd C dX12_isParish_86 ?_
        refine z_iconst C 2 dX12_isParish_87 (by decide) ?_
        refine z_iload_n C 1 2 dX12_isParish_88 rfl rfl ?_
        refine z_imul C dX12_isParish_89 ?_
        refine z_iadd C dX12_isParish_90 ?_
        replace hf := gd_out hf
        obtain ⟨g56, hf⟩ := hf
        refine z_iald C (lay_c91 hL) (inb_in g56) dX12_isParish_91 ?_
        refine z_goto C 96 dX12_isParish_92 (by decide) ?_
        refine wX12_isParish_j96 C hs0 hL _ pp ?_ M14 y15 y15 (gI M14 91 (ix (((gI M14 90 12) + 68) + (2 * y15)))) hf
        · intro M57 y58 hf
          exact ih M57 y58  hf
set_option maxHeartbeats 4000000 in
set_option maxRecDepth 100000 in
theorem tX12_isParish (l : Launch) (G : GG) {K : SK} (hL : Lay K) (M : MM) (x1 : Int32) (pp : (Int32 × MM)) (hf : fX12_isParish M x1 = some pp) : Ct l yX12_isParish cX12_isParish 3 (some .boolean) 2 0 0 G K M [.ref (G.1 + 90), .int x1] (some (.int pp.1)) K pp.2 := by
  refine z_enter (lv := [(0, .ref (G.1 + 90)), (1, .int x1)]) (by decide +kernel) (Nat.le_of_ble_eq_true rfl) rfl ?_
  intro p e s m args below meth c C hnm hs0
  replace C : CX p s m args meth c cX12_isParish 3 (some .boolean) RX12 G := C
  unfold fX12_isParish at hf
  refine z_aload_n C 0 0 dX12_isParish_0 rfl rfl ?_
  refine z_iconst C 0 dX12_isParish_1 (by decide) ?_
  refine z_iload_n C 1 1 dX12_isParish_2 rfl rfl ?_
  replace hf := bd_out hf
  obtain ⟨p1, e2, hf⟩ := hf
  refine z_cV1 C [] (tX12_isOf l G hL M 0 x1 _ e2) lk_X12_isOf ok_X12 (lay_c90 hL) q_ml_X12_179 rfl ⟨Nat.le_of_ble_eq_true rfl, Nat.le_of_ble_eq_true rfl⟩ rfl (Nat.le_of_ble_eq_true rfl) ⟨Nat.le_refl _, Nat.le_refl _⟩ dX12_isParish_3 ?_
  refine z_if_ne C 11 dX12_isParish_6 (by decide) (fun c3 => ?_) (fun c3 => ?_)
  · replace hf := ite_f c3 hf
    refine z_aload_n C 0 0 dX12_isParish_11 rfl rfl ?_
    refine z_iconst C 0 dX12_isParish_12 (by decide) ?_
    refine z_iload_n C 1 1 dX12_isParish_13 rfl rfl ?_
    refine z_cS1 C [.ref (G.1 + 90)] (tX12_placeOf l G hL M 0 x1) lk_X12_placeOf q_ml_X12_204 rfl ⟨Nat.le_of_ble_eq_true rfl, Nat.le_of_ble_eq_true rfl⟩ rfl (Nat.le_of_ble_eq_true rfl) ⟨Nat.le_refl _, Nat.le_refl _⟩ dX12_isParish_14 ?_
    refine z_putI C ok_X12 (lay_c90 hL) 12 (by decide) rfl rfl rfl rfl q_fl_X12_207 dX12_isParish_17 ?_
    refine z_M (fun M4 e5 => ?_)
    replace hf := bnd_out e5 hf
    refine z_aload_n C 0 0 dX12_isParish_20 rfl rfl ?_
    refine z_iconst C (-1) dX12_isParish_21 (by decide) ?_
    refine z_putI C ok_X12 (lay_c90 hL) 23 (by decide) rfl rfl rfl rfl q_fl_X12_210 dX12_isParish_22 ?_
    refine z_M (fun M6 e7 => ?_)
    replace hf := bnd_out e7 hf
    refine z_aload_n C 0 0 dX12_isParish_25 rfl rfl ?_
    refine z_aload_n C 0 0 dX12_isParish_26 rfl rfl ?_
    refine z_getR C ok_X12 (lay_c90 hL) 0 (91) (by decide) rfl (lay_r90_0 hL) q_fl_X12_7 dX12_isParish_27 ?_
    refine z_aload_n C 0 0 dX12_isParish_30 rfl rfl ?_
    refine z_getI C ok_X12 (lay_c90 hL) 12 (by decide) rfl q_fl_X12_207 dX12_isParish_31 ?_
    refine z_iconst C 2 dX12_isParish_34 (by decide) ?_
    refine z_iadd C dX12_isParish_35 ?_
    replace hf := gd_out hf
    obtain ⟨g8, hf⟩ := hf
    refine z_iald C (lay_c91 hL) (inb_in g8) dX12_isParish_36 ?_
    refine z_putI C ok_X12 (lay_c90 hL) 13 (by decide) rfl rfl rfl rfl q_fl_X12_213 dX12_isParish_37 ?_
    refine z_M (fun M9 e10 => ?_)
    replace hf := bnd_out e10 hf
    refine z_aload_n C 0 0 dX12_isParish_40 rfl rfl ?_
    refine z_aload_n C 0 0 dX12_isParish_41 rfl rfl ?_
    refine z_getR C ok_X12 (lay_c90 hL) 0 (91) (by decide) rfl (lay_r90_0 hL) q_fl_X12_7 dX12_isParish_42 ?_
    refine z_aload_n C 0 0 dX12_isParish_45 rfl rfl ?_
    refine z_getI C ok_X12 (lay_c90 hL) 12 (by decide) rfl q_fl_X12_207 dX12_isParish_46 ?_
    refine z_iconst C 3 dX12_isParish_49 (by decide) ?_
    refine z_iadd C dX12_isParish_50 ?_
    replace hf := gd_out hf
    obtain ⟨g11, hf⟩ := hf
    refine z_iald C (lay_c91 hL) (inb_in g11) dX12_isParish_51 ?_
    refine z_putI C ok_X12 (lay_c90 hL) 14 (by decide) rfl rfl rfl rfl q_fl_X12_216 dX12_isParish_52 ?_
    refine z_M (fun M12 e13 => ?_)
    replace hf := bnd_out e13 hf
    refine z_iconst C 0 dX12_isParish_55 (by decide) ?_
    refine z_istore_n C [(2, .int 0), (0, .ref (G.1 + 90)), (1, .int x1)] dX12_isParish_56 rfl (by decide) rfl rfl ?_
    refine z_lv (lv2 := [(0, .ref (G.1 + 90)), (2, .int 0)]) [1, 0] rfl ?_
    exact wX12_isParish_l57 C hs0 hL pp FU M12 0 hf
  · replace hf := ite_t c3 hf
    refine z_iconst C 0 dX12_isParish_9 (by decide) ?_
    cases hf
    exact z_zret C rfl nb0 dX12_isParish_10
set_option maxHeartbeats 4000000 in
set_option maxRecDepth 100000 in
theorem tX12_wide (l : Launch) (G : GG) {K : SK} (hL : Lay K) (M : MM)  (pp : Int32) (hf : fX12_wide M = some pp) : Ct l yX12_wide cX12_wide 1 (some .int) 0 0 0 G K M [.ref (G.1 + 90)] (some (.int pp)) K M := by
  refine z_enter (lv := [(0, .ref (G.1 + 90))]) (by decide +kernel) (Nat.le_of_ble_eq_true rfl) rfl ?_
  intro p e s m args below meth c C hnm hs0
  replace C : CX p s m args meth c cX12_wide 1 (some .int) RX12 G := C
  unfold fX12_wide at hf
  refine z_aload_n C 0 0 dX12_wide_0 rfl rfl ?_
  refine z_getR C ok_X12 (lay_c90 hL) 0 (91) (by decide) rfl (lay_r90_0 hL) q_fl_X12_7 dX12_wide_1 ?_
  refine z_aload_n C 0 0 dX12_wide_4 rfl rfl ?_
  refine z_getI C ok_X12 (lay_c90 hL) 12 (by decide) rfl q_fl_X12_207 dX12_wide_5 ?_
  refine z_iconst C 0 dX12_wide_8 (by decide) ?_
  refine z_iadd C dX12_wide_9 ?_
  replace hf := gd_out hf
  obtain ⟨g1, hf⟩ := hf
  refine z_iald C (lay_c91 hL) (inb_in g1) dX12_wide_10 ?_
  cases hf
  exact z_iret C rfl dX12_wide_11
set_option maxHeartbeats 4000000 in
set_option maxRecDepth 100000 in
theorem tX12_high (l : Launch) (G : GG) {K : SK} (hL : Lay K) (M : MM)  (pp : Int32) (hf : fX12_high M = some pp) : Ct l yX12_high cX12_high 1 (some .int) 0 0 0 G K M [.ref (G.1 + 90)] (some (.int pp)) K M := by
  refine z_enter (lv := [(0, .ref (G.1 + 90))]) (by decide +kernel) (Nat.le_of_ble_eq_true rfl) rfl ?_
  intro p e s m args below meth c C hnm hs0
  replace C : CX p s m args meth c cX12_high 1 (some .int) RX12 G := C
  unfold fX12_high at hf
  refine z_aload_n C 0 0 dX12_high_0 rfl rfl ?_
  refine z_getR C ok_X12 (lay_c90 hL) 0 (91) (by decide) rfl (lay_r90_0 hL) q_fl_X12_7 dX12_high_1 ?_
  refine z_aload_n C 0 0 dX12_high_4 rfl rfl ?_
  refine z_getI C ok_X12 (lay_c90 hL) 12 (by decide) rfl q_fl_X12_207 dX12_high_5 ?_
  refine z_iconst C 1 dX12_high_8 (by decide) ?_
  refine z_iadd C dX12_high_9 ?_
  replace hf := gd_out hf
  obtain ⟨g1, hf⟩ := hf
  refine z_iald C (lay_c91 hL) (inb_in g1) dX12_high_10 ?_
  cases hf
  exact z_iret C rfl dX12_high_11
set_option maxHeartbeats 4000000 in
set_option maxRecDepth 100000 in
theorem tX12_isSquare (l : Launch) (G : GG) {K : SK} (hL : Lay K) (M : MM) (x1 : Int32) (pp : Int32) (hf : fX12_isSquare M x1 = some pp) : Ct l yX12_isSquare cX12_isSquare 2 (some .boolean) 1 0 0 G K M [.ref (G.1 + 90), .int x1] (some (.int pp)) K M := by
  refine z_enter (lv := [(0, .ref (G.1 + 90)), (1, .int x1)]) (by decide +kernel) (Nat.le_of_ble_eq_true rfl) rfl ?_
  intro p e s m args below meth c C hnm hs0
  replace C : CX p s m args meth c cX12_isSquare 2 (some .boolean) RX12 G := C
  unfold fX12_isSquare at hf
  refine z_iload_n C 1 1 dX12_isSquare_0 rfl rfl ?_
  refine z_iconst C 0 dX12_isSquare_1 (by decide) ?_
  refine z_aload_n C 0 0 dX12_isSquare_2 rfl rfl ?_
  replace hf := bd_out hf
  obtain ⟨p1, e2, hf⟩ := hf
  refine z_cV1 C [.int 0, .int x1] (tX12_wide l G hL M  _ e2) lk_X12_wide ok_X12 (lay_c90 hL) q_ml_X12_219 rfl ⟨Nat.le_of_ble_eq_true rfl, Nat.le_of_ble_eq_true rfl⟩ rfl (Nat.le_of_ble_eq_true rfl) ⟨Nat.le_refl _, Nat.le_refl _⟩ dX12_isSquare_3 ?_
  refine z_aload_n C 0 0 dX12_isSquare_6 rfl rfl ?_
  replace hf := bd_out hf
  obtain ⟨p3, e4, hf⟩ := hf
  refine z_cV1 C [.int p1, .int 0, .int x1] (tX12_high l G hL M  _ e4) lk_X12_high ok_X12 (lay_c90 hL) q_ml_X12_222 rfl ⟨Nat.le_of_ble_eq_true rfl, Nat.le_of_ble_eq_true rfl⟩ rfl (Nat.le_of_ble_eq_true rfl) ⟨Nat.le_refl _, Nat.le_refl _⟩ dX12_isSquare_7 ?_
  refine z_imul C dX12_isSquare_10 ?_
  refine z_iconst C 1 dX12_isSquare_11 (by decide) ?_
  refine z_isub C dX12_isSquare_12 ?_
  refine z_cS1 C [] (tX12_isIn l G hL M x1 0 ((p1 * p3) - 1)) lk_X12_isIn q_ml_X12_141 rfl ⟨Nat.le_of_ble_eq_true rfl, Nat.le_of_ble_eq_true rfl⟩ rfl (Nat.le_of_ble_eq_true rfl) ⟨Nat.le_refl _, Nat.le_refl _⟩ dX12_isSquare_13 ?_
  replace hf := gd_out hf
  obtain ⟨g5, hf⟩ := hf
  cases hf
  exact z_zret C rfl (isb_n g5) dX12_isSquare_16
set_option maxHeartbeats 4000000 in
set_option maxRecDepth 100000 in
theorem tX12_inside (l : Launch) (G : GG) {K : SK} (hL : Lay K) (M : MM) (x1 : Int32) (pp : Int32) (hf : fX12_inside M x1 = some pp) : Ct l yX12_inside cX12_inside 2 (some .int) 1 0 0 G K M [.ref (G.1 + 90), .int x1] (some (.int pp)) K M := by
  refine z_enter (lv := [(0, .ref (G.1 + 90)), (1, .int x1)]) (by decide +kernel) (Nat.le_of_ble_eq_true rfl) rfl ?_
  intro p e s m args below meth c C hnm hs0
  replace C : CX p s m args meth c cX12_inside 2 (some .int) RX12 G := C
  unfold fX12_inside at hf
  refine z_bipush C 8 dX12_inside_0 (by decide) ?_
  refine z_iload_n C 1 1 dX12_inside_2 rfl rfl ?_
  refine z_aload_n C 0 0 dX12_inside_3 rfl rfl ?_
  replace hf := bd_out hf
  obtain ⟨p1, e2, hf⟩ := hf
  refine z_cV1 C [.int x1, .int 8] (tX12_wide l G hL M  _ e2) lk_X12_wide ok_X12 (lay_c90 hL) q_ml_X12_219 rfl ⟨Nat.le_of_ble_eq_true rfl, Nat.le_of_ble_eq_true rfl⟩ rfl (Nat.le_of_ble_eq_true rfl) ⟨Nat.le_refl _, Nat.le_refl _⟩ dX12_inside_4 ?_
  replace hf := gd_out hf
  obtain ⟨g3, hf⟩ := hf
  refine z_idiv C (nz_ne g3) dX12_inside_7 ?_
  refine z_imul C dX12_inside_8 ?_
  refine z_iload_n C 1 1 dX12_inside_9 rfl rfl ?_
  refine z_aload_n C 0 0 dX12_inside_10 rfl rfl ?_
  replace hf := bd_out hf
  obtain ⟨p4, e5, hf⟩ := hf
  refine z_cV1 C [.int x1, .int (8 * (x1 / p1))] (tX12_wide l G hL M  _ e5) lk_X12_wide ok_X12 (lay_c90 hL) q_ml_X12_219 rfl ⟨Nat.le_of_ble_eq_true rfl, Nat.le_of_ble_eq_true rfl⟩ rfl (Nat.le_of_ble_eq_true rfl) ⟨Nat.le_refl _, Nat.le_refl _⟩ dX12_inside_11 ?_
  replace hf := gd_out hf
  obtain ⟨g6, hf⟩ := hf
  refine z_irem C (nz_ne g6) dX12_inside_14 ?_
  refine z_iadd C dX12_inside_15 ?_
  cases hf
  exact z_iret C rfl dX12_inside_16
set_option maxHeartbeats 4000000 in
set_option maxRecDepth 100000 in
theorem tX12_outside (l : Launch) (G : GG) {K : SK} (hL : Lay K) (M : MM) (x1 : Int32) (pp : Int32) (hf : fX12_outside M x1 = some pp) : Ct l yX12_outside cX12_outside 2 (some .int) 1 0 0 G K M [.ref (G.1 + 90), .int x1] (some (.int pp)) K M := by
  refine z_enter (lv := [(0, .ref (G.1 + 90)), (1, .int x1)]) (by decide +kernel) (Nat.le_of_ble_eq_true rfl) rfl ?_
  intro p e s m args below meth c C hnm hs0
  replace C : CX p s m args meth c cX12_outside 2 (some .int) RX12 G := C
  unfold fX12_outside at hf
  refine z_aload_n C 0 0 dX12_outside_0 rfl rfl ?_
  replace hf := bd_out hf
  obtain ⟨p1, e2, hf⟩ := hf
  refine z_cV1 C [] (tX12_wide l G hL M  _ e2) lk_X12_wide ok_X12 (lay_c90 hL) q_ml_X12_219 rfl ⟨Nat.le_of_ble_eq_true rfl, Nat.le_of_ble_eq_true rfl⟩ rfl (Nat.le_of_ble_eq_true rfl) ⟨Nat.le_refl _, Nat.le_refl _⟩ dX12_outside_1 ?_
  refine z_iload_n C 1 1 dX12_outside_4 rfl rfl ?_
  refine z_bipush C 8 dX12_outside_5 (by decide) ?_
  refine z_idiv C (by decide) dX12_outside_7 ?_
  refine z_imul C dX12_outside_8 ?_
  refine z_iload_n C 1 1 dX12_outside_9 rfl rfl ?_
  refine z_bipush C 8 dX12_outside_10 (by decide) ?_
  refine z_irem C (by decide) dX12_outside_12 ?_
  refine z_iadd C dX12_outside_13 ?_
  cases hf
  exact z_iret C rfl dX12_outside_14
set_option maxHeartbeats 4000000 in
set_option maxRecDepth 100000 in
theorem tX12_isPerson (l : Launch) (G : GG) {K : SK} (hL : Lay K) (M : MM) (x1 : Int32) (pp : Int32) (hf : fX12_isPerson M x1 = some pp) : Ct l yX12_isPerson cX12_isPerson 2 (some .boolean) 1 0 0 G K M [.ref (G.1 + 90), .int x1] (some (.int pp)) K M := by
  refine z_enter (lv := [(0, .ref (G.1 + 90)), (1, .int x1)]) (by decide +kernel) (Nat.le_of_ble_eq_true rfl) rfl ?_
  intro p e s m args below meth c C hnm hs0
  replace C : CX p s m args meth c cX12_isPerson 2 (some .boolean) RX12 G := C
  unfold fX12_isPerson at hf
  refine z_iload_n C 1 1 dX12_isPerson_0 rfl rfl ?_
  refine z_iconst C 0 dX12_isPerson_1 (by decide) ?_
  refine z_aload_n C 0 0 dX12_isPerson_2 rfl rfl ?_
  refine z_getI C ok_X12 (lay_c90 hL) 13 (by decide) rfl q_fl_X12_213 dX12_isPerson_3 ?_
  refine z_iconst C 1 dX12_isPerson_6 (by decide) ?_
  refine z_isub C dX12_isPerson_7 ?_
  refine z_cS1 C [] (tX12_isIn l G hL M x1 0 ((gI M 90 13) - 1)) lk_X12_isIn q_ml_X12_141 rfl ⟨Nat.le_of_ble_eq_true rfl, Nat.le_of_ble_eq_true rfl⟩ rfl (Nat.le_of_ble_eq_true rfl) ⟨Nat.le_refl _, Nat.le_refl _⟩ dX12_isPerson_8 ?_
  replace hf := gd_out hf
  obtain ⟨g1, hf⟩ := hf
  cases hf
  exact z_zret C rfl (isb_n g1) dX12_isPerson_11
set_option maxHeartbeats 4000000 in
set_option maxRecDepth 100000 in
theorem tX12_isShine (l : Launch) (G : GG) {K : SK} (hL : Lay K) (M : MM) (x1 : Int32) (pp : Int32) (hf : fX12_isShine M x1 = some pp) : Ct l yX12_isShine cX12_isShine 2 (some .boolean) 1 0 0 G K M [.ref (G.1 + 90), .int x1] (some (.int pp)) K M := by
  refine z_enter (lv := [(0, .ref (G.1 + 90)), (1, .int x1)]) (by decide +kernel) (Nat.le_of_ble_eq_true rfl) rfl ?_
  intro p e s m args below meth c C hnm hs0
  replace C : CX p s m args meth c cX12_isShine 2 (some .boolean) RX12 G := C
  unfold fX12_isShine at hf
  refine z_iload_n C 1 1 dX12_isShine_0 rfl rfl ?_
  refine z_iconst C 0 dX12_isShine_1 (by decide) ?_
  refine z_aload_n C 0 0 dX12_isShine_2 rfl rfl ?_
  refine z_getI C ok_X12 (lay_c90 hL) 14 (by decide) rfl q_fl_X12_216 dX12_isShine_3 ?_
  refine z_iconst C 1 dX12_isShine_6 (by decide) ?_
  refine z_isub C dX12_isShine_7 ?_
  refine z_cS1 C [] (tX12_isIn l G hL M x1 0 ((gI M 90 14) - 1)) lk_X12_isIn q_ml_X12_141 rfl ⟨Nat.le_of_ble_eq_true rfl, Nat.le_of_ble_eq_true rfl⟩ rfl (Nat.le_of_ble_eq_true rfl) ⟨Nat.le_refl _, Nat.le_refl _⟩ dX12_isShine_8 ?_
  replace hf := gd_out hf
  obtain ⟨g1, hf⟩ := hf
  cases hf
  exact z_zret C rfl (isb_n g1) dX12_isShine_11
set_option maxHeartbeats 4000000 in
set_option maxRecDepth 100000 in
theorem wX12_on_l2 (C : CX p s m args meth c cX12_on 3 (some .int) RX12 G) (hs0 : s.heap.size = G.1 + K.1) (hL : Lay K) (M : MM) (k31 : Int32 → Option Int32) (k20 : Int32 → Option Int32) (pp : Int32) (hk31 : ∀ (y4 : Int32), k31 y4 = some pp → Z p l e (rmo 0 0 0) s m args below meth c 3 G (MQ below (QC G (some (.int pp)) K M) args s 0 0 (AG G)) K 0 0 M 31 [(0, .ref (G.1 + 90)), (1, .int y4)] []) (hk20 : ∀ (y7 : Int32), k20 y7 = some pp → Z p l e (rmo 0 0 0) s m args below meth c 3 G (MQ below (QC G (some (.int pp)) K M) args s 0 0 (AG G)) K 0 0 M 20 [(2, .int y7)] []) : ∀ (n : Nat) (y1 : Int32) (y2 : Int32) (hf : fX12_on_l2 M k31 k20 n y1 y2 = some pp), Z p l e (rmo 0 0 0) s m args below meth c 3 G (MQ below (QC G (some (.int pp)) K M) args s 0 0 (AG G)) K 0 0 M 2 [(0, .ref (G.1 + 90)), (1, .int y1), (2, .int y2)] [] := by
  intro n
  induction n with
  | zero => intro y1 y2 hf; exact nomatch (show (none : Option Int32) = some pp from hf)
  | succ n ih =>
    intro y1 y2 hf
    rw [fX12_on_l2.eq_2] at hf
    refine z_iload_n C 2 2 dX12_on_2 rfl rfl ?_
    refine z_aload_n C 0 0 dX12_on_3 rfl rfl ?_
    refine z_getI C ok_X12 (lay_c90 hL) 13 (by decide) rfl q_fl_X12_213 dX12_on_4 ?_
    refine z_icmp_ge C 31 dX12_on_7 (by decide) (fun c3 => ?_) (fun c3 => ?_)
    · replace hf := ite_t c3 hf
      refine z_lv (lv2 := [(0, .ref (G.1 + 90)), (1, .int y1)]) [0, 1] rfl ?_
      exact hk31 y1  hf
    · replace hf := ite_f c3 hf
      refine z_aload_n C 0 0 dX12_on_10 rfl rfl ?_
      refine z_getR C ok_X12 (lay_c90 hL) 15 (94) (by decide) rfl (lay_r90_15 hL) q_fl_X12_20 dX12_on_11 ?_
      refine z_iload_n C 2 2 dX12_on_14 rfl rfl ?_
      replace hf := gd_out hf
      obtain ⟨g5, hf⟩ := hf
      refine z_iald C (lay_c94 hL) (inb_in g5) dX12_on_15 ?_
      refine z_iload_n C 1 1 dX12_on_16 rfl rfl ?_
      refine z_icmp_ne C 25 dX12_on_17 (by decide) (fun c6 => ?_) (fun c6 => ?_)
      · replace hf := ite_f c6 hf
        refine z_iinc C 2 (y2 + 1) [(2, .int (y2 + 1)), (0, .ref (G.1 + 90)), (1, .int y1)] dX12_on_25 rfl rfl (by decide) rfl rfl ?_
        refine z_goto C 2 dX12_on_28 (by decide) ?_
        refine z_lv (lv2 := [(0, .ref (G.1 + 90)), (1, .int y1), (2, .int (y2 + 1))]) [1, 2, 0] rfl ?_
        exact ih y1 (y2 + 1)  hf
      · replace hf := ite_t c6 hf
        refine z_lv (lv2 := [(2, .int y2)]) [2] rfl ?_
        exact hk20 y2  hf
set_option maxHeartbeats 4000000 in
set_option maxRecDepth 100000 in
theorem wX12_on_l33 (C : CX p s m args meth c cX12_on 3 (some .int) RX12 G) (hs0 : s.heap.size = G.1 + K.1) (hL : Lay K) (M : MM) (k62 : Int32 → Option Int32) (k51 : Int32 → Option Int32) (pp : Int32) (hk62 : ∀ (y12 : Int32), k62 y12 = some pp → Z p l e (rmo 0 0 0) s m args below meth c 3 G (MQ below (QC G (some (.int pp)) K M) args s 0 0 (AG G)) K 0 0 M 62 [(0, .ref (G.1 + 90)), (1, .int y12)] []) (hk51 : ∀ (y15 : Int32), k51 y15 = some pp → Z p l e (rmo 0 0 0) s m args below meth c 3 G (MQ below (QC G (some (.int pp)) K M) args s 0 0 (AG G)) K 0 0 M 51 [(2, .int y15)] []) : ∀ (n : Nat) (y9 : Int32) (y10 : Int32) (hf : fX12_on_l33 M k62 k51 n y9 y10 = some pp), Z p l e (rmo 0 0 0) s m args below meth c 3 G (MQ below (QC G (some (.int pp)) K M) args s 0 0 (AG G)) K 0 0 M 33 [(0, .ref (G.1 + 90)), (1, .int y9), (2, .int y10)] [] := by
  intro n
  induction n with
  | zero => intro y9 y10 hf; exact nomatch (show (none : Option Int32) = some pp from hf)
  | succ n ih =>
    intro y9 y10 hf
    rw [fX12_on_l33.eq_2] at hf
    refine z_iload_n C 2 2 dX12_on_33 rfl rfl ?_
    refine z_aload_n C 0 0 dX12_on_34 rfl rfl ?_
    refine z_getI C ok_X12 (lay_c90 hL) 14 (by decide) rfl q_fl_X12_216 dX12_on_35 ?_
    refine z_icmp_ge C 62 dX12_on_38 (by decide) (fun c11 => ?_) (fun c11 => ?_)
    · replace hf := ite_t c11 hf
      refine z_lv (lv2 := [(0, .ref (G.1 + 90)), (1, .int y9)]) [0, 1] rfl ?_
      exact hk62 y9  hf
    · replace hf := ite_f c11 hf
      refine z_aload_n C 0 0 dX12_on_41 rfl rfl ?_
      refine z_getR C ok_X12 (lay_c90 hL) 18 (97) (by decide) rfl (lay_r90_18 hL) q_fl_X12_29 dX12_on_42 ?_
      refine z_iload_n C 2 2 dX12_on_45 rfl rfl ?_
      replace hf := gd_out hf
      obtain ⟨g13, hf⟩ := hf
      refine z_iald C (lay_c97 hL) (inb_in g13) dX12_on_46 ?_
      refine z_iload_n C 1 1 dX12_on_47 rfl rfl ?_
      refine z_icmp_ne C 56 dX12_on_48 (by decide) (fun c14 => ?_) (fun c14 => ?_)
      · replace hf := ite_f c14 hf
        refine z_iinc C 2 (y10 + 1) [(2, .int (y10 + 1)), (0, .ref (G.1 + 90)), (1, .int y9)] dX12_on_56 rfl rfl (by decide) rfl rfl ?_
        refine z_goto C 33 dX12_on_59 (by decide) ?_
        refine z_lv (lv2 := [(0, .ref (G.1 + 90)), (1, .int y9), (2, .int (y10 + 1))]) [1, 2, 0] rfl ?_
        exact ih y9 (y10 + 1)  hf
      · replace hf := ite_t c14 hf
        refine z_lv (lv2 := [(2, .int y10)]) [2] rfl ?_
        exact hk51 y10  hf
set_option maxHeartbeats 4000000 in
set_option maxRecDepth 100000 in
theorem tX12_on (l : Launch) (G : GG) {K : SK} (hL : Lay K) (M : MM) (x1 : Int32) (pp : Int32) (hf : fX12_on M x1 = some pp) : Ct l yX12_on cX12_on 3 (some .int) 0 0 0 G K M [.ref (G.1 + 90), .int x1] (some (.int pp)) K M := by
  refine z_enter (lv := [(0, .ref (G.1 + 90)), (1, .int x1)]) (by decide +kernel) (Nat.le_of_ble_eq_true rfl) rfl ?_
  intro p e s m args below meth c C hnm hs0
  replace C : CX p s m args meth c cX12_on 3 (some .int) RX12 G := C
  unfold fX12_on at hf
  refine z_iconst C 0 dX12_on_0 (by decide) ?_
  refine z_istore_n C [(2, .int 0), (0, .ref (G.1 + 90)), (1, .int x1)] dX12_on_1 rfl (by decide) rfl rfl ?_
  refine z_lv (lv2 := [(0, .ref (G.1 + 90)), (1, .int x1), (2, .int 0)]) [1, 2, 0] rfl ?_
  refine wX12_on_l2 C hs0 hL M _ _ pp ?_ ?_ FU x1 0 hf
  · intro y8 hf
    refine z_iconst C 0 dX12_on_31 (by decide) ?_
    refine z_istore_n C [(2, .int 0), (0, .ref (G.1 + 90)), (1, .int y8)] dX12_on_32 rfl (by decide) rfl rfl ?_
    refine z_lv (lv2 := [(0, .ref (G.1 + 90)), (1, .int y8), (2, .int 0)]) [1, 2, 0] rfl ?_
    refine wX12_on_l33 C hs0 hL M _ _ pp ?_ ?_ FU y8 0 hf
    · intro y16 hf
      refine z_iload_n C 1 1 dX12_on_62 rfl rfl ?_
      refine z_aload_n C 0 0 dX12_on_63 rfl rfl ?_
      refine z_getI C ok_X12 (lay_c90 hL) 23 (by decide) rfl q_fl_X12_210 dX12_on_64 ?_
      refine z_icmp_ne C 74 dX12_on_67 (by decide) (fun c17 => ?_) (fun c17 => ?_)
      · replace hf := ite_f c17 hf
        refine z_aload_n C 0 0 dX12_on_74 rfl rfl ?_
        refine z_getR C ok_X12 (lay_c90 hL) 0 (91) (by decide) rfl (lay_r90_0 hL) q_fl_X12_7 dX12_on_75 ?_
        refine z_aload_n C 0 0 dX12_on_78 rfl rfl ?_
        refine z_getI C ok_X12 (lay_c90 hL) 12 (by decide) rfl q_fl_X12_207 dX12_on_79 ?_
        refine z_iconst C 4 dX12_on_82 (by decide) ?_
        refine z_iadd C dX12_on_83 ?_
        refine z_iload_n C 1 1 dX12_on_84 rfl rfl ?_
        refine z_iadd C dX12_on_85 ?_
        replace hf := gd_out hf
        obtain ⟨g18, hf⟩ := hf
        refine z_iald C (lay_c91 hL) (inb_in g18) dX12_on_86 ?_
        cases hf
        exact z_iret C rfl dX12_on_87
      · replace hf := ite_t c17 hf
        refine z_iconst C 1 dX12_on_70 (by decide) ?_
        refine z_goto C 87 dX12_on_71 (by decide) ?_
        cases hf
        exact z_iret C rfl dX12_on_87
    · intro y19 hf
      refine z_bipush C 20 dX12_on_51 (by decide) ?_
      refine z_iload_n C 0 2 dX12_on_53 rfl rfl ?_
      refine z_iadd C dX12_on_54 ?_
      cases hf
      exact z_iret C rfl dX12_on_55
  · intro y20 hf
    refine z_bipush C 10 dX12_on_20 (by decide) ?_
    refine z_iload_n C 0 2 dX12_on_22 rfl rfl ?_
    refine z_iadd C dX12_on_23 ?_
    cases hf
    exact z_iret C rfl dX12_on_24
set_option maxHeartbeats 4000000 in
set_option maxRecDepth 100000 in
theorem tX12_parish (l : Launch) (G : GG) {K : SK} (hL : Lay K) (M : MM) (x1 : Int32) (x2 : Int32) (pp : (Int32 × MM)) (hf : fX12_parish M x1 x2 = some pp) : Ct l yX12_parish cX12_parish 4 (some .int) 3 0 0 G K M [.ref (G.1 + 90), .int x1, .int x2] (some (.int pp.1)) K pp.2 := by
  refine z_enter (lv := [(0, .ref (G.1 + 90)), (1, .int x1), (2, .int x2)]) (by decide +kernel) (Nat.le_of_ble_eq_true rfl) rfl ?_
  intro p e s m args below meth c C hnm hs0
  replace C : CX p s m args meth c cX12_parish 4 (some .int) RX12 G := C
  unfold fX12_parish at hf
  refine z_aload_n C 0 0 dX12_parish_0 rfl rfl ?_
  refine z_iload_n C 1 1 dX12_parish_1 rfl rfl ?_
  replace hf := bd_out hf
  obtain ⟨p1, e2, hf⟩ := hf
  refine z_cV1 C [] (tX12_isParish l G hL M x1 _ e2) lk_X12_isParish ok_X12 (lay_c90 hL) q_ml_X12_225 rfl ⟨Nat.le_of_ble_eq_true rfl, Nat.le_of_ble_eq_true rfl⟩ rfl (Nat.le_of_ble_eq_true rfl) ⟨Nat.le_refl _, Nat.le_refl _⟩ dX12_parish_2 ?_
  refine z_if_ne C 10 dX12_parish_5 (by decide) (fun c3 => ?_) (fun c3 => ?_)
  · replace hf := ite_f c3 hf
    refine z_iload_n C 2 2 dX12_parish_10 rfl rfl ?_
    refine z_iconst C 0 dX12_parish_11 (by decide) ?_
    refine z_iconst C 3 dX12_parish_12 (by decide) ?_
    refine z_cS1 C [] (tX12_isIn l G hL p1.2 x2 0 3) lk_X12_isIn q_ml_X12_141 rfl ⟨Nat.le_of_ble_eq_true rfl, Nat.le_of_ble_eq_true rfl⟩ rfl (Nat.le_of_ble_eq_true rfl) ⟨Nat.le_refl _, Nat.le_refl _⟩ dX12_parish_13 ?_
    refine z_if_eq C 31 dX12_parish_16 (by decide) (fun c4 => ?_) (fun c4 => ?_)
    · replace hf := ite_t c4 hf
      refine z_iload_n C 2 2 dX12_parish_31 rfl rfl ?_
      refine z_bipush C 10 dX12_parish_32 (by decide) ?_
      refine z_irem C (by decide) dX12_parish_34 ?_
      refine z_topi (fun v5 e6 => ?_)
      replace hf := bnd_out e6 hf
      refine z_istore_n C [(3, .int v5), (0, .ref (G.1 + 90)), (1, .int x1), (2, .int x2)] dX12_parish_35 rfl (by decide) rfl rfl ?_
      refine z_iload_n C 3 2 dX12_parish_36 rfl rfl ?_
      refine z_bipush C 10 dX12_parish_37 (by decide) ?_
      refine z_bipush C 29 dX12_parish_39 (by decide) ?_
      refine z_cS1 C [] (tX12_isIn l G hL p1.2 x2 10 29) lk_X12_isIn q_ml_X12_141 rfl ⟨Nat.le_of_ble_eq_true rfl, Nat.le_of_ble_eq_true rfl⟩ rfl (Nat.le_of_ble_eq_true rfl) ⟨Nat.le_refl _, Nat.le_refl _⟩ dX12_parish_41 ?_
      refine z_if_eq C 85 dX12_parish_44 (by decide) (fun c7 => ?_) (fun c7 => ?_)
      · replace hf := ite_t c7 hf
        refine z_iload_n C 3 2 dX12_parish_85 rfl rfl ?_
        refine z_bipush C 30 dX12_parish_86 (by decide) ?_
        refine z_bipush C 79 dX12_parish_88 (by decide) ?_
        refine z_cS1 C [] (tX12_isIn l G hL p1.2 x2 30 79) lk_X12_isIn q_ml_X12_141 rfl ⟨Nat.le_of_ble_eq_true rfl, Nat.le_of_ble_eq_true rfl⟩ rfl (Nat.le_of_ble_eq_true rfl) ⟨Nat.le_refl _, Nat.le_refl _⟩ dX12_parish_90 ?_
        refine z_if_eq C 104 dX12_parish_93 (by decide) (fun c8 => ?_) (fun c8 => ?_)
        · replace hf := ite_t c8 hf
          refine z_iconst C (-1) dX12_parish_104 (by decide) ?_
          cases hf
          exact z_iret C rfl dX12_parish_105
        · replace hf := ite_f c8 hf
          refine z_aload_n C 1 0 dX12_parish_96 rfl rfl ?_
          refine z_iload_n C 0 3 dX12_parish_97 rfl rfl ?_
          replace hf := bd_out hf
          obtain ⟨p9, e10, hf⟩ := hf
          refine z_cV1 C [] (tX12_isShine l G hL p1.2 v5 _ e10) lk_X12_isShine ok_X12 (lay_c90 hL) q_ml_X12_234 rfl ⟨Nat.le_of_ble_eq_true rfl, Nat.le_of_ble_eq_true rfl⟩ rfl (Nat.le_of_ble_eq_true rfl) ⟨Nat.le_refl _, Nat.le_refl _⟩ dX12_parish_98 ?_
          refine z_if_ne C 106 dX12_parish_101 (by decide) (fun c11 => ?_) (fun c11 => ?_)
          · replace hf := ite_f c11 hf
            refine z_iload_n C 3 2 dX12_parish_106 rfl rfl ?_
            refine z_bipush C 10 dX12_parish_107 (by decide) ?_
            refine z_idiv C (by decide) dX12_parish_109 ?_
            by_cases c12 : (x2 / 10) = 3
            · replace hf := ite_t c12 hf
              refine z_tableIn C 140 dX12_parish_110 (by rw [c12]; decide) (by rw [c12]; decide) (by rw [c12]; rfl) (by decide) ?_
              refine z_aload_n C 1 0 dX12_parish_140 rfl rfl ?_
              refine z_getR C ok_X12 (lay_c90 hL) 17 (96) (by decide) rfl (lay_r90_17 hL) q_fl_X12_26 dX12_parish_141 ?_
              refine z_iload_n C 0 3 dX12_parish_144 rfl rfl ?_
              replace hf := gd_out hf
              obtain ⟨g13, hf⟩ := hf
              refine z_iald C (lay_c96 hL) (inb_in g13) dX12_parish_145 ?_
              cases hf
              exact z_iret C rfl dX12_parish_146
            · replace hf := ite_f c12 hf
              by_cases c14 : (x2 / 10) = 4
              · replace hf := ite_t c14 hf
                refine z_tableIn C 147 dX12_parish_110 (by rw [c14]; decide) (by rw [c14]; decide) (by rw [c14]; rfl) (by decide) ?_
                refine z_aload_n C 1 0 dX12_parish_147 rfl rfl ?_
                refine z_aload_n C 1 0 dX12_parish_148 rfl rfl ?_
                refine z_getR C ok_X12 (lay_c90 hL) 18 (97) (by decide) rfl (lay_r90_18 hL) q_fl_X12_29 dX12_parish_149 ?_
                refine z_iload_n C 0 3 dX12_parish_152 rfl rfl ?_
                replace hf := gd_out hf
                obtain ⟨g15, hf⟩ := hf
                refine z_iald C (lay_c97 hL) (inb_in g15) dX12_parish_153 ?_
                replace hf := bd_out hf
                obtain ⟨p16, e17, hf⟩ := hf
                refine z_cV1 C [] (tX12_outside l G hL p1.2 (gI p1.2 97 (ix v5)) _ e17) lk_X12_outside ok_X12 (lay_c90 hL) q_ml_X12_231 rfl ⟨Nat.le_of_ble_eq_true rfl, Nat.le_of_ble_eq_true rfl⟩ rfl (Nat.le_of_ble_eq_true rfl) ⟨Nat.le_refl _, Nat.le_refl _⟩ dX12_parish_154 ?_
                cases hf
                exact z_iret C rfl dX12_parish_157
              · replace hf := ite_f c14 hf
                by_cases c18 : (x2 / 10) = 5
                · replace hf := ite_t c18 hf
                  refine z_tableIn C 158 dX12_parish_110 (by rw [c18]; decide) (by rw [c18]; decide) (by rw [c18]; rfl) (by decide) ?_
                  refine z_aload_n C 1 0 dX12_parish_158 rfl rfl ?_
                  refine z_getR C ok_X12 (lay_c90 hL) 19 (98) (by decide) rfl (lay_r90_19 hL) q_fl_X12_32 dX12_parish_159 ?_
                  refine z_iload_n C 0 3 dX12_parish_162 rfl rfl ?_
                  replace hf := gd_out hf
                  obtain ⟨g19, hf⟩ := hf
                  refine z_iald C (lay_c98 hL) (inb_in g19) dX12_parish_163 ?_
                  cases hf
                  exact z_iret C rfl dX12_parish_164
                · replace hf := ite_f c18 hf
                  by_cases c20 : (x2 / 10) = 6
                  · replace hf := ite_t c20 hf
                    refine z_tableIn C 165 dX12_parish_110 (by rw [c20]; decide) (by rw [c20]; decide) (by rw [c20]; rfl) (by decide) ?_
                    refine z_aload_n C 1 0 dX12_parish_165 rfl rfl ?_
                    refine z_getR C ok_X12 (lay_c90 hL) 20 (99) (by decide) rfl (lay_r90_20 hL) q_fl_X12_35 dX12_parish_166 ?_
                    refine z_iload_n C 0 3 dX12_parish_169 rfl rfl ?_
                    replace hf := gd_out hf
                    obtain ⟨g21, hf⟩ := hf
                    refine z_iald C (lay_c99 hL) (inb_in g21) dX12_parish_170 ?_
                    cases hf
                    exact z_iret C rfl dX12_parish_171
                  · replace hf := ite_f c20 hf
                    have ic12 : ((x2 / 10)).toInt ≠ 3 := fun q => c12 (Int32.toInt_inj.mp (q.trans (by decide)))
                    have ic14 : ((x2 / 10)).toInt ≠ 4 := fun q => c14 (Int32.toInt_inj.mp (q.trans (by decide)))
                    have ic18 : ((x2 / 10)).toInt ≠ 5 := fun q => c18 (Int32.toInt_inj.mp (q.trans (by decide)))
                    have ic20 : ((x2 / 10)).toInt ≠ 6 := fun q => c20 (Int32.toInt_inj.mp (q.trans (by decide)))
                    refine z_tableOut C 172 dX12_parish_110 (by omega) (by decide) ?_
                    refine z_aload_n C 1 0 dX12_parish_172 rfl rfl ?_
                    refine z_getR C ok_X12 (lay_c90 hL) 21 (100) (by decide) rfl (lay_r90_21 hL) q_fl_X12_38 dX12_parish_173 ?_
                    refine z_iload_n C 0 3 dX12_parish_176 rfl rfl ?_
                    replace hf := gd_out hf
                    obtain ⟨g22, hf⟩ := hf
                    refine z_iald C (lay_c100 hL) (inb_in g22) dX12_parish_177 ?_
                    cases hf
                    exact z_iret C rfl dX12_parish_178
          · replace hf := ite_t c11 hf
            refine z_iconst C (-1) dX12_parish_104 (by decide) ?_
            cases hf
            exact z_iret C rfl dX12_parish_105
      · replace hf := ite_f c7 hf
        refine z_aload_n C 1 0 dX12_parish_47 rfl rfl ?_
        refine z_iload_n C 0 3 dX12_parish_48 rfl rfl ?_
        replace hf := bd_out hf
        obtain ⟨p23, e24, hf⟩ := hf
        refine z_cV1 C [] (tX12_isPerson l G hL p1.2 v5 _ e24) lk_X12_isPerson ok_X12 (lay_c90 hL) q_ml_X12_228 rfl ⟨Nat.le_of_ble_eq_true rfl, Nat.le_of_ble_eq_true rfl⟩ rfl (Nat.le_of_ble_eq_true rfl) ⟨Nat.le_refl _, Nat.le_refl _⟩ dX12_parish_49 ?_
        refine z_if_ne C 59 dX12_parish_52 (by decide) (fun c25 => ?_) (fun c25 => ?_)
        · replace hf := ite_f c25 hf
          refine z_iload_n C 3 2 dX12_parish_59 rfl rfl ?_
          refine z_bipush C 20 dX12_parish_60 (by decide) ?_
          refine z_icmp_ge C 78 dX12_parish_62 (by decide) (fun c26 => ?_) (fun c26 => ?_)
          · replace hf := ite_t c26 hf
            refine z_aload_n C 1 0 dX12_parish_78 rfl rfl ?_
            refine z_getR C ok_X12 (lay_c90 hL) 16 (95) (by decide) rfl (lay_r90_16 hL) q_fl_X12_23 dX12_parish_79 ?_
            refine z_iload_n C 0 3 dX12_parish_82 rfl rfl ?_
            replace hf := gd_out hf
            obtain ⟨g27, hf⟩ := hf
            refine z_iald C (lay_c95 hL) (inb_in g27) dX12_parish_83 ?_
            cases hf
            exact z_iret C rfl dX12_parish_84
          · replace hf := ite_f c26 hf
            refine z_aload_n C 1 0 dX12_parish_65 rfl rfl ?_
            refine z_aload_n C 1 0 dX12_parish_66 rfl rfl ?_
            refine z_getR C ok_X12 (lay_c90 hL) 15 (94) (by decide) rfl (lay_r90_15 hL) q_fl_X12_20 dX12_parish_67 ?_
            refine z_iload_n C 0 3 dX12_parish_70 rfl rfl ?_
            replace hf := gd_out hf
            obtain ⟨g28, hf⟩ := hf
            refine z_iald C (lay_c94 hL) (inb_in g28) dX12_parish_71 ?_
            replace hf := bd_out hf
            obtain ⟨p29, e30, hf⟩ := hf
            refine z_cV1 C [] (tX12_outside l G hL p1.2 (gI p1.2 94 (ix v5)) _ e30) lk_X12_outside ok_X12 (lay_c90 hL) q_ml_X12_231 rfl ⟨Nat.le_of_ble_eq_true rfl, Nat.le_of_ble_eq_true rfl⟩ rfl (Nat.le_of_ble_eq_true rfl) ⟨Nat.le_refl _, Nat.le_refl _⟩ dX12_parish_72 ?_
            refine z_goto C 84 dX12_parish_75 (by decide) ?_
            cases hf
            exact z_iret C rfl dX12_parish_84
        · replace hf := ite_t c25 hf
          refine z_iconst C (-1) dX12_parish_55 (by decide) ?_
          refine z_goto C 84 dX12_parish_56 (by decide) ?_
          cases hf
          exact z_iret C rfl dX12_parish_84
    · replace hf := ite_f c4 hf
      refine z_aload_n C 0 0 dX12_parish_19 rfl rfl ?_
      refine z_getR C ok_X12 (lay_c90 hL) 0 (91) (by decide) rfl (lay_r90_0 hL) q_fl_X12_7 dX12_parish_20 ?_
      refine z_aload_n C 0 0 dX12_parish_23 rfl rfl ?_
      refine z_getI C ok_X12 (lay_c90 hL) 12 (by decide) rfl q_fl_X12_207 dX12_parish_24 ?_
      refine z_iload_n C 2 2 dX12_parish_27 rfl rfl ?_
      refine z_iadd C dX12_parish_28 ?_
      replace hf := gd_out hf
      obtain ⟨g31, hf⟩ := hf
      refine z_iald C (lay_c91 hL) (inb_in g31) dX12_parish_29 ?_
      cases hf
      exact z_iret C rfl dX12_parish_30
  · replace hf := ite_t c3 hf
    refine z_iconst C (-1) dX12_parish_8 (by decide) ?_
    cases hf
    exact z_iret C rfl dX12_parish_9
set_option maxHeartbeats 4000000 in
set_option maxRecDepth 100000 in
theorem tX12_square (l : Launch) (G : GG) {K : SK} (hL : Lay K) (M : MM) (x1 : Int32) (x2 : Int32) (pp : (Int32 × MM)) (hf : fX12_square M x1 x2 = some pp) : Ct l yX12_square cX12_square 3 (some .int) 3 0 0 G K M [.ref (G.1 + 90), .int x1, .int x2] (some (.int pp.1)) K pp.2 := by
  refine z_enter (lv := [(0, .ref (G.1 + 90)), (1, .int x1), (2, .int x2)]) (by decide +kernel) (Nat.le_of_ble_eq_true rfl) rfl ?_
  intro p e s m args below meth c C hnm hs0
  replace C : CX p s m args meth c cX12_square 3 (some .int) RX12 G := C
  unfold fX12_square at hf
  refine z_aload_n C 0 0 dX12_square_0 rfl rfl ?_
  refine z_iload_n C 1 1 dX12_square_1 rfl rfl ?_
  replace hf := bd_out hf
  obtain ⟨p1, e2, hf⟩ := hf
  refine z_cV1 C [] (tX12_isParish l G hL M x1 _ e2) lk_X12_isParish ok_X12 (lay_c90 hL) q_ml_X12_225 rfl ⟨Nat.le_of_ble_eq_true rfl, Nat.le_of_ble_eq_true rfl⟩ rfl (Nat.le_of_ble_eq_true rfl) ⟨Nat.le_refl _, Nat.le_refl _⟩ dX12_square_2 ?_
  refine z_if_eq C 28 dX12_square_5 (by decide) (fun c3 => ?_) (fun c3 => ?_)
  · replace hf := ite_t c3 hf
    refine z_iconst C (-1) dX12_square_28 (by decide) ?_
    cases hf
    exact z_iret C rfl dX12_square_29
  · replace hf := ite_f c3 hf
    refine z_aload_n C 0 0 dX12_square_8 rfl rfl ?_
    refine z_iload_n C 2 2 dX12_square_9 rfl rfl ?_
    replace hf := bd_out hf
    obtain ⟨p4, e5, hf⟩ := hf
    refine z_cV1 C [] (tX12_isSquare l G hL p1.2 x2 _ e5) lk_X12_isSquare ok_X12 (lay_c90 hL) q_ml_X12_237 rfl ⟨Nat.le_of_ble_eq_true rfl, Nat.le_of_ble_eq_true rfl⟩ rfl (Nat.le_of_ble_eq_true rfl) ⟨Nat.le_refl _, Nat.le_refl _⟩ dX12_square_10 ?_
    refine z_if_eq C 28 dX12_square_13 (by decide) (fun c6 => ?_) (fun c6 => ?_)
    · replace hf := ite_t c6 hf
      refine z_iconst C (-1) dX12_square_28 (by decide) ?_
      cases hf
      exact z_iret C rfl dX12_square_29
    · replace hf := ite_f c6 hf
      refine z_aload_n C 0 0 dX12_square_16 rfl rfl ?_
      refine z_aload_n C 0 0 dX12_square_17 rfl rfl ?_
      refine z_iload_n C 2 2 dX12_square_18 rfl rfl ?_
      replace hf := bd_out hf
      obtain ⟨p7, e8, hf⟩ := hf
      refine z_cV1 C [.ref (G.1 + 90)] (tX12_inside l G hL p1.2 x2 _ e8) lk_X12_inside ok_X12 (lay_c90 hL) q_ml_X12_240 rfl ⟨Nat.le_of_ble_eq_true rfl, Nat.le_of_ble_eq_true rfl⟩ rfl (Nat.le_of_ble_eq_true rfl) ⟨Nat.le_refl _, Nat.le_refl _⟩ dX12_square_19 ?_
      replace hf := bd_out hf
      obtain ⟨p9, e10, hf⟩ := hf
      refine z_cV1 C [] (tX12_on l G hL p1.2 p7 _ e10) lk_X12_on ok_X12 (lay_c90 hL) q_ml_X12_243 rfl ⟨Nat.le_of_ble_eq_true rfl, Nat.le_of_ble_eq_true rfl⟩ rfl (Nat.le_of_ble_eq_true rfl) ⟨Nat.le_refl _, Nat.le_refl _⟩ dX12_square_22 ?_
      refine z_goto C 29 dX12_square_25 (by decide) ?_
      cases hf
      exact z_iret C rfl dX12_square_29
set_option maxHeartbeats 4000000 in
set_option maxRecDepth 100000 in
theorem wX12_isOpen_j60 (C : CX p s m args meth c cX12_isOpen 4 (some .boolean) RX12 G) (hs0 : s.heap.size = G.1 + K.1) (hL : Lay K) (M : MM)  (pp : Int32)  (y11 : Int32) (y12 : Int32) (hf : fX12_isOpen_j60 M y11 y12 = some pp) : Z p l e (rmo 0 0 0) s m args below meth c 4 G (MQ below (QC G (some (.int pp)) K M) args s 0 0 (AG G)) K 0 0 M 60 [(0, .ref (G.1 + 90)), (1, .int y11), (3, .int y12)] [] := by
  unfold fX12_isOpen_j60 at hf
  refine z_aload_n C 0 0 dX12_isOpen_60 rfl rfl ?_
  refine z_getR C ok_X12 (lay_c90 hL) 17 (96) (by decide) rfl (lay_r90_17 hL) q_fl_X12_26 dX12_isOpen_61 ?_
  refine z_iload_n C 1 1 dX12_isOpen_64 rfl rfl ?_
  replace hf := gd_out hf
  obtain ⟨g13, hf⟩ := hf
  refine z_iald C (lay_c96 hL) (inb_in g13) dX12_isOpen_65 ?_
  refine z_iconst C 3 dX12_isOpen_66 (by decide) ?_
  refine z_icmp_ne C 79 dX12_isOpen_67 (by decide) (fun c14 => ?_) (fun c14 => ?_)
  · replace hf := ite_f c14 hf
    refine z_iconst C 0 dX12_isOpen_79 (by decide) ?_
    cases hf
    exact z_zret C rfl nb0 dX12_isOpen_80
  · replace hf := ite_t c14 hf
    refine z_iload_n C 2 3 dX12_isOpen_70 rfl rfl ?_
    refine z_iconst C 4 dX12_isOpen_71 (by decide) ?_
    refine z_icmp_ne C 79 dX12_isOpen_72 (by decide) (fun c15 => ?_) (fun c15 => ?_)
    · replace hf := ite_f c15 hf
      refine z_iconst C 0 dX12_isOpen_79 (by decide) ?_
      cases hf
      exact z_zret C rfl nb0 dX12_isOpen_80
    · replace hf := ite_t c15 hf
      refine z_iconst C 1 dX12_isOpen_75 (by decide) ?_
      refine z_goto C 80 dX12_isOpen_76 (by decide) ?_
      cases hf
      exact z_zret C rfl nb1 dX12_isOpen_80
set_option maxHeartbeats 4000000 in
set_option maxRecDepth 100000 in
theorem tX12_isOpen (l : Launch) (G : GG) {K : SK} (hL : Lay K) (M : MM) (x1 : Int32) (x2 : Int32) (pp : Int32) (hf : fX12_isOpen M x1 x2 = some pp) : Ct l yX12_isOpen cX12_isOpen 4 (some .boolean) 0 0 0 G K M [.ref (G.1 + 90), .int x1, .int x2] (some (.int pp)) K M := by
  refine z_enter (lv := [(0, .ref (G.1 + 90)), (1, .int x1), (2, .int x2)]) (by decide +kernel) (Nat.le_of_ble_eq_true rfl) rfl ?_
  intro p e s m args below meth c C hnm hs0
  replace C : CX p s m args meth c cX12_isOpen 4 (some .boolean) RX12 G := C
  unfold fX12_isOpen at hf
  refine z_iload_n C 2 2 dX12_isOpen_0 rfl rfl ?_
  refine z_aload_n C 0 0 dX12_isOpen_1 rfl rfl ?_
  refine z_getR C ok_X12 (lay_c90 hL) 19 (98) (by decide) rfl (lay_r90_19 hL) q_fl_X12_32 dX12_isOpen_2 ?_
  refine z_iload_n C 1 1 dX12_isOpen_5 rfl rfl ?_
  replace hf := gd_out hf
  obtain ⟨g1, hf⟩ := hf
  refine z_iald C (lay_c98 hL) (inb_in g1) dX12_isOpen_6 ?_
  refine z_isub C dX12_isOpen_7 ?_
  refine z_bipush C 8 dX12_isOpen_8 (by decide) ?_
  refine z_iadd C dX12_isOpen_10 ?_
  refine z_bipush C 8 dX12_isOpen_11 (by decide) ?_
  refine z_irem C (by decide) dX12_isOpen_13 ?_
  refine z_topi (fun v2 e3 => ?_)
  replace hf := bnd_out e3 hf
  refine z_istore_n C [(3, .int v2), (0, .ref (G.1 + 90)), (1, .int x1), (2, .int x2)] dX12_isOpen_14 rfl (by decide) rfl rfl ?_
  refine z_aload_n C 1 0 dX12_isOpen_15 rfl rfl ?_
  refine z_getR C ok_X12 (lay_c90 hL) 22 (101) (by decide) rfl (lay_r90_22 hL) q_fl_X12_41 dX12_isOpen_16 ?_
  refine z_iload_n C 2 1 dX12_isOpen_19 rfl rfl ?_
  replace hf := gd_out hf
  obtain ⟨g4, hf⟩ := hf
  refine z_zald C (lay_c101 hL) (inb_in g4) dX12_isOpen_20 ?_
  refine z_if_eq C 26 dX12_isOpen_21 (by decide) (fun c5 => ?_) (fun c5 => ?_)
  · replace hf := ite_t c5 hf
    refine z_aload_n C 1 0 dX12_isOpen_26 rfl rfl ?_
    refine z_getR C ok_X12 (lay_c90 hL) 17 (96) (by decide) rfl (lay_r90_17 hL) q_fl_X12_26 dX12_isOpen_27 ?_
    refine z_iload_n C 2 1 dX12_isOpen_30 rfl rfl ?_
    replace hf := gd_out hf
    obtain ⟨g6, hf⟩ := hf
    refine z_iald C (lay_c96 hL) (inb_in g6) dX12_isOpen_31 ?_
    refine z_if_eq C 75 dX12_isOpen_32 (by decide) (fun c7 => ?_) (fun c7 => ?_)
    · replace hf := ite_t c7 hf
      refine z_iconst C 1 dX12_isOpen_75 (by decide) ?_
      refine z_goto C 80 dX12_isOpen_76 (by decide) ?_
      cases hf
      exact z_zret C rfl nb1 dX12_isOpen_80
    · replace hf := ite_f c7 hf
      refine z_iload_n C 0 3 dX12_isOpen_35 rfl rfl ?_
      refine z_if_eq C 75 dX12_isOpen_36 (by decide) (fun c8 => ?_) (fun c8 => ?_)
      · replace hf := ite_t c8 hf
        refine z_iconst C 1 dX12_isOpen_75 (by decide) ?_
        refine z_goto C 80 dX12_isOpen_76 (by decide) ?_
        cases hf
        exact z_zret C rfl nb1 dX12_isOpen_80
      · replace hf := ite_f c8 hf
        refine z_aload_n C 1 0 dX12_isOpen_39 rfl rfl ?_
        refine z_getR C ok_X12 (lay_c90 hL) 17 (96) (by decide) rfl (lay_r90_17 hL) q_fl_X12_26 dX12_isOpen_40 ?_
        refine z_iload_n C 2 1 dX12_isOpen_43 rfl rfl ?_
        replace hf := gd_out hf
        obtain ⟨g9, hf⟩ := hf
        refine z_iald C (lay_c96 hL) (inb_in g9) dX12_isOpen_44 ?_
        refine z_iconst C 2 dX12_isOpen_45 (by decide) ?_
        refine z_icmp_ne C 60 dX12_isOpen_46 (by decide) (fun c10 => ?_) (fun c10 => ?_)
        · replace hf := ite_f c10 hf
          refine z_lv (lv2 := [(0, .ref (G.1 + 90)), (1, .int x1), (3, .int v2)]) [1, 2, 0] rfl ?_
          exact wX12_isOpen_j60 C hs0 hL M pp x1 v2 hf
        · replace hf := ite_t c10 hf
          refine z_iload_n C 0 3 dX12_isOpen_49 rfl rfl ?_
          refine z_iconst C 1 dX12_isOpen_50 (by decide) ?_
          refine z_icmp_eq C 75 dX12_isOpen_51 (by decide) (fun c16 => ?_) (fun c16 => ?_)
          · replace hf := ite_t c16 hf
            refine z_iconst C 1 dX12_isOpen_75 (by decide) ?_
            refine z_goto C 80 dX12_isOpen_76 (by decide) ?_
            cases hf
            exact z_zret C rfl nb1 dX12_isOpen_80
          · replace hf := ite_f c16 hf
            refine z_iload_n C 0 3 dX12_isOpen_54 rfl rfl ?_
            refine z_bipush C 7 dX12_isOpen_55 (by decide) ?_
            refine z_icmp_eq C 75 dX12_isOpen_57 (by decide) (fun c17 => ?_) (fun c17 => ?_)
            · replace hf := ite_t c17 hf
              refine z_iconst C 1 dX12_isOpen_75 (by decide) ?_
              refine z_goto C 80 dX12_isOpen_76 (by decide) ?_
              cases hf
              exact z_zret C rfl nb1 dX12_isOpen_80
            · replace hf := ite_f c17 hf
              refine z_lv (lv2 := [(0, .ref (G.1 + 90)), (1, .int x1), (3, .int v2)]) [1, 2, 0] rfl ?_
              exact wX12_isOpen_j60 C hs0 hL M pp x1 v2 hf
  · replace hf := ite_f c5 hf
    refine z_iconst C 0 dX12_isOpen_24 (by decide) ?_
    cases hf
    exact z_zret C rfl nb0 dX12_isOpen_25
set_option maxHeartbeats 4000000 in
set_option maxRecDepth 100000 in
theorem wX12_beside_j67 (C : CX p s m args meth c cX12_beside 5 (some .int) RX12 G) (hs0 : s.heap.size = G.1 + K.1) (hL : Lay K) (M : MM)  (pp : Int32)  (y13 : Int32) (y14 : Int32) (y15 : Int32) (hf : fX12_beside_j67 M y13 y14 y15 = some pp) : Z p l e (rmo 1 0 0) s m args below meth c 5 G (MQ below (QC G (some (.int pp)) K M) args s 0 0 (AG G)) K 0 0 M 67 [(0, .ref (G.1 + 90)), (3, .int y13)] [.int y15, .int y14] := by
  unfold fX12_beside_j67 at hf
  refine z_iadd C dX12_beside_67 ?_
  refine z_topi (fun v16 e17 => ?_)
  replace hf := bnd_out e17 hf
  refine z_istore C [(4, .int v16), (0, .ref (G.1 + 90)), (3, .int y13)] dX12_beside_68 (by decide) rfl rfl ?_
  refine z_iload_n C 2 3 dX12_beside_70 rfl rfl ?_
  refine z_iconst C 0 dX12_beside_71 (by decide) ?_
  refine z_aload_n C 1 0 dX12_beside_72 rfl rfl ?_
  replace hf := bd_out hf
  obtain ⟨p18, e19, hf⟩ := hf
  refine z_cV1 C [.int 0, .int y13] (tX12_wide l G hL M  _ e19) lk_X12_wide ok_X12 (lay_c90 hL) q_ml_X12_219 rfl ⟨Nat.le_of_ble_eq_true rfl, Nat.le_of_ble_eq_true rfl⟩ rfl (Nat.le_of_ble_eq_true rfl) ⟨Nat.le_refl _, Nat.le_refl _⟩ dX12_beside_73 ?_
  refine z_iconst C 1 dX12_beside_76 (by decide) ?_
  refine z_isub C dX12_beside_77 ?_
  refine z_cS1 C [] (tX12_isIn l G hL M y13 0 (p18 - 1)) lk_X12_isIn q_ml_X12_141 rfl ⟨Nat.le_of_ble_eq_true rfl, Nat.le_of_ble_eq_true rfl⟩ rfl (Nat.le_of_ble_eq_true rfl) ⟨Nat.le_refl _, Nat.le_refl _⟩ dX12_beside_78 ?_
  refine z_if_eq C 109 dX12_beside_81 (by decide) (fun c20 => ?_) (fun c20 => ?_)
  · replace hf := ite_t c20 hf
    refine z_iconst C (-1) dX12_beside_109 (by decide) ?_
    cases hf
    exact z_iret C rfl dX12_beside_110
  · replace hf := ite_f c20 hf
    refine z_iload C 0 dX12_beside_84 rfl ?_
    refine z_iconst C 0 dX12_beside_86 (by decide) ?_
    refine z_aload_n C 1 0 dX12_beside_87 rfl rfl ?_
    replace hf := bd_out hf
    obtain ⟨p21, e22, hf⟩ := hf
    refine z_cV1 C [.int 0, .int v16] (tX12_high l G hL M  _ e22) lk_X12_high ok_X12 (lay_c90 hL) q_ml_X12_222 rfl ⟨Nat.le_of_ble_eq_true rfl, Nat.le_of_ble_eq_true rfl⟩ rfl (Nat.le_of_ble_eq_true rfl) ⟨Nat.le_refl _, Nat.le_refl _⟩ dX12_beside_88 ?_
    refine z_iconst C 1 dX12_beside_91 (by decide) ?_
    refine z_isub C dX12_beside_92 ?_
    refine z_cS1 C [] (tX12_isIn l G hL M v16 0 (p21 - 1)) lk_X12_isIn q_ml_X12_141 rfl ⟨Nat.le_of_ble_eq_true rfl, Nat.le_of_ble_eq_true rfl⟩ rfl (Nat.le_of_ble_eq_true rfl) ⟨Nat.le_refl _, Nat.le_refl _⟩ dX12_beside_93 ?_
    refine z_if_eq C 109 dX12_beside_96 (by decide) (fun c23 => ?_) (fun c23 => ?_)
    · replace hf := ite_t c23 hf
      refine z_iconst C (-1) dX12_beside_109 (by decide) ?_
      cases hf
      exact z_iret C rfl dX12_beside_110
    · replace hf := ite_f c23 hf
      refine z_bipush C 8 dX12_beside_99 (by decide) ?_
      refine z_iload C 0 dX12_beside_101 rfl ?_
      refine z_imul C dX12_beside_103 ?_
      refine z_iload_n C 2 3 dX12_beside_104 rfl rfl ?_
      refine z_iadd C dX12_beside_105 ?_
      refine z_goto C 110 dX12_beside_106 (by decide) ?_
      cases hf
      exact z_iret C rfl dX12_beside_110
set_option maxHeartbeats 4000000 in
set_option maxRecDepth 100000 in
theorem wX12_beside_j62 (C : CX p s m args meth c cX12_beside 5 (some .int) RX12 G) (hs0 : s.heap.size = G.1 + K.1) (hL : Lay K) (M : MM)  (pp : Int32)  (y11 : Int32) (y12 : Int32) (hf : fX12_beside_j62 M y11 y12 = some pp) : Z p l e (rmo 1 0 0) s m args below meth c 5 G (MQ below (QC G (some (.int pp)) K M) args s 0 0 (AG G)) K 0 0 M 62 [(0, .ref (G.1 + 90)), (3, .int y11)] [.int y12] := by
  unfold fX12_beside_j62 at hf
  refine z_iconst C (-1) dX12_beside_62 (by decide) ?_
  refine z_goto C 67 dX12_beside_63 (by decide) ?_
  exact wX12_beside_j67 C hs0 hL M pp y11 y12 (-1) hf
set_option maxHeartbeats 4000000 in
set_option maxRecDepth 100000 in
theorem wX12_beside_j32 (C : CX p s m args meth c cX12_beside 5 (some .int) RX12 G) (hs0 : s.heap.size = G.1 + K.1) (hL : Lay K) (M : MM)  (pp : Int32)  (y3 : Int32) (y4 : Int32) (y5 : Int32) (y6 : Int32) (hf : fX12_beside_j32 M y3 y4 y5 y6 = some pp) : Z p l e (rmo 1 0 0) s m args below meth c 5 G (MQ below (QC G (some (.int pp)) K M) args s 0 0 (AG G)) K 0 0 M 32 [(0, .ref (G.1 + 90)), (1, .int y3), (2, .int y4)] [.int y6, .int y5] := by
  unfold fX12_beside_j32 at hf
  refine z_iadd C dX12_beside_32 ?_
  refine z_topi (fun v7 e8 => ?_)
  replace hf := bnd_out e8 hf
  refine z_istore_n C [(3, .int v7), (0, .ref (G.1 + 90)), (1, .int y3), (2, .int y4)] dX12_beside_33 rfl (by decide) rfl rfl ?_
  refine z_iload_n C 2 1 dX12_beside_34 rfl rfl ?_
  refine z_bipush C 8 dX12_beside_35 (by decide) ?_
  refine z_idiv C (by decide) dX12_beside_37 ?_
  refine z_iload_n C 3 2 dX12_beside_38 rfl rfl ?_
  refine z_iconst C 3 dX12_beside_39 (by decide) ?_
  refine z_iconst C 5 dX12_beside_40 (by decide) ?_
  refine z_cS1 C [.int (y3 / 8)] (tX12_isIn l G hL M y4 3 5) lk_X12_isIn q_ml_X12_141 rfl ⟨Nat.le_of_ble_eq_true rfl, Nat.le_of_ble_eq_true rfl⟩ rfl (Nat.le_of_ble_eq_true rfl) ⟨Nat.le_refl _, Nat.le_refl _⟩ dX12_beside_41 ?_
  refine z_if_eq C 51 dX12_beside_44 (by decide) (fun c9 => ?_) (fun c9 => ?_)
  · replace hf := ite_t c9 hf
    refine z_iload_n C 3 2 dX12_beside_51 rfl rfl ?_
    refine z_bipush C 7 dX12_beside_52 (by decide) ?_
    refine z_icmp_eq C 62 dX12_beside_54 (by decide) (fun c10 => ?_) (fun c10 => ?_)
    · replace hf := ite_t c10 hf
      refine z_lv (lv2 := [(0, .ref (G.1 + 90)), (3, .int v7)]) [1, 0] rfl ?_
      exact wX12_beside_j62 C hs0 hL M pp v7 (y3 / 8) hf
    · replace hf := ite_f c10 hf
      refine z_iload_n C 3 2 dX12_beside_57 rfl rfl ?_
      refine z_iconst C 2 dX12_beside_58 (by decide) ?_
      refine z_icmp_ge C 66 dX12_beside_59 (by decide) (fun c24 => ?_) (fun c24 => ?_)
      · replace hf := ite_t c24 hf
        refine z_iconst C 0 dX12_beside_66 (by decide) ?_
        refine z_lv (lv2 := [(0, .ref (G.1 + 90)), (3, .int v7)]) [1, 0] rfl ?_
        exact wX12_beside_j67 C hs0 hL M pp v7 (y3 / 8) 0 hf
      · replace hf := ite_f c24 hf
        refine z_lv (lv2 := [(0, .ref (G.1 + 90)), (3, .int v7)]) [1, 0] rfl ?_
        exact wX12_beside_j62 C hs0 hL M pp v7 (y3 / 8) hf
  · replace hf := ite_f c9 hf
    refine z_iconst C 1 dX12_beside_47 (by decide) ?_
    refine z_goto C 67 dX12_beside_48 (by decide) ?_
    refine z_lv (lv2 := [(0, .ref (G.1 + 90)), (3, .int v7)]) [1, 0] rfl ?_
    exact wX12_beside_j67 C hs0 hL M pp v7 (y3 / 8) 1 hf
set_option maxHeartbeats 4000000 in
set_option maxRecDepth 100000 in
theorem tX12_beside (l : Launch) (G : GG) {K : SK} (hL : Lay K) (M : MM) (x1 : Int32) (x2 : Int32) (pp : Int32) (hf : fX12_beside M x1 x2 = some pp) : Ct l yX12_beside cX12_beside 5 (some .int) 1 0 0 G K M [.ref (G.1 + 90), .int x1, .int x2] (some (.int pp)) K M := by
  refine z_enter (lv := [(0, .ref (G.1 + 90)), (1, .int x1), (2, .int x2)]) (by decide +kernel) (Nat.le_of_ble_eq_true rfl) rfl ?_
  intro p e s m args below meth c C hnm hs0
  replace C : CX p s m args meth c cX12_beside 5 (some .int) RX12 G := C
  unfold fX12_beside at hf
  refine z_iload_n C 1 1 dX12_beside_0 rfl rfl ?_
  refine z_bipush C 8 dX12_beside_1 (by decide) ?_
  refine z_irem C (by decide) dX12_beside_3 ?_
  refine z_iload_n C 2 2 dX12_beside_4 rfl rfl ?_
  refine z_iconst C 1 dX12_beside_5 (by decide) ?_
  refine z_iconst C 3 dX12_beside_6 (by decide) ?_
  refine z_cS1 C [.int (x1 - x1 / 8 * 8)] (tX12_isIn l G hL M x2 1 3) lk_X12_isIn q_ml_X12_141 rfl ⟨Nat.le_of_ble_eq_true rfl, Nat.le_of_ble_eq_true rfl⟩ rfl (Nat.le_of_ble_eq_true rfl) ⟨Nat.le_refl _, Nat.le_refl _⟩ dX12_beside_7 ?_
  refine z_if_eq C 17 dX12_beside_10 (by decide) (fun c1 => ?_) (fun c1 => ?_)
  · replace hf := ite_t c1 hf
    refine z_iload_n C 2 2 dX12_beside_17 rfl rfl ?_
    refine z_iconst C 5 dX12_beside_18 (by decide) ?_
    refine z_bipush C 7 dX12_beside_19 (by decide) ?_
    refine z_cS1 C [.int (x1 - x1 / 8 * 8)] (tX12_isIn l G hL M x2 5 7) lk_X12_isIn q_ml_X12_141 rfl ⟨Nat.le_of_ble_eq_true rfl, Nat.le_of_ble_eq_true rfl⟩ rfl (Nat.le_of_ble_eq_true rfl) ⟨Nat.le_refl _, Nat.le_refl _⟩ dX12_beside_21 ?_
    refine z_if_eq C 31 dX12_beside_24 (by decide) (fun c2 => ?_) (fun c2 => ?_)
    · replace hf := ite_t c2 hf
      refine z_iconst C 0 dX12_beside_31 (by decide) ?_
      exact wX12_beside_j32 C hs0 hL M pp x1 x2 (x1 - x1 / 8 * 8) 0 hf
    · replace hf := ite_f c2 hf
      refine z_iconst C (-1) dX12_beside_27 (by decide) ?_
      refine z_goto C 32 dX12_beside_28 (by decide) ?_
      exact wX12_beside_j32 C hs0 hL M pp x1 x2 (x1 - x1 / 8 * 8) (-1) hf
  · replace hf := ite_f c1 hf
    refine z_iconst C 1 dX12_beside_13 (by decide) ?_
    refine z_goto C 32 dX12_beside_14 (by decide) ?_
    exact wX12_beside_j32 C hs0 hL M pp x1 x2 (x1 - x1 / 8 * 8) 1 hf
set_option maxHeartbeats 4000000 in
set_option maxRecDepth 100000 in
theorem wX12_meets_l23 (C : CX p s m args meth c cX12_meets 4 (some .int) RX12 G) (hs0 : s.heap.size = G.1 + K.1) (hL : Lay K) (M : MM) (k46 : Int32 → Option Int32) (pp : Int32) (hk46 : ∀ (y10 : Int32), k46 y10 = some pp → Z p l e (rmo 2 0 0) s m args below meth c 4 G (MQ below (QC G (some (.int pp)) K M) args s 0 0 (AG G)) K 0 0 M 46 [(0, .ref (G.1 + 90)), (3, .int y10)] []) : ∀ (n : Nat) (y7 : Int32) (y8 : Int32) (hf : fX12_meets_l23 M k46 n y7 y8 = some pp), Z p l e (rmo 2 0 0) s m args below meth c 4 G (MQ below (QC G (some (.int pp)) K M) args s 0 0 (AG G)) K 0 0 M 23 [(0, .ref (G.1 + 90)), (2, .int y7), (3, .int y8)] [] := by
  intro n
  induction n with
  | zero => intro y7 y8 hf; exact nomatch (show (none : Option Int32) = some pp from hf)
  | succ n ih =>
    intro y7 y8 hf
    rw [fX12_meets_l23.eq_2] at hf
    refine z_iload_n C 2 3 dX12_meets_23 rfl rfl ?_
    refine z_iconst C (-1) dX12_meets_24 (by decide) ?_
    refine z_icmp_eq C 46 dX12_meets_25 (by decide) (fun c9 => ?_) (fun c9 => ?_)
    · replace hf := ite_t c9 hf
      refine z_lv (lv2 := [(0, .ref (G.1 + 90)), (3, .int y8)]) [0, 2] rfl ?_
      exact hk46 y8  hf
    · replace hf := ite_f c9 hf
      refine z_aload_n C 0 0 dX12_meets_28 rfl rfl ?_
      refine z_iload_n C 2 3 dX12_meets_29 rfl rfl ?_
      replace hf := bd_out hf
      obtain ⟨p11, e12, hf⟩ := hf
      refine z_cV1 C [] (tX12_on l G hL M y8 _ e12) lk_X12_on ok_X12 (lay_c90 hL) q_ml_X12_243 rfl ⟨Nat.le_of_ble_eq_true rfl, Nat.le_of_ble_eq_true rfl⟩ rfl (Nat.le_of_ble_eq_true rfl) ⟨Nat.le_refl _, Nat.le_refl _⟩ dX12_meets_30 ?_
      refine z_if_ne C 46 dX12_meets_33 (by decide) (fun c13 => ?_) (fun c13 => ?_)
      · replace hf := ite_f c13 hf
        refine z_lv (lv2 := [(0, .ref (G.1 + 90)), (3, .int y8)]) [0, 2] rfl ?_
        exact hk46 y8  hf
      · replace hf := ite_t c13 hf
        refine z_aload_n C 0 0 dX12_meets_36 rfl rfl ?_
        refine z_iload_n C 2 3 dX12_meets_37 rfl rfl ?_
        refine z_iload_n C 1 2 dX12_meets_38 rfl rfl ?_
        replace hf := bd_out hf
        obtain ⟨p14, e15, hf⟩ := hf
        refine z_cV1 C [] (tX12_beside l G hL M y8 y7 _ e15) lk_X12_beside ok_X12 (lay_c90 hL) q_ml_X12_249 rfl ⟨Nat.le_of_ble_eq_true rfl, Nat.le_of_ble_eq_true rfl⟩ rfl (Nat.le_of_ble_eq_true rfl) ⟨Nat.le_refl _, Nat.le_refl _⟩ dX12_meets_39 ?_
        refine z_istore_n C [(3, .int p14), (0, .ref (G.1 + 90)), (2, .int y7)] dX12_meets_42 rfl (by decide) rfl rfl ?_
        refine z_goto C 23 dX12_meets_43 (by decide) ?_
        refine z_lv (lv2 := [(0, .ref (G.1 + 90)), (2, .int y7), (3, .int p14)]) [1, 2, 0] rfl ?_
        exact ih y7 p14  hf
set_option maxHeartbeats 4000000 in
set_option maxRecDepth 100000 in
theorem wX12_meets_j46 (C : CX p s m args meth c cX12_meets 4 (some .int) RX12 G) (hs0 : s.heap.size = G.1 + K.1) (hL : Lay K) (M : MM)  (pp : Int32)  (y17 : Int32) (hf : fX12_meets_j46 M y17 = some pp) : Z p l e (rmo 2 0 0) s m args below meth c 4 G (MQ below (QC G (some (.int pp)) K M) args s 0 0 (AG G)) K 0 0 M 46 [(0, .ref (G.1 + 90)), (3, .int y17)] [] := by
  unfold fX12_meets_j46 at hf
  refine z_iload_n C 1 3 dX12_meets_46 rfl rfl ?_
  refine z_iconst C (-1) dX12_meets_47 (by decide) ?_
  refine z_icmp_eq C 61 dX12_meets_48 (by decide) (fun c18 => ?_) (fun c18 => ?_)
  · replace hf := ite_t c18 hf
    refine z_iconst C (-1) dX12_meets_61 (by decide) ?_
    refine z_goto C 73 dX12_meets_62 (by decide) ?_
    cases hf
    exact z_iret C rfl dX12_meets_73
  · replace hf := ite_f c18 hf
    refine z_aload_n C 0 0 dX12_meets_51 rfl rfl ?_
    refine z_iload_n C 1 3 dX12_meets_52 rfl rfl ?_
    replace hf := bd_out hf
    obtain ⟨p19, e20, hf⟩ := hf
    refine z_cV1 C [] (tX12_on l G hL M y17 _ e20) lk_X12_on ok_X12 (lay_c90 hL) q_ml_X12_243 rfl ⟨Nat.le_of_ble_eq_true rfl, Nat.le_of_ble_eq_true rfl⟩ rfl (Nat.le_of_ble_eq_true rfl) ⟨Nat.le_refl _, Nat.le_refl _⟩ dX12_meets_53 ?_
    refine z_bipush C 10 dX12_meets_56 (by decide) ?_
    refine z_icmp_ge C 65 dX12_meets_58 (by decide) (fun c21 => ?_) (fun c21 => ?_)
    · replace hf := ite_t c21 hf
      refine z_aload_n C 0 0 dX12_meets_65 rfl rfl ?_
      refine z_iload_n C 1 3 dX12_meets_66 rfl rfl ?_
      replace hf := bd_out hf
      obtain ⟨p22, e23, hf⟩ := hf
      refine z_cV1 C [] (tX12_on l G hL M y17 _ e23) lk_X12_on ok_X12 (lay_c90 hL) q_ml_X12_243 rfl ⟨Nat.le_of_ble_eq_true rfl, Nat.le_of_ble_eq_true rfl⟩ rfl (Nat.le_of_ble_eq_true rfl) ⟨Nat.le_refl _, Nat.le_refl _⟩ dX12_meets_67 ?_
      refine z_bipush C 10 dX12_meets_70 (by decide) ?_
      refine z_isub C dX12_meets_72 ?_
      cases hf
      exact z_iret C rfl dX12_meets_73
    · replace hf := ite_f c21 hf
      refine z_iconst C (-1) dX12_meets_61 (by decide) ?_
      refine z_goto C 73 dX12_meets_62 (by decide) ?_
      cases hf
      exact z_iret C rfl dX12_meets_73
set_option maxHeartbeats 4000000 in
set_option maxRecDepth 100000 in
theorem tX12_meets (l : Launch) (G : GG) {K : SK} (hL : Lay K) (M : MM) (x1 : Int32) (x2 : Int32) (pp : Int32) (hf : fX12_meets M x1 x2 = some pp) : Ct l yX12_meets cX12_meets 4 (some .int) 2 0 0 G K M [.ref (G.1 + 90), .int x1, .int x2] (some (.int pp)) K M := by
  refine z_enter (lv := [(0, .ref (G.1 + 90)), (1, .int x1), (2, .int x2)]) (by decide +kernel) (Nat.le_of_ble_eq_true rfl) rfl ?_
  intro p e s m args below meth c C hnm hs0
  replace C : CX p s m args meth c cX12_meets 4 (some .int) RX12 G := C
  unfold fX12_meets at hf
  refine z_aload_n C 0 0 dX12_meets_0 rfl rfl ?_
  refine z_iload_n C 1 1 dX12_meets_1 rfl rfl ?_
  refine z_iload_n C 2 2 dX12_meets_2 rfl rfl ?_
  replace hf := bd_out hf
  obtain ⟨p1, e2, hf⟩ := hf
  refine z_cV1 C [] (tX12_isOpen l G hL M x1 x2 _ e2) lk_X12_isOpen ok_X12 (lay_c90 hL) q_ml_X12_246 rfl ⟨Nat.le_of_ble_eq_true rfl, Nat.le_of_ble_eq_true rfl⟩ rfl (Nat.le_of_ble_eq_true rfl) ⟨Nat.le_refl _, Nat.le_refl _⟩ dX12_meets_3 ?_
  refine z_if_ne C 11 dX12_meets_6 (by decide) (fun c3 => ?_) (fun c3 => ?_)
  · replace hf := ite_f c3 hf
    refine z_aload_n C 0 0 dX12_meets_11 rfl rfl ?_
    refine z_aload_n C 0 0 dX12_meets_12 rfl rfl ?_
    refine z_getR C ok_X12 (lay_c90 hL) 18 (97) (by decide) rfl (lay_r90_18 hL) q_fl_X12_29 dX12_meets_13 ?_
    refine z_iload_n C 1 1 dX12_meets_16 rfl rfl ?_
    replace hf := gd_out hf
    obtain ⟨g4, hf⟩ := hf
    refine z_iald C (lay_c97 hL) (inb_in g4) dX12_meets_17 ?_
    refine z_iload_n C 2 2 dX12_meets_18 rfl rfl ?_
    replace hf := bd_out hf
    obtain ⟨p5, e6, hf⟩ := hf
    refine z_cV1 C [] (tX12_beside l G hL M (gI M 97 (ix x1)) x2 _ e6) lk_X12_beside ok_X12 (lay_c90 hL) q_ml_X12_249 rfl ⟨Nat.le_of_ble_eq_true rfl, Nat.le_of_ble_eq_true rfl⟩ rfl (Nat.le_of_ble_eq_true rfl) ⟨Nat.le_refl _, Nat.le_refl _⟩ dX12_meets_19 ?_
    refine z_istore_n C [(3, .int p5), (0, .ref (G.1 + 90)), (1, .int x1), (2, .int x2)] dX12_meets_22 rfl (by decide) rfl rfl ?_
    refine z_lv (lv2 := [(0, .ref (G.1 + 90)), (2, .int x2), (3, .int p5)]) [1, 3, 0] rfl ?_
    refine wX12_meets_l23 C hs0 hL M _ pp ?_ FU x2 p5 hf
    · intro y16 hf
      exact wX12_meets_j46 C hs0 hL M pp y16 hf
  · replace hf := ite_t c3 hf
    refine z_iconst C (-1) dX12_meets_9 (by decide) ?_
    cases hf
    exact z_iret C rfl dX12_meets_10
set_option maxHeartbeats 4000000 in
set_option maxRecDepth 100000 in
theorem wX12_joins_j42 (C : CX p s m args meth c cX12_joins 5 none RX12 G) (hs0 : s.heap.size = G.1 + K.1) (hL : Lay K)  (k2 : MM → Int32 → Int32 → Int32 → Option MM) (pp : MM) (hk2 : ∀ (M16 : MM) (y17 : Int32) (y18 : Int32) (y19 : Int32), k2 M16 y17 y18 y19 = some pp → Z p l e (rmo 0 0 0) s m args below meth c 5 G (MQ below (QC G none K pp) args s 0 0 (AG G)) K 0 0 M16 2 [(0, .ref (G.1 + 90)), (1, .int y17), (2, .int y18), (3, .int y19)] []) (M9 : MM) (y10 : Int32) (y11 : Int32) (y12 : Int32) (y13 : Int32) (hf : fX12_joins_j42 k2 M9 y10 y11 y12 y13 = some pp) : Z p l e (rmo 0 0 0) s m args below meth c 5 G (MQ below (QC G none K pp) args s 0 0 (AG G)) K 0 0 M9 42 [(0, .ref (G.1 + 90)), (1, .int y10), (2, .int y11), (3, .int y12)] [.int y13] := by
  unfold fX12_joins_j42 at hf
  refine z_istore C [(4, .int y13), (0, .ref (G.1 + 90)), (1, .int y10), (2, .int y11), (3, .int y12)] dX12_joins_42 (by decide) rfl rfl ?_
  refine z_iload C 0 dX12_joins_44 rfl ?_
  refine z_aload_n C 1 0 dX12_joins_46 rfl rfl ?_
  refine z_getR C ok_X12 (lay_c90 hL) 24 (102) (by decide) rfl (lay_r90_24 hL) q_fl_X12_44 dX12_joins_47 ?_
  refine z_bipush C 8 dX12_joins_50 (by decide) ?_
  refine z_iload_n C 2 1 dX12_joins_52 rfl rfl ?_
  refine z_imul C dX12_joins_53 ?_
  refine z_iload_n C 4 3 dX12_joins_54 rfl rfl ?_
  refine z_iadd C dX12_joins_55 ?_
  replace hf := gd_out hf
  obtain ⟨g14, hf⟩ := hf
  refine z_iald C (lay_c102 hL) (inb_in g14) dX12_joins_56 ?_
  refine z_icmp_ge C 73 dX12_joins_57 (by decide) (fun c15 => ?_) (fun c15 => ?_)
  · replace hf := ite_t c15 hf
    refine z_iinc C 4 (y12 + 1) [(3, .int (y12 + 1)), (4, .int y13), (0, .ref (G.1 + 90)), (1, .int y10), (2, .int y11)] dX12_joins_73 rfl rfl (by decide) rfl rfl ?_
    refine z_goto C 2 dX12_joins_76 (by decide) ?_
    refine z_lv (lv2 := [(0, .ref (G.1 + 90)), (1, .int y10), (2, .int y11), (3, .int (y12 + 1))]) [2, 3, 4, 0] rfl ?_
    exact hk2 M9 y10 y11 (y12 + 1)  hf
  · replace hf := ite_f c15 hf
    refine z_aload_n C 1 0 dX12_joins_60 rfl rfl ?_
    refine z_getR C ok_X12 (lay_c90 hL) 24 (102) (by decide) rfl (lay_r90_24 hL) q_fl_X12_44 dX12_joins_61 ?_
    refine z_bipush C 8 dX12_joins_64 (by decide) ?_
    refine z_iload_n C 2 1 dX12_joins_66 rfl rfl ?_
    refine z_imul C dX12_joins_67 ?_
    refine z_iload_n C 4 3 dX12_joins_68 rfl rfl ?_
    refine z_iadd C dX12_joins_69 ?_
    refine z_iload C 0 dX12_joins_70 rfl ?_
    replace hf := gd_out hf
    obtain ⟨g20, hf⟩ := hf
    refine z_iast C (lay_c102 hL) (inb_in g20) dX12_joins_72 ?_
    refine z_M (fun M21 e22 => ?_)
    replace hf := bnd_out e22 hf
    refine z_iinc C 4 (y12 + 1) [(3, .int (y12 + 1)), (4, .int y13), (0, .ref (G.1 + 90)), (1, .int y10), (2, .int y11)] dX12_joins_73 rfl rfl (by decide) rfl rfl ?_
    refine z_goto C 2 dX12_joins_76 (by decide) ?_
    refine z_lv (lv2 := [(0, .ref (G.1 + 90)), (1, .int y10), (2, .int y11), (3, .int (y12 + 1))]) [2, 3, 4, 0] rfl ?_
    exact hk2 M21 y10 y11 (y12 + 1)  hf
set_option maxHeartbeats 4000000 in
set_option maxRecDepth 100000 in
theorem wX12_joins_l2 (C : CX p s m args meth c cX12_joins 5 none RX12 G) (hs0 : s.heap.size = G.1 + K.1) (hL : Lay K)   (pp : MM)  : ∀ (n : Nat) (M1 : MM) (y2 : Int32) (y3 : Int32) (y4 : Int32) (hf : fX12_joins_l2 n M1 y2 y3 y4 = some pp), Z p l e (rmo 0 0 0) s m args below meth c 5 G (MQ below (QC G none K pp) args s 0 0 (AG G)) K 0 0 M1 2 [(0, .ref (G.1 + 90)), (1, .int y2), (2, .int y3), (3, .int y4)] [] := by
  intro n
  induction n with
  | zero => intro M1 y2 y3 y4 hf; exact nomatch (show (none : Option MM) = some pp from hf)
  | succ n ih =>
    intro M1 y2 y3 y4 hf
    rw [fX12_joins_l2.eq_2] at hf
    refine z_iload_n C 3 3 dX12_joins_2 rfl rfl ?_
    refine z_bipush C 8 dX12_joins_3 (by decide) ?_
    refine z_icmp_ge C 79 dX12_joins_5 (by decide) (fun c5 => ?_) (fun c5 => ?_)
    · replace hf := ite_t c5 hf
      cases hf
      exact z_vret C rfl dX12_joins_79
    · replace hf := ite_f c5 hf
      refine z_aload_n C 0 0 dX12_joins_8 rfl rfl ?_
      refine z_getR C ok_X12 (lay_c90 hL) 24 (102) (by decide) rfl (lay_r90_24 hL) q_fl_X12_44 dX12_joins_9 ?_
      refine z_bipush C 8 dX12_joins_12 (by decide) ?_
      refine z_iload_n C 2 2 dX12_joins_14 rfl rfl ?_
      refine z_imul C dX12_joins_15 ?_
      refine z_iload_n C 3 3 dX12_joins_16 rfl rfl ?_
      refine z_iadd C dX12_joins_17 ?_
      replace hf := gd_out hf
      obtain ⟨g6, hf⟩ := hf
      refine z_iald C (lay_c102 hL) (inb_in g6) dX12_joins_18 ?_
      refine z_bipush C 99 dX12_joins_19 (by decide) ?_
      refine z_icmp_ne C 29 dX12_joins_21 (by decide) (fun c7 => ?_) (fun c7 => ?_)
      · replace hf := ite_f c7 hf
        refine z_aload_n C 0 0 dX12_joins_29 rfl rfl ?_
        refine z_getR C ok_X12 (lay_c90 hL) 24 (102) (by decide) rfl (lay_r90_24 hL) q_fl_X12_44 dX12_joins_30 ?_
        refine z_bipush C 8 dX12_joins_33 (by decide) ?_
        refine z_iload_n C 2 2 dX12_joins_35 rfl rfl ?_
        refine z_imul C dX12_joins_36 ?_
        refine z_iload_n C 3 3 dX12_joins_37 rfl rfl ?_
        refine z_iadd C dX12_joins_38 ?_
        replace hf := gd_out hf
        obtain ⟨g8, hf⟩ := hf
        refine z_iald C (lay_c102 hL) (inb_in g8) dX12_joins_39 ?_
        refine z_iconst C 1 dX12_joins_40 (by decide) ?_
        refine z_iadd C dX12_joins_41 ?_
        refine wX12_joins_j42 C hs0 hL _ pp ?_ M1 y2 y3 y4 ((gI M1 102 (ix ((8 * y3) + y4))) + 1) hf
        · intro M23 y24 y25 y26 hf
          exact ih M23 y24 y25 y26  hf
      · replace hf := ite_t c7 hf
        refine z_bipush C 99 dX12_joins_24 (by decide) ?_
        refine z_goto C 42 dX12_joins_26 (by decide) ?_
        refine wX12_joins_j42 C hs0 hL _ pp ?_ M1 y2 y3 y4 99 hf
        · intro M27 y28 y29 y30 hf
          exact ih M27 y28 y29 y30  hf
set_option maxHeartbeats 4000000 in
set_option maxRecDepth 100000 in
theorem tX12_joins (l : Launch) (G : GG) {K : SK} (hL : Lay K) (M : MM) (x1 : Int32) (x2 : Int32) (pp : MM) (hf : fX12_joins M x1 x2 = some pp) : Ct l yX12_joins cX12_joins 5 none 0 0 0 G K M [.ref (G.1 + 90), .int x1, .int x2] none K pp := by
  refine z_enter (lv := [(0, .ref (G.1 + 90)), (1, .int x1), (2, .int x2)]) (by decide +kernel) (Nat.le_of_ble_eq_true rfl) rfl ?_
  intro p e s m args below meth c C hnm hs0
  replace C : CX p s m args meth c cX12_joins 5 none RX12 G := C
  unfold fX12_joins at hf
  refine z_iconst C 0 dX12_joins_0 (by decide) ?_
  refine z_istore_n C [(3, .int 0), (0, .ref (G.1 + 90)), (1, .int x1), (2, .int x2)] dX12_joins_1 rfl (by decide) rfl rfl ?_
  refine z_lv (lv2 := [(0, .ref (G.1 + 90)), (1, .int x1), (2, .int x2), (3, .int 0)]) [1, 2, 3, 0] rfl ?_
  exact wX12_joins_l2 C hs0 hL pp FU M x1 x2 0 hf
set_option maxHeartbeats 4000000 in
set_option maxRecDepth 100000 in
theorem wX12_laysOut_l2 (C : CX p s m args meth c cX12_laysOut 4 none RX12 G) (hs0 : s.heap.size = G.1 + K.1) (hL : Lay K)  (k22 : MM → Option MM) (pp : MM) (hk22 : ∀ (M4 : MM), k22 M4 = some pp → Z p l e (rmo 3 0 0) s m args below meth c 4 G (MQ below (QC G none K pp) args s 0 0 (AG G)) K 0 0 M4 22 [(0, .ref (G.1 + 90))] []) : ∀ (n : Nat) (M1 : MM) (y2 : Int32) (hf : fX12_laysOut_l2 k22 n M1 y2 = some pp), Z p l e (rmo 3 0 0) s m args below meth c 4 G (MQ below (QC G none K pp) args s 0 0 (AG G)) K 0 0 M1 2 [(0, .ref (G.1 + 90)), (1, .int y2)] [] := by
  intro n
  induction n with
  | zero => intro M1 y2 hf; exact nomatch (show (none : Option MM) = some pp from hf)
  | succ n ih =>
    intro M1 y2 hf
    rw [fX12_laysOut_l2.eq_2] at hf
    refine z_iload_n C 1 1 dX12_laysOut_2 rfl rfl ?_
    refine z_bipush C 64 dX12_laysOut_3 (by decide) ?_
    refine z_icmp_ge C 22 dX12_laysOut_5 (by decide) (fun c3 => ?_) (fun c3 => ?_)
    · replace hf := ite_t c3 hf
      refine z_lv (lv2 := [(0, .ref (G.1 + 90))]) [0] rfl ?_
      exact hk22 M1  hf
    · replace hf := ite_f c3 hf
      refine z_aload_n C 0 0 dX12_laysOut_8 rfl rfl ?_
      refine z_getR C ok_X12 (lay_c90 hL) 24 (102) (by decide) rfl (lay_r90_24 hL) q_fl_X12_44 dX12_laysOut_9 ?_
      refine z_iload_n C 1 1 dX12_laysOut_12 rfl rfl ?_
      refine z_bipush C 99 dX12_laysOut_13 (by decide) ?_
      replace hf := gd_out hf
      obtain ⟨g5, hf⟩ := hf
      refine z_iast C (lay_c102 hL) (inb_in g5) dX12_laysOut_15 ?_
      refine z_M (fun M6 e7 => ?_)
      replace hf := bnd_out e7 hf
      refine z_iinc C 1 (y2 + 1) [(1, .int (y2 + 1)), (0, .ref (G.1 + 90))] dX12_laysOut_16 rfl rfl (by decide) rfl rfl ?_
      refine z_goto C 2 dX12_laysOut_19 (by decide) ?_
      refine z_lv (lv2 := [(0, .ref (G.1 + 90)), (1, .int (y2 + 1))]) [1, 0] rfl ?_
      exact ih M6 (y2 + 1)  hf
set_option maxHeartbeats 4000000 in
set_option maxRecDepth 100000 in
theorem wX12_laysOut_j76 (C : CX p s m args meth c cX12_laysOut 4 none RX12 G) (hs0 : s.heap.size = G.1 + K.1) (hL : Lay K)  (k41 : MM → Int32 → Int32 → Option MM) (pp : MM) (hk41 : ∀ (M30 : MM) (y31 : Int32) (y32 : Int32), k41 M30 y31 y32 = some pp → Z p l e (rmo 3 0 0) s m args below meth c 4 G (MQ below (QC G none K pp) args s 0 0 (AG G)) K 0 0 M30 41 [(0, .ref (G.1 + 90)), (1, .int y31), (2, .int y32)] []) (M25 : MM) (y26 : Int32) (y27 : Int32) (y28 : Int32) (hf : fX12_laysOut_j76 k41 M25 y26 y27 y28 = some pp) : Z p l e (rmo 3 0 0) s m args below meth c 4 G (MQ below (QC G none K pp) args s 0 0 (AG G)) K 0 0 M25 76 [(0, .ref (G.1 + 90)), (1, .int y26), (2, .int y27), (3, .int y28)] [] := by
  unfold fX12_laysOut_j76 at hf
  refine z_iload_n C 3 3 dX12_laysOut_76 rfl rfl ?_
  refine z_bipush C 10 dX12_laysOut_77 (by decide) ?_
  refine z_icmp_lt C 97 dX12_laysOut_79 (by decide) (fun c29 => ?_) (fun c29 => ?_)
  · replace hf := ite_t c29 hf
    refine z_iinc C 2 (y27 + 1) [(2, .int (y27 + 1)), (0, .ref (G.1 + 90)), (1, .int y26), (3, .int y28)] dX12_laysOut_97 rfl rfl (by decide) rfl rfl ?_
    refine z_goto C 41 dX12_laysOut_100 (by decide) ?_
    refine z_lv (lv2 := [(0, .ref (G.1 + 90)), (1, .int y26), (2, .int (y27 + 1))]) [1, 2, 0] rfl ?_
    exact hk41 M25 y26 (y27 + 1)  hf
  · replace hf := ite_f c29 hf
    refine z_aload_n C 0 0 dX12_laysOut_82 rfl rfl ?_
    refine z_getR C ok_X12 (lay_c90 hL) 25 (103) (by decide) rfl (lay_r90_25 hL) q_fl_X12_47 dX12_laysOut_83 ?_
    refine z_iload_n C 1 1 dX12_laysOut_86 rfl rfl ?_
    refine z_dup2 C rfl rfl dX12_laysOut_87 ?_
    replace hf := gd_out hf
    obtain ⟨g33, hf⟩ := hf
    refine z_iald C (lay_c103 hL) (inb_in g33) dX12_laysOut_88 ?_
    refine z_iconst C 1 dX12_laysOut_89 (by decide) ?_
    refine z_iload_n C 3 3 dX12_laysOut_90 rfl rfl ?_
    refine z_bipush C 10 dX12_laysOut_91 (by decide) ?_
    refine z_isub C dX12_laysOut_93 ?_
    refine z_ishl C dX12_laysOut_94 ?_
    refine z_ior C dX12_laysOut_95 ?_
    replace hf := gd_out hf
    obtain ⟨g34, hf⟩ := hf
    refine z_iast C (lay_c103 hL) (inb_in g34) dX12_laysOut_96 ?_
    refine z_M (fun M35 e36 => ?_)
    replace hf := bnd_out e36 hf
    refine z_iinc C 2 (y27 + 1) [(2, .int (y27 + 1)), (0, .ref (G.1 + 90)), (1, .int y26), (3, .int y28)] dX12_laysOut_97 rfl rfl (by decide) rfl rfl ?_
    refine z_goto C 41 dX12_laysOut_100 (by decide) ?_
    refine z_lv (lv2 := [(0, .ref (G.1 + 90)), (1, .int y26), (2, .int (y27 + 1))]) [1, 2, 0] rfl ?_
    exact hk41 M35 y26 (y27 + 1)  hf
set_option maxHeartbeats 4000000 in
set_option maxRecDepth 100000 in
theorem wX12_laysOut_l41 (C : CX p s m args meth c cX12_laysOut 4 none RX12 G) (hs0 : s.heap.size = G.1 + K.1) (hL : Lay K)  (k103 : MM → Int32 → Option MM) (pp : MM) (hk103 : ∀ (M20 : MM) (y21 : Int32), k103 M20 y21 = some pp → Z p l e (rmo 3 0 0) s m args below meth c 4 G (MQ below (QC G none K pp) args s 0 0 (AG G)) K 0 0 M20 103 [(0, .ref (G.1 + 90)), (1, .int y21)] []) : ∀ (n : Nat) (M16 : MM) (y17 : Int32) (y18 : Int32) (hf : fX12_laysOut_l41 k103 n M16 y17 y18 = some pp), Z p l e (rmo 3 0 0) s m args below meth c 4 G (MQ below (QC G none K pp) args s 0 0 (AG G)) K 0 0 M16 41 [(0, .ref (G.1 + 90)), (1, .int y17), (2, .int y18)] [] := by
  intro n
  induction n with
  | zero => intro M16 y17 y18 hf; exact nomatch (show (none : Option MM) = some pp from hf)
  | succ n ih =>
    intro M16 y17 y18 hf
    rw [fX12_laysOut_l41.eq_2] at hf
    refine z_iload_n C 2 2 dX12_laysOut_41 rfl rfl ?_
    refine z_bipush C 8 dX12_laysOut_42 (by decide) ?_
    refine z_icmp_ge C 103 dX12_laysOut_44 (by decide) (fun c19 => ?_) (fun c19 => ?_)
    · replace hf := ite_t c19 hf
      refine z_lv (lv2 := [(0, .ref (G.1 + 90)), (1, .int y17)]) [0, 1] rfl ?_
      exact hk103 M16 y17  hf
    · replace hf := ite_f c19 hf
      refine z_aload_n C 0 0 dX12_laysOut_47 rfl rfl ?_
      refine z_iload_n C 1 1 dX12_laysOut_48 rfl rfl ?_
      refine z_iload_n C 2 2 dX12_laysOut_49 rfl rfl ?_
      replace hf := bd_out hf
      obtain ⟨p22, e23, hf⟩ := hf
      refine z_cV1 C [] (tX12_meets l G hL M16 y17 y18 _ e23) lk_X12_meets ok_X12 (lay_c90 hL) q_ml_X12_252 rfl ⟨Nat.le_of_ble_eq_true rfl, Nat.le_of_ble_eq_true rfl⟩ rfl (Nat.le_of_ble_eq_true rfl) ⟨Nat.le_refl _, Nat.le_refl _⟩ dX12_laysOut_50 ?_
      refine z_istore_n C [(3, .int p22), (0, .ref (G.1 + 90)), (1, .int y17), (2, .int y18)] dX12_laysOut_53 rfl (by decide) rfl rfl ?_
      refine z_iload_n C 0 3 dX12_laysOut_54 rfl rfl ?_
      refine z_iconst C 0 dX12_laysOut_55 (by decide) ?_
      refine z_bipush C 7 dX12_laysOut_56 (by decide) ?_
      refine z_cS1 C [] (tX12_isIn l G hL M16 p22 0 7) lk_X12_isIn q_ml_X12_141 rfl ⟨Nat.le_of_ble_eq_true rfl, Nat.le_of_ble_eq_true rfl⟩ rfl (Nat.le_of_ble_eq_true rfl) ⟨Nat.le_refl _, Nat.le_refl _⟩ dX12_laysOut_58 ?_
      refine z_if_eq C 76 dX12_laysOut_61 (by decide) (fun c24 => ?_) (fun c24 => ?_)
      · replace hf := ite_t c24 hf
        refine z_lv (lv2 := [(0, .ref (G.1 + 90)), (1, .int y17), (2, .int y18), (3, .int p22)]) [1, 2, 3, 0] rfl ?_
        refine wX12_laysOut_j76 C hs0 hL _ pp ?_ M16 y17 y18 p22 hf
        · intro M37 y38 y39 hf
          exact ih M37 y38 y39  hf
      · replace hf := ite_f c24 hf
        refine z_aload_n C 1 0 dX12_laysOut_64 rfl rfl ?_
        refine z_getR C ok_X12 (lay_c90 hL) 24 (102) (by decide) rfl (lay_r90_24 hL) q_fl_X12_44 dX12_laysOut_65 ?_
        refine z_bipush C 8 dX12_laysOut_68 (by decide) ?_
        refine z_iload_n C 2 1 dX12_laysOut_70 rfl rfl ?_
        refine z_imul C dX12_laysOut_71 ?_
        refine z_iload_n C 0 3 dX12_laysOut_72 rfl rfl ?_
        refine z_iadd C dX12_laysOut_73 ?_
        refine z_iconst C 0 dX12_laysOut_74 (by decide) ?_
        replace hf := gd_out hf
        obtain ⟨g40, hf⟩ := hf
        refine z_iast C (lay_c102 hL) (inb_in g40) dX12_laysOut_75 ?_
        refine z_M (fun M41 e42 => ?_)
        replace hf := bnd_out e42 hf
        refine z_lv (lv2 := [(0, .ref (G.1 + 90)), (1, .int y17), (2, .int y18), (3, .int p22)]) [1, 2, 3, 0] rfl ?_
        refine wX12_laysOut_j76 C hs0 hL _ pp ?_ M41 y17 y18 p22 hf
        · intro M43 y44 y45 hf
          exact ih M43 y44 y45  hf
set_option maxHeartbeats 4000000 in
set_option maxRecDepth 100000 in
theorem wX12_laysOut_l24 (C : CX p s m args meth c cX12_laysOut 4 none RX12 G) (hs0 : s.heap.size = G.1 + K.1) (hL : Lay K)  (k109 : MM → Option MM) (pp : MM) (hk109 : ∀ (M12 : MM), k109 M12 = some pp → Z p l e (rmo 3 0 0) s m args below meth c 4 G (MQ below (QC G none K pp) args s 0 0 (AG G)) K 0 0 M12 109 [(0, .ref (G.1 + 90))] []) : ∀ (n : Nat) (M9 : MM) (y10 : Int32) (hf : fX12_laysOut_l24 k109 n M9 y10 = some pp), Z p l e (rmo 3 0 0) s m args below meth c 4 G (MQ below (QC G none K pp) args s 0 0 (AG G)) K 0 0 M9 24 [(0, .ref (G.1 + 90)), (1, .int y10)] [] := by
  intro n
  induction n with
  | zero => intro M9 y10 hf; exact nomatch (show (none : Option MM) = some pp from hf)
  | succ n ih =>
    intro M9 y10 hf
    rw [fX12_laysOut_l24.eq_2] at hf
    refine z_iload_n C 1 1 dX12_laysOut_24 rfl rfl ?_
    refine z_aload_n C 0 0 dX12_laysOut_25 rfl rfl ?_
    refine z_getI C ok_X12 (lay_c90 hL) 14 (by decide) rfl q_fl_X12_216 dX12_laysOut_26 ?_
    refine z_icmp_ge C 109 dX12_laysOut_29 (by decide) (fun c11 => ?_) (fun c11 => ?_)
    · replace hf := ite_t c11 hf
      refine z_lv (lv2 := [(0, .ref (G.1 + 90))]) [0] rfl ?_
      exact hk109 M9  hf
    · replace hf := ite_f c11 hf
      refine z_aload_n C 0 0 dX12_laysOut_32 rfl rfl ?_
      refine z_getR C ok_X12 (lay_c90 hL) 25 (103) (by decide) rfl (lay_r90_25 hL) q_fl_X12_47 dX12_laysOut_33 ?_
      refine z_iload_n C 1 1 dX12_laysOut_36 rfl rfl ?_
      refine z_iconst C 0 dX12_laysOut_37 (by decide) ?_
      replace hf := gd_out hf
      obtain ⟨g13, hf⟩ := hf
      refine z_iast C (lay_c103 hL) (inb_in g13) dX12_laysOut_38 ?_
      refine z_M (fun M14 e15 => ?_)
      replace hf := bnd_out e15 hf
      refine z_iconst C 0 dX12_laysOut_39 (by decide) ?_
      refine z_istore_n C [(2, .int 0), (0, .ref (G.1 + 90)), (1, .int y10)] dX12_laysOut_40 rfl (by decide) rfl rfl ?_
      refine z_lv (lv2 := [(0, .ref (G.1 + 90)), (1, .int y10), (2, .int 0)]) [1, 2, 0] rfl ?_
      refine wX12_laysOut_l41 C hs0 hL _ pp ?_ FU M14 y10 0 hf
      · intro M46 y47 hf
        refine z_iinc C 1 (y47 + 1) [(1, .int (y47 + 1)), (0, .ref (G.1 + 90))] dX12_laysOut_103 rfl rfl (by decide) rfl rfl ?_
        refine z_goto C 24 dX12_laysOut_106 (by decide) ?_
        refine z_lv (lv2 := [(0, .ref (G.1 + 90)), (1, .int (y47 + 1))]) [1, 0] rfl ?_
        exact ih M46 (y47 + 1)  hf
set_option maxHeartbeats 4000000 in
set_option maxRecDepth 100000 in
theorem wX12_laysOut_l131 (C : CX p s m args meth c cX12_laysOut 4 none RX12 G) (hs0 : s.heap.size = G.1 + K.1) (hL : Lay K)  (k165 : MM → Int32 → Int32 → Option MM) (pp : MM) (hk165 : ∀ (M63 : MM) (y64 : Int32) (y65 : Int32), k165 M63 y64 y65 = some pp → Z p l e (rmo 3 0 0) s m args below meth c 4 G (MQ below (QC G none K pp) args s 0 0 (AG G)) K 0 0 M63 165 [(0, .ref (G.1 + 90)), (1, .int y64), (2, .int y65)] []) : ∀ (n : Nat) (M58 : MM) (y59 : Int32) (y60 : Int32) (y61 : Int32) (hf : fX12_laysOut_l131 k165 n M58 y59 y60 y61 = some pp), Z p l e (rmo 3 0 0) s m args below meth c 4 G (MQ below (QC G none K pp) args s 0 0 (AG G)) K 0 0 M58 131 [(0, .ref (G.1 + 90)), (1, .int y59), (2, .int y60), (3, .int y61)] [] := by
  intro n
  induction n with
  | zero => intro M58 y59 y60 y61 hf; exact nomatch (show (none : Option MM) = some pp from hf)
  | succ n ih =>
    intro M58 y59 y60 y61 hf
    rw [fX12_laysOut_l131.eq_2] at hf
    refine z_iload_n C 3 3 dX12_laysOut_131 rfl rfl ?_
    refine z_aload_n C 0 0 dX12_laysOut_132 rfl rfl ?_
    refine z_getI C ok_X12 (lay_c90 hL) 14 (by decide) rfl q_fl_X12_216 dX12_laysOut_133 ?_
    refine z_icmp_ge C 165 dX12_laysOut_136 (by decide) (fun c62 => ?_) (fun c62 => ?_)
    · replace hf := ite_t c62 hf
      refine z_lv (lv2 := [(0, .ref (G.1 + 90)), (1, .int y59), (2, .int y60)]) [0, 1, 2] rfl ?_
      exact hk165 M58 y59 y60  hf
    · replace hf := ite_f c62 hf
      refine z_aload_n C 0 0 dX12_laysOut_139 rfl rfl ?_
      refine z_getR C ok_X12 (lay_c90 hL) 25 (103) (by decide) rfl (lay_r90_25 hL) q_fl_X12_47 dX12_laysOut_140 ?_
      refine z_iload_n C 2 2 dX12_laysOut_143 rfl rfl ?_
      replace hf := gd_out hf
      obtain ⟨g66, hf⟩ := hf
      refine z_iald C (lay_c103 hL) (inb_in g66) dX12_laysOut_144 ?_
      refine z_iload_n C 3 3 dX12_laysOut_145 rfl rfl ?_
      refine z_ishr C dX12_laysOut_146 ?_
      refine z_iconst C 1 dX12_laysOut_147 (by decide) ?_
      refine z_iand C dX12_laysOut_148 ?_
      refine z_iconst C 1 dX12_laysOut_149 (by decide) ?_
      refine z_icmp_ne C 159 dX12_laysOut_150 (by decide) (fun c67 => ?_) (fun c67 => ?_)
      · replace hf := ite_f c67 hf
        refine z_iinc C 3 (y61 + 1) [(3, .int (y61 + 1)), (0, .ref (G.1 + 90)), (1, .int y59), (2, .int y60)] dX12_laysOut_159 rfl rfl (by decide) rfl rfl ?_
        refine z_goto C 131 dX12_laysOut_162 (by decide) ?_
        refine z_lv (lv2 := [(0, .ref (G.1 + 90)), (1, .int y59), (2, .int y60), (3, .int (y61 + 1))]) [1, 2, 3, 0] rfl ?_
        exact ih M58 y59 y60 (y61 + 1)  hf
      · replace hf := ite_t c67 hf
        refine z_aload_n C 0 0 dX12_laysOut_153 rfl rfl ?_
        refine z_iload_n C 2 2 dX12_laysOut_154 rfl rfl ?_
        refine z_iload_n C 3 3 dX12_laysOut_155 rfl rfl ?_
        replace hf := bd_out hf
        obtain ⟨p68, e69, hf⟩ := hf
        refine z_cV0 C [] (tX12_joins l G hL M58 y60 y61 _ e69) lk_X12_joins ok_X12 (lay_c90 hL) q_ml_X12_255 rfl ⟨Nat.le_of_ble_eq_true rfl, Nat.le_of_ble_eq_true rfl⟩ rfl (Nat.le_of_ble_eq_true rfl) ⟨Nat.le_refl _, Nat.le_refl _⟩ dX12_laysOut_156 ?_
        refine z_iinc C 3 (y61 + 1) [(3, .int (y61 + 1)), (0, .ref (G.1 + 90)), (1, .int y59), (2, .int y60)] dX12_laysOut_159 rfl rfl (by decide) rfl rfl ?_
        refine z_goto C 131 dX12_laysOut_162 (by decide) ?_
        refine z_lv (lv2 := [(0, .ref (G.1 + 90)), (1, .int y59), (2, .int y60), (3, .int (y61 + 1))]) [1, 2, 3, 0] rfl ?_
        exact ih p68 y59 y60 (y61 + 1)  hf
set_option maxHeartbeats 4000000 in
set_option maxRecDepth 100000 in
theorem wX12_laysOut_l121 (C : CX p s m args meth c cX12_laysOut 4 none RX12 G) (hs0 : s.heap.size = G.1 + K.1) (hL : Lay K)  (k171 : MM → Int32 → Option MM) (pp : MM) (hk171 : ∀ (M56 : MM) (y57 : Int32), k171 M56 y57 = some pp → Z p l e (rmo 3 0 0) s m args below meth c 4 G (MQ below (QC G none K pp) args s 0 0 (AG G)) K 0 0 M56 171 [(0, .ref (G.1 + 90)), (1, .int y57)] []) : ∀ (n : Nat) (M52 : MM) (y53 : Int32) (y54 : Int32) (hf : fX12_laysOut_l121 k171 n M52 y53 y54 = some pp), Z p l e (rmo 3 0 0) s m args below meth c 4 G (MQ below (QC G none K pp) args s 0 0 (AG G)) K 0 0 M52 121 [(0, .ref (G.1 + 90)), (1, .int y53), (2, .int y54)] [] := by
  intro n
  induction n with
  | zero => intro M52 y53 y54 hf; exact nomatch (show (none : Option MM) = some pp from hf)
  | succ n ih =>
    intro M52 y53 y54 hf
    rw [fX12_laysOut_l121.eq_2] at hf
    refine z_iload_n C 2 2 dX12_laysOut_121 rfl rfl ?_
    refine z_aload_n C 0 0 dX12_laysOut_122 rfl rfl ?_
    refine z_getI C ok_X12 (lay_c90 hL) 14 (by decide) rfl q_fl_X12_216 dX12_laysOut_123 ?_
    refine z_icmp_ge C 171 dX12_laysOut_126 (by decide) (fun c55 => ?_) (fun c55 => ?_)
    · replace hf := ite_t c55 hf
      refine z_lv (lv2 := [(0, .ref (G.1 + 90)), (1, .int y53)]) [0, 1] rfl ?_
      exact hk171 M52 y53  hf
    · replace hf := ite_f c55 hf
      refine z_iconst C 0 dX12_laysOut_129 (by decide) ?_
      refine z_istore_n C [(3, .int 0), (0, .ref (G.1 + 90)), (1, .int y53), (2, .int y54)] dX12_laysOut_130 rfl (by decide) rfl rfl ?_
      refine z_lv (lv2 := [(0, .ref (G.1 + 90)), (1, .int y53), (2, .int y54), (3, .int 0)]) [1, 2, 3, 0] rfl ?_
      refine wX12_laysOut_l131 C hs0 hL _ pp ?_ FU M52 y53 y54 0 hf
      · intro M70 y71 y72 hf
        refine z_iinc C 2 (y72 + 1) [(2, .int (y72 + 1)), (0, .ref (G.1 + 90)), (1, .int y71)] dX12_laysOut_165 rfl rfl (by decide) rfl rfl ?_
        refine z_goto C 121 dX12_laysOut_168 (by decide) ?_
        refine z_lv (lv2 := [(0, .ref (G.1 + 90)), (1, .int y71), (2, .int (y72 + 1))]) [1, 2, 0] rfl ?_
        exact ih M70 y71 (y72 + 1)  hf
set_option maxHeartbeats 4000000 in
set_option maxRecDepth 100000 in
theorem wX12_laysOut_l111 (C : CX p s m args meth c cX12_laysOut 4 none RX12 G) (hs0 : s.heap.size = G.1 + K.1) (hL : Lay K)   (pp : MM)  : ∀ (n : Nat) (M49 : MM) (y50 : Int32) (hf : fX12_laysOut_l111 n M49 y50 = some pp), Z p l e (rmo 3 0 0) s m args below meth c 4 G (MQ below (QC G none K pp) args s 0 0 (AG G)) K 0 0 M49 111 [(0, .ref (G.1 + 90)), (1, .int y50)] [] := by
  intro n
  induction n with
  | zero => intro M49 y50 hf; exact nomatch (show (none : Option MM) = some pp from hf)
  | succ n ih =>
    intro M49 y50 hf
    rw [fX12_laysOut_l111.eq_2] at hf
    refine z_iload_n C 1 1 dX12_laysOut_111 rfl rfl ?_
    refine z_aload_n C 0 0 dX12_laysOut_112 rfl rfl ?_
    refine z_getI C ok_X12 (lay_c90 hL) 14 (by decide) rfl q_fl_X12_216 dX12_laysOut_113 ?_
    refine z_icmp_ge C 177 dX12_laysOut_116 (by decide) (fun c51 => ?_) (fun c51 => ?_)
    · replace hf := ite_t c51 hf
      cases hf
      exact z_vret C rfl dX12_laysOut_177
    · replace hf := ite_f c51 hf
      refine z_iconst C 0 dX12_laysOut_119 (by decide) ?_
      refine z_istore_n C [(2, .int 0), (0, .ref (G.1 + 90)), (1, .int y50)] dX12_laysOut_120 rfl (by decide) rfl rfl ?_
      refine z_lv (lv2 := [(0, .ref (G.1 + 90)), (1, .int y50), (2, .int 0)]) [1, 2, 0] rfl ?_
      refine wX12_laysOut_l121 C hs0 hL _ pp ?_ FU M49 y50 0 hf
      · intro M73 y74 hf
        refine z_iinc C 1 (y74 + 1) [(1, .int (y74 + 1)), (0, .ref (G.1 + 90))] dX12_laysOut_171 rfl rfl (by decide) rfl rfl ?_
        refine z_goto C 111 dX12_laysOut_174 (by decide) ?_
        refine z_lv (lv2 := [(0, .ref (G.1 + 90)), (1, .int (y74 + 1))]) [1, 0] rfl ?_
        exact ih M73 (y74 + 1)  hf
set_option maxHeartbeats 4000000 in
set_option maxRecDepth 100000 in
theorem tX12_laysOut (l : Launch) (G : GG) {K : SK} (hL : Lay K) (M : MM)  (pp : MM) (hf : fX12_laysOut M = some pp) : Ct l yX12_laysOut cX12_laysOut 4 none 3 0 0 G K M [.ref (G.1 + 90)] none K pp := by
  refine z_enter (lv := [(0, .ref (G.1 + 90))]) (by decide +kernel) (Nat.le_of_ble_eq_true rfl) rfl ?_
  intro p e s m args below meth c C hnm hs0
  replace C : CX p s m args meth c cX12_laysOut 4 none RX12 G := C
  unfold fX12_laysOut at hf
  refine z_iconst C 0 dX12_laysOut_0 (by decide) ?_
  refine z_istore_n C [(1, .int 0), (0, .ref (G.1 + 90))] dX12_laysOut_1 rfl (by decide) rfl rfl ?_
  refine z_lv (lv2 := [(0, .ref (G.1 + 90)), (1, .int 0)]) [1, 0] rfl ?_
  refine wX12_laysOut_l2 C hs0 hL _ pp ?_ FU M 0 hf
  · intro M8 hf
    refine z_iconst C 0 dX12_laysOut_22 (by decide) ?_
    refine z_istore_n C [(1, .int 0), (0, .ref (G.1 + 90))] dX12_laysOut_23 rfl (by decide) rfl rfl ?_
    refine z_lv (lv2 := [(0, .ref (G.1 + 90)), (1, .int 0)]) [1, 0] rfl ?_
    refine wX12_laysOut_l24 C hs0 hL _ pp ?_ FU M8 0 hf
    · intro M48 hf
      refine z_iconst C 0 dX12_laysOut_109 (by decide) ?_
      refine z_istore_n C [(1, .int 0), (0, .ref (G.1 + 90))] dX12_laysOut_110 rfl (by decide) rfl rfl ?_
      refine z_lv (lv2 := [(0, .ref (G.1 + 90)), (1, .int 0)]) [1, 0] rfl ?_
      exact wX12_laysOut_l111 C hs0 hL pp FU M48 0 hf
end
