theorem dX1_begin_0 : decode cX1_begin 0 = .ok (.aload_n 0, 1) := by decide +kernel
theorem dX1_begin_1 : decode cX1_begin 1 = .ok (.iconst 0, 1) := by decide +kernel
theorem dX1_begin_2 : decode cX1_begin 2 = .ok (.putfield 23, 3) := by decide +kernel
theorem dX1_begin_5 : decode cX1_begin 5 = .ok (.aload_n 0, 1) := by decide +kernel
theorem dX1_begin_6 : decode cX1_begin 6 = .ok (.iconst (-1), 1) := by decide +kernel
theorem dX1_begin_7 : decode cX1_begin 7 = .ok (.putfield 19, 3) := by decide +kernel
theorem dX1_begin_10 : decode cX1_begin 10 = .ok (.return_, 1) := by decide +kernel
theorem dX1_offer_0 : decode cX1_offer 0 = .ok (.iload_n 3, 1) := by decide +kernel
theorem dX1_offer_1 : decode cX1_offer 1 = .ok (.ifCond .eq 19, 3) := by decide +kernel
theorem dX1_offer_4 : decode cX1_offer 4 = .ok (.iload_n 1, 1) := by decide +kernel
theorem dX1_offer_5 : decode cX1_offer 5 = .ok (.aload_n 0, 1) := by decide +kernel
theorem dX1_offer_6 : decode cX1_offer 6 = .ok (.getfield 23, 3) := by decide +kernel
theorem dX1_offer_9 : decode cX1_offer 9 = .ok (.if_icmp .ge 7, 3) := by decide +kernel
theorem dX1_offer_12 : decode cX1_offer 12 = .ok (.iconst 1, 1) := by decide +kernel
theorem dX1_offer_13 : decode cX1_offer 13 = .ok (.goto 20, 3) := by decide +kernel
theorem dX1_offer_16 : decode cX1_offer 16 = .ok (.iconst 0, 1) := by decide +kernel
theorem dX1_offer_17 : decode cX1_offer 17 = .ok (.goto 16, 3) := by decide +kernel
theorem dX1_offer_20 : decode cX1_offer 20 = .ok (.iload_n 1, 1) := by decide +kernel
theorem dX1_offer_21 : decode cX1_offer 21 = .ok (.aload_n 0, 1) := by decide +kernel
theorem dX1_offer_22 : decode cX1_offer 22 = .ok (.getfield 23, 3) := by decide +kernel
theorem dX1_offer_25 : decode cX1_offer 25 = .ok (.if_icmp .le 7, 3) := by decide +kernel
theorem dX1_offer_28 : decode cX1_offer 28 = .ok (.iconst 1, 1) := by decide +kernel
theorem dX1_offer_29 : decode cX1_offer 29 = .ok (.goto 4, 3) := by decide +kernel
theorem dX1_offer_32 : decode cX1_offer 32 = .ok (.iconst 0, 1) := by decide +kernel
theorem dX1_offer_33 : decode cX1_offer 33 = .ok (.istore 4, 2) := by decide +kernel
theorem dX1_offer_35 : decode cX1_offer 35 = .ok (.aload_n 0, 1) := by decide +kernel
theorem dX1_offer_36 : decode cX1_offer 36 = .ok (.getfield 19, 3) := by decide +kernel
theorem dX1_offer_39 : decode cX1_offer 39 = .ok (.iconst (-1), 1) := by decide +kernel
theorem dX1_offer_40 : decode cX1_offer 40 = .ok (.if_icmp .eq 9, 3) := by decide +kernel
theorem dX1_offer_43 : decode cX1_offer 43 = .ok (.iload 4, 2) := by decide +kernel
theorem dX1_offer_45 : decode cX1_offer 45 = .ok (.ifCond .ne 4, 3) := by decide +kernel
theorem dX1_offer_48 : decode cX1_offer 48 = .ok (.return_, 1) := by decide +kernel
theorem dX1_offer_49 : decode cX1_offer 49 = .ok (.aload_n 0, 1) := by decide +kernel
theorem dX1_offer_50 : decode cX1_offer 50 = .ok (.iload_n 1, 1) := by decide +kernel
theorem dX1_offer_51 : decode cX1_offer 51 = .ok (.putfield 23, 3) := by decide +kernel
theorem dX1_offer_54 : decode cX1_offer 54 = .ok (.aload_n 0, 1) := by decide +kernel
theorem dX1_offer_55 : decode cX1_offer 55 = .ok (.iload_n 2, 1) := by decide +kernel
theorem dX1_offer_56 : decode cX1_offer 56 = .ok (.putfield 19, 3) := by decide +kernel
theorem dX1_offer_59 : decode cX1_offer 59 = .ok (.return_, 1) := by decide +kernel
theorem dX1_sumWith_0 : decode cX1_sumWith 0 = .ok (.aload_n 0, 1) := by decide +kernel
theorem dX1_sumWith_1 : decode cX1_sumWith 1 = .ok (.getfield 9, 3) := by decide +kernel
theorem dX1_sumWith_4 : decode cX1_sumWith 4 = .ok (.iload_n 2, 1) := by decide +kernel
theorem dX1_sumWith_5 : decode cX1_sumWith 5 = .ok (.invokevirtual 63, 3) := by decide +kernel
theorem dX1_sumWith_8 : decode cX1_sumWith 8 = .ok (.ifCond .ne 6, 3) := by decide +kernel
theorem dX1_sumWith_11 : decode cX1_sumWith 11 = .ok (.iload 4, 2) := by decide +kernel
theorem dX1_sumWith_13 : decode cX1_sumWith 13 = .ok (.ireturn, 1) := by decide +kernel
theorem dX1_sumWith_14 : decode cX1_sumWith 14 = .ok (.aload_n 0, 1) := by decide +kernel
theorem dX1_sumWith_15 : decode cX1_sumWith 15 = .ok (.getfield 9, 3) := by decide +kernel
theorem dX1_sumWith_18 : decode cX1_sumWith 18 = .ok (.iload_n 2, 1) := by decide +kernel
theorem dX1_sumWith_19 : decode cX1_sumWith 19 = .ok (.bipush 10, 2) := by decide +kernel
theorem dX1_sumWith_21 : decode cX1_sumWith 21 = .ok (.iload_n 1, 1) := by decide +kernel
theorem dX1_sumWith_22 : decode cX1_sumWith 22 = .ok (.iadd, 1) := by decide +kernel
theorem dX1_sumWith_23 : decode cX1_sumWith 23 = .ok (.invokevirtual 39, 3) := by decide +kernel
theorem dX1_sumWith_26 : decode cX1_sumWith 26 = .ok (.aload_n 0, 1) := by decide +kernel
theorem dX1_sumWith_27 : decode cX1_sumWith 27 = .ok (.getfield 9, 3) := by decide +kernel
theorem dX1_sumWith_30 : decode cX1_sumWith 30 = .ok (.aload_n 3, 1) := by decide +kernel
theorem dX1_sumWith_31 : decode cX1_sumWith 31 = .ok (.invokevirtual 43, 3) := by decide +kernel
theorem dX1_sumWith_34 : decode cX1_sumWith 34 = .ok (.istore 5, 2) := by decide +kernel
theorem dX1_sumWith_36 : decode cX1_sumWith 36 = .ok (.aload_n 0, 1) := by decide +kernel
theorem dX1_sumWith_37 : decode cX1_sumWith 37 = .ok (.getfield 9, 3) := by decide +kernel
theorem dX1_sumWith_40 : decode cX1_sumWith 40 = .ok (.iload_n 2, 1) := by decide +kernel
theorem dX1_sumWith_41 : decode cX1_sumWith 41 = .ok (.iconst 0, 1) := by decide +kernel
theorem dX1_sumWith_42 : decode cX1_sumWith 42 = .ok (.invokevirtual 39, 3) := by decide +kernel
theorem dX1_sumWith_45 : decode cX1_sumWith 45 = .ok (.iload 5, 2) := by decide +kernel
theorem dX1_sumWith_47 : decode cX1_sumWith 47 = .ok (.ireturn, 1) := by decide +kernel
theorem dX1_placeOne_0 : decode cX1_placeOne 0 = .ok (.aload_n 0, 1) := by decide +kernel
theorem dX1_placeOne_1 : decode cX1_placeOne 1 = .ok (.getfield 9, 3) := by decide +kernel
theorem dX1_placeOne_4 : decode cX1_placeOne 4 = .ok (.aload_n 1, 1) := by decide +kernel
theorem dX1_placeOne_5 : decode cX1_placeOne 5 = .ok (.invokevirtual 26, 3) := by decide +kernel
theorem dX1_placeOne_8 : decode cX1_placeOne 8 = .ok (.aload_n 0, 1) := by decide +kernel
theorem dX1_placeOne_9 : decode cX1_placeOne 9 = .ok (.invokevirtual 32, 3) := by decide +kernel
theorem dX1_placeOne_12 : decode cX1_placeOne 12 = .ok (.aload_n 0, 1) := by decide +kernel
theorem dX1_placeOne_13 : decode cX1_placeOne 13 = .ok (.getfield 9, 3) := by decide +kernel
theorem dX1_placeOne_16 : decode cX1_placeOne 16 = .ok (.aload_n 1, 1) := by decide +kernel
theorem dX1_placeOne_17 : decode cX1_placeOne 17 = .ok (.getfield 34, 3) := by decide +kernel
theorem dX1_placeOne_20 : decode cX1_placeOne 20 = .ok (.iload_n 3, 1) := by decide +kernel
theorem dX1_placeOne_21 : decode cX1_placeOne 21 = .ok (.iaload, 1) := by decide +kernel
theorem dX1_placeOne_22 : decode cX1_placeOne 22 = .ok (.iconst 0, 1) := by decide +kernel
theorem dX1_placeOne_23 : decode cX1_placeOne 23 = .ok (.invokevirtual 39, 3) := by decide +kernel
theorem dX1_placeOne_26 : decode cX1_placeOne 26 = .ok (.aload_n 0, 1) := by decide +kernel
theorem dX1_placeOne_27 : decode cX1_placeOne 27 = .ok (.getfield 9, 3) := by decide +kernel
theorem dX1_placeOne_30 : decode cX1_placeOne 30 = .ok (.aload_n 2, 1) := by decide +kernel
theorem dX1_placeOne_31 : decode cX1_placeOne 31 = .ok (.invokevirtual 43, 3) := by decide +kernel
theorem dX1_placeOne_34 : decode cX1_placeOne 34 = .ok (.istore 5, 2) := by decide +kernel
theorem dX1_placeOne_36 : decode cX1_placeOne 36 = .ok (.iconst 0, 1) := by decide +kernel
theorem dX1_placeOne_37 : decode cX1_placeOne 37 = .ok (.istore 6, 2) := by decide +kernel
theorem dX1_placeOne_39 : decode cX1_placeOne 39 = .ok (.iload 6, 2) := by decide +kernel
theorem dX1_placeOne_41 : decode cX1_placeOne 41 = .ok (.aload_n 0, 1) := by decide +kernel
theorem dX1_placeOne_42 : decode cX1_placeOne 42 = .ok (.getfield 9, 3) := by decide +kernel
theorem dX1_placeOne_45 : decode cX1_placeOne 45 = .ok (.invokevirtual 47, 3) := by decide +kernel
theorem dX1_placeOne_48 : decode cX1_placeOne 48 = .ok (.if_icmp .ge 42, 3) := by decide +kernel
theorem dX1_placeOne_51 : decode cX1_placeOne 51 = .ok (.aload_n 0, 1) := by decide +kernel
theorem dX1_placeOne_52 : decode cX1_placeOne 52 = .ok (.getfield 9, 3) := by decide +kernel
theorem dX1_placeOne_55 : decode cX1_placeOne 55 = .ok (.iload 6, 2) := by decide +kernel
theorem dX1_placeOne_57 : decode cX1_placeOne 57 = .ok (.invokevirtual 51, 3) := by decide +kernel
theorem dX1_placeOne_60 : decode cX1_placeOne 60 = .ok (.ifCond .ne 6, 3) := by decide +kernel
theorem dX1_placeOne_63 : decode cX1_placeOne 63 = .ok (.goto 21, 3) := by decide +kernel
theorem dX1_placeOne_66 : decode cX1_placeOne 66 = .ok (.aload_n 0, 1) := by decide +kernel
theorem dX1_placeOne_67 : decode cX1_placeOne 67 = .ok (.aload_n 0, 1) := by decide +kernel
theorem dX1_placeOne_68 : decode cX1_placeOne 68 = .ok (.iload_n 3, 1) := by decide +kernel
theorem dX1_placeOne_69 : decode cX1_placeOne 69 = .ok (.iload 6, 2) := by decide +kernel
theorem dX1_placeOne_71 : decode cX1_placeOne 71 = .ok (.aload_n 2, 1) := by decide +kernel
theorem dX1_placeOne_72 : decode cX1_placeOne 72 = .ok (.iload 5, 2) := by decide +kernel
theorem dX1_placeOne_74 : decode cX1_placeOne 74 = .ok (.invokevirtual 55, 3) := by decide +kernel
theorem dX1_placeOne_77 : decode cX1_placeOne 77 = .ok (.iload 6, 2) := by decide +kernel
theorem dX1_placeOne_79 : decode cX1_placeOne 79 = .ok (.iload 4, 2) := by decide +kernel
theorem dX1_placeOne_81 : decode cX1_placeOne 81 = .ok (.invokevirtual 59, 3) := by decide +kernel
theorem dX1_placeOne_84 : decode cX1_placeOne 84 = .ok (.iinc 6 1, 3) := by decide +kernel
theorem dX1_placeOne_87 : decode cX1_placeOne 87 = .ok (.goto (-48), 3) := by decide +kernel
theorem dX1_placeOne_90 : decode cX1_placeOne 90 = .ok (.return_, 1) := by decide +kernel
theorem dX1_placeTwo_0 : decode cX1_placeTwo 0 = .ok (.aload_n 0, 1) := by decide +kernel
theorem dX1_placeTwo_1 : decode cX1_placeTwo 1 = .ok (.getfield 9, 3) := by decide +kernel
theorem dX1_placeTwo_4 : decode cX1_placeTwo 4 = .ok (.aload_n 1, 1) := by decide +kernel
theorem dX1_placeTwo_5 : decode cX1_placeTwo 5 = .ok (.invokevirtual 26, 3) := by decide +kernel
theorem dX1_placeTwo_8 : decode cX1_placeTwo 8 = .ok (.aload_n 0, 1) := by decide +kernel
theorem dX1_placeTwo_9 : decode cX1_placeTwo 9 = .ok (.invokevirtual 32, 3) := by decide +kernel
theorem dX1_placeTwo_12 : decode cX1_placeTwo 12 = .ok (.aload_n 0, 1) := by decide +kernel
theorem dX1_placeTwo_13 : decode cX1_placeTwo 13 = .ok (.getfield 9, 3) := by decide +kernel
theorem dX1_placeTwo_16 : decode cX1_placeTwo 16 = .ok (.aload_n 1, 1) := by decide +kernel
theorem dX1_placeTwo_17 : decode cX1_placeTwo 17 = .ok (.getfield 34, 3) := by decide +kernel
theorem dX1_placeTwo_20 : decode cX1_placeTwo 20 = .ok (.iload_n 3, 1) := by decide +kernel
theorem dX1_placeTwo_21 : decode cX1_placeTwo 21 = .ok (.iaload, 1) := by decide +kernel
theorem dX1_placeTwo_22 : decode cX1_placeTwo 22 = .ok (.iconst 0, 1) := by decide +kernel
theorem dX1_placeTwo_23 : decode cX1_placeTwo 23 = .ok (.invokevirtual 39, 3) := by decide +kernel
theorem dX1_placeTwo_26 : decode cX1_placeTwo 26 = .ok (.aload_n 0, 1) := by decide +kernel
theorem dX1_placeTwo_27 : decode cX1_placeTwo 27 = .ok (.getfield 9, 3) := by decide +kernel
theorem dX1_placeTwo_30 : decode cX1_placeTwo 30 = .ok (.aload_n 1, 1) := by decide +kernel
theorem dX1_placeTwo_31 : decode cX1_placeTwo 31 = .ok (.getfield 34, 3) := by decide +kernel
theorem dX1_placeTwo_34 : decode cX1_placeTwo 34 = .ok (.iload 4, 2) := by decide +kernel
theorem dX1_placeTwo_36 : decode cX1_placeTwo 36 = .ok (.iaload, 1) := by decide +kernel
theorem dX1_placeTwo_37 : decode cX1_placeTwo 37 = .ok (.iconst 0, 1) := by decide +kernel
theorem dX1_placeTwo_38 : decode cX1_placeTwo 38 = .ok (.invokevirtual 39, 3) := by decide +kernel
theorem dX1_placeTwo_41 : decode cX1_placeTwo 41 = .ok (.iconst 0, 1) := by decide +kernel
theorem dX1_placeTwo_42 : decode cX1_placeTwo 42 = .ok (.istore 5, 2) := by decide +kernel
theorem dX1_placeTwo_44 : decode cX1_placeTwo 44 = .ok (.iload 5, 2) := by decide +kernel
theorem dX1_placeTwo_46 : decode cX1_placeTwo 46 = .ok (.aload_n 0, 1) := by decide +kernel
theorem dX1_placeTwo_47 : decode cX1_placeTwo 47 = .ok (.getfield 9, 3) := by decide +kernel
theorem dX1_placeTwo_50 : decode cX1_placeTwo 50 = .ok (.invokevirtual 47, 3) := by decide +kernel
theorem dX1_placeTwo_53 : decode cX1_placeTwo 53 = .ok (.if_icmp .ge 117, 3) := by decide +kernel
theorem dX1_placeTwo_56 : decode cX1_placeTwo 56 = .ok (.aload_n 0, 1) := by decide +kernel
theorem dX1_placeTwo_57 : decode cX1_placeTwo 57 = .ok (.getfield 9, 3) := by decide +kernel
theorem dX1_placeTwo_60 : decode cX1_placeTwo 60 = .ok (.iload 5, 2) := by decide +kernel
theorem dX1_placeTwo_62 : decode cX1_placeTwo 62 = .ok (.invokevirtual 51, 3) := by decide +kernel
theorem dX1_placeTwo_65 : decode cX1_placeTwo 65 = .ok (.ifCond .ne 6, 3) := by decide +kernel
theorem dX1_placeTwo_68 : decode cX1_placeTwo 68 = .ok (.goto 96, 3) := by decide +kernel
theorem dX1_placeTwo_71 : decode cX1_placeTwo 71 = .ok (.aload_n 0, 1) := by decide +kernel
theorem dX1_placeTwo_72 : decode cX1_placeTwo 72 = .ok (.getfield 9, 3) := by decide +kernel
theorem dX1_placeTwo_75 : decode cX1_placeTwo 75 = .ok (.iload 5, 2) := by decide +kernel
theorem dX1_placeTwo_77 : decode cX1_placeTwo 77 = .ok (.bipush 10, 2) := by decide +kernel
theorem dX1_placeTwo_79 : decode cX1_placeTwo 79 = .ok (.iload_n 3, 1) := by decide +kernel
theorem dX1_placeTwo_80 : decode cX1_placeTwo 80 = .ok (.iadd, 1) := by decide +kernel
theorem dX1_placeTwo_81 : decode cX1_placeTwo 81 = .ok (.invokevirtual 39, 3) := by decide +kernel
theorem dX1_placeTwo_84 : decode cX1_placeTwo 84 = .ok (.aload_n 0, 1) := by decide +kernel
theorem dX1_placeTwo_85 : decode cX1_placeTwo 85 = .ok (.getfield 9, 3) := by decide +kernel
theorem dX1_placeTwo_88 : decode cX1_placeTwo 88 = .ok (.aload_n 2, 1) := by decide +kernel
theorem dX1_placeTwo_89 : decode cX1_placeTwo 89 = .ok (.invokevirtual 43, 3) := by decide +kernel
theorem dX1_placeTwo_92 : decode cX1_placeTwo 92 = .ok (.istore 6, 2) := by decide +kernel
theorem dX1_placeTwo_94 : decode cX1_placeTwo 94 = .ok (.iconst 0, 1) := by decide +kernel
theorem dX1_placeTwo_95 : decode cX1_placeTwo 95 = .ok (.istore 7, 2) := by decide +kernel
theorem dX1_placeTwo_97 : decode cX1_placeTwo 97 = .ok (.iload 7, 2) := by decide +kernel
theorem dX1_placeTwo_99 : decode cX1_placeTwo 99 = .ok (.aload_n 0, 1) := by decide +kernel
theorem dX1_placeTwo_100 : decode cX1_placeTwo 100 = .ok (.getfield 9, 3) := by decide +kernel
theorem dX1_placeTwo_103 : decode cX1_placeTwo 103 = .ok (.invokevirtual 47, 3) := by decide +kernel
theorem dX1_placeTwo_106 : decode cX1_placeTwo 106 = .ok (.if_icmp .ge 48, 3) := by decide +kernel
theorem dX1_placeTwo_109 : decode cX1_placeTwo 109 = .ok (.aload_n 0, 1) := by decide +kernel
theorem dX1_placeTwo_110 : decode cX1_placeTwo 110 = .ok (.getfield 9, 3) := by decide +kernel
theorem dX1_placeTwo_113 : decode cX1_placeTwo 113 = .ok (.iload 7, 2) := by decide +kernel
theorem dX1_placeTwo_115 : decode cX1_placeTwo 115 = .ok (.invokevirtual 51, 3) := by decide +kernel
theorem dX1_placeTwo_118 : decode cX1_placeTwo 118 = .ok (.ifCond .ne 6, 3) := by decide +kernel
theorem dX1_placeTwo_121 : decode cX1_placeTwo 121 = .ok (.goto 27, 3) := by decide +kernel
theorem dX1_placeTwo_124 : decode cX1_placeTwo 124 = .ok (.aload_n 0, 1) := by decide +kernel
theorem dX1_placeTwo_125 : decode cX1_placeTwo 125 = .ok (.aload_n 0, 1) := by decide +kernel
theorem dX1_placeTwo_126 : decode cX1_placeTwo 126 = .ok (.iload 4, 2) := by decide +kernel
theorem dX1_placeTwo_128 : decode cX1_placeTwo 128 = .ok (.iload 7, 2) := by decide +kernel
theorem dX1_placeTwo_130 : decode cX1_placeTwo 130 = .ok (.aload_n 2, 1) := by decide +kernel
theorem dX1_placeTwo_131 : decode cX1_placeTwo 131 = .ok (.iload 6, 2) := by decide +kernel
theorem dX1_placeTwo_133 : decode cX1_placeTwo 133 = .ok (.invokevirtual 55, 3) := by decide +kernel
theorem dX1_placeTwo_136 : decode cX1_placeTwo 136 = .ok (.bipush 64, 2) := by decide +kernel
theorem dX1_placeTwo_138 : decode cX1_placeTwo 138 = .ok (.iload 5, 2) := by decide +kernel
theorem dX1_placeTwo_140 : decode cX1_placeTwo 140 = .ok (.imul, 1) := by decide +kernel
theorem dX1_placeTwo_141 : decode cX1_placeTwo 141 = .ok (.iload 7, 2) := by decide +kernel
theorem dX1_placeTwo_143 : decode cX1_placeTwo 143 = .ok (.iadd, 1) := by decide +kernel
theorem dX1_placeTwo_144 : decode cX1_placeTwo 144 = .ok (.iconst 0, 1) := by decide +kernel
theorem dX1_placeTwo_145 : decode cX1_placeTwo 145 = .ok (.invokevirtual 59, 3) := by decide +kernel
theorem dX1_placeTwo_148 : decode cX1_placeTwo 148 = .ok (.iinc 7 1, 3) := by decide +kernel
theorem dX1_placeTwo_151 : decode cX1_placeTwo 151 = .ok (.goto (-54), 3) := by decide +kernel
theorem dX1_placeTwo_154 : decode cX1_placeTwo 154 = .ok (.aload_n 0, 1) := by decide +kernel
theorem dX1_placeTwo_155 : decode cX1_placeTwo 155 = .ok (.getfield 9, 3) := by decide +kernel
theorem dX1_placeTwo_158 : decode cX1_placeTwo 158 = .ok (.iload 5, 2) := by decide +kernel
theorem dX1_placeTwo_160 : decode cX1_placeTwo 160 = .ok (.iconst 0, 1) := by decide +kernel
theorem dX1_placeTwo_161 : decode cX1_placeTwo 161 = .ok (.invokevirtual 39, 3) := by decide +kernel
theorem dX1_placeTwo_164 : decode cX1_placeTwo 164 = .ok (.iinc 5 1, 3) := by decide +kernel
theorem dX1_placeTwo_167 : decode cX1_placeTwo 167 = .ok (.goto (-123), 3) := by decide +kernel
theorem dX1_placeTwo_170 : decode cX1_placeTwo 170 = .ok (.return_, 1) := by decide +kernel
theorem dX1_turnOne_0 : decode cX1_turnOne 0 = .ok (.aload_n 0, 1) := by decide +kernel
theorem dX1_turnOne_1 : decode cX1_turnOne 1 = .ok (.getfield 9, 3) := by decide +kernel
theorem dX1_turnOne_4 : decode cX1_turnOne 4 = .ok (.aload_n 1, 1) := by decide +kernel
theorem dX1_turnOne_5 : decode cX1_turnOne 5 = .ok (.invokevirtual 26, 3) := by decide +kernel
theorem dX1_turnOne_8 : decode cX1_turnOne 8 = .ok (.aload_n 0, 1) := by decide +kernel
theorem dX1_turnOne_9 : decode cX1_turnOne 9 = .ok (.invokevirtual 32, 3) := by decide +kernel
theorem dX1_turnOne_12 : decode cX1_turnOne 12 = .ok (.iconst 0, 1) := by decide +kernel
theorem dX1_turnOne_13 : decode cX1_turnOne 13 = .ok (.istore 4, 2) := by decide +kernel
theorem dX1_turnOne_15 : decode cX1_turnOne 15 = .ok (.iload 4, 2) := by decide +kernel
theorem dX1_turnOne_17 : decode cX1_turnOne 17 = .ok (.bipush 8, 2) := by decide +kernel
theorem dX1_turnOne_19 : decode cX1_turnOne 19 = .ok (.if_icmp .ge 34, 3) := by decide +kernel
theorem dX1_turnOne_22 : decode cX1_turnOne 22 = .ok (.aload_n 0, 1) := by decide +kernel
theorem dX1_turnOne_23 : decode cX1_turnOne 23 = .ok (.getfield 9, 3) := by decide +kernel
theorem dX1_turnOne_26 : decode cX1_turnOne 26 = .ok (.iload_n 3, 1) := by decide +kernel
theorem dX1_turnOne_27 : decode cX1_turnOne 27 = .ok (.iload 4, 2) := by decide +kernel
theorem dX1_turnOne_29 : decode cX1_turnOne 29 = .ok (.invokevirtual 66, 3) := by decide +kernel
theorem dX1_turnOne_32 : decode cX1_turnOne 32 = .ok (.aload_n 0, 1) := by decide +kernel
theorem dX1_turnOne_33 : decode cX1_turnOne 33 = .ok (.aload_n 0, 1) := by decide +kernel
theorem dX1_turnOne_34 : decode cX1_turnOne 34 = .ok (.getfield 9, 3) := by decide +kernel
theorem dX1_turnOne_37 : decode cX1_turnOne 37 = .ok (.aload_n 2, 1) := by decide +kernel
theorem dX1_turnOne_38 : decode cX1_turnOne 38 = .ok (.invokevirtual 43, 3) := by decide +kernel
theorem dX1_turnOne_41 : decode cX1_turnOne 41 = .ok (.iload 4, 2) := by decide +kernel
theorem dX1_turnOne_43 : decode cX1_turnOne 43 = .ok (.iconst 0, 1) := by decide +kernel
theorem dX1_turnOne_44 : decode cX1_turnOne 44 = .ok (.invokevirtual 59, 3) := by decide +kernel
theorem dX1_turnOne_47 : decode cX1_turnOne 47 = .ok (.iinc 4 1, 3) := by decide +kernel
theorem dX1_turnOne_50 : decode cX1_turnOne 50 = .ok (.goto (-35), 3) := by decide +kernel
theorem dX1_turnOne_53 : decode cX1_turnOne 53 = .ok (.return_, 1) := by decide +kernel
theorem dX1_addSpoon_0 : decode cX1_addSpoon 0 = .ok (.aload_n 0, 1) := by decide +kernel
theorem dX1_addSpoon_1 : decode cX1_addSpoon 1 = .ok (.getfield 9, 3) := by decide +kernel
theorem dX1_addSpoon_4 : decode cX1_addSpoon 4 = .ok (.aload_n 1, 1) := by decide +kernel
theorem dX1_addSpoon_5 : decode cX1_addSpoon 5 = .ok (.invokevirtual 26, 3) := by decide +kernel
theorem dX1_addSpoon_8 : decode cX1_addSpoon 8 = .ok (.aload_n 0, 1) := by decide +kernel
theorem dX1_addSpoon_9 : decode cX1_addSpoon 9 = .ok (.invokevirtual 32, 3) := by decide +kernel
theorem dX1_addSpoon_12 : decode cX1_addSpoon 12 = .ok (.aload_n 0, 1) := by decide +kernel
theorem dX1_addSpoon_13 : decode cX1_addSpoon 13 = .ok (.getfield 9, 3) := by decide +kernel
theorem dX1_addSpoon_16 : decode cX1_addSpoon 16 = .ok (.iload_n 3, 1) := by decide +kernel
theorem dX1_addSpoon_17 : decode cX1_addSpoon 17 = .ok (.invokevirtual 69, 3) := by decide +kernel
theorem dX1_addSpoon_20 : decode cX1_addSpoon 20 = .ok (.istore 4, 2) := by decide +kernel
theorem dX1_addSpoon_22 : decode cX1_addSpoon 22 = .ok (.iload 4, 2) := by decide +kernel
theorem dX1_addSpoon_24 : decode cX1_addSpoon 24 = .ok (.iconst (-1), 1) := by decide +kernel
theorem dX1_addSpoon_25 : decode cX1_addSpoon 25 = .ok (.if_icmp .ne 4, 3) := by decide +kernel
theorem dX1_addSpoon_28 : decode cX1_addSpoon 28 = .ok (.return_, 1) := by decide +kernel
theorem dX1_addSpoon_29 : decode cX1_addSpoon 29 = .ok (.iconst 0, 1) := by decide +kernel
theorem dX1_addSpoon_30 : decode cX1_addSpoon 30 = .ok (.istore 5, 2) := by decide +kernel
theorem dX1_addSpoon_32 : decode cX1_addSpoon 32 = .ok (.iload 5, 2) := by decide +kernel
theorem dX1_addSpoon_34 : decode cX1_addSpoon 34 = .ok (.aload_n 0, 1) := by decide +kernel
theorem dX1_addSpoon_35 : decode cX1_addSpoon 35 = .ok (.getfield 9, 3) := by decide +kernel
theorem dX1_addSpoon_38 : decode cX1_addSpoon 38 = .ok (.invokevirtual 47, 3) := by decide +kernel
theorem dX1_addSpoon_41 : decode cX1_addSpoon 41 = .ok (.if_icmp .ge 112, 3) := by decide +kernel
theorem dX1_addSpoon_44 : decode cX1_addSpoon 44 = .ok (.aload_n 0, 1) := by decide +kernel
theorem dX1_addSpoon_45 : decode cX1_addSpoon 45 = .ok (.getfield 9, 3) := by decide +kernel
theorem dX1_addSpoon_48 : decode cX1_addSpoon 48 = .ok (.iload 5, 2) := by decide +kernel
theorem dX1_addSpoon_50 : decode cX1_addSpoon 50 = .ok (.invokevirtual 51, 3) := by decide +kernel
theorem dX1_addSpoon_53 : decode cX1_addSpoon 53 = .ok (.ifCond .ne 6, 3) := by decide +kernel
theorem dX1_addSpoon_56 : decode cX1_addSpoon 56 = .ok (.goto 91, 3) := by decide +kernel
theorem dX1_addSpoon_59 : decode cX1_addSpoon 59 = .ok (.aload_n 0, 1) := by decide +kernel
theorem dX1_addSpoon_60 : decode cX1_addSpoon 60 = .ok (.getfield 9, 3) := by decide +kernel
theorem dX1_addSpoon_63 : decode cX1_addSpoon 63 = .ok (.getfield 73, 3) := by decide +kernel
theorem dX1_addSpoon_66 : decode cX1_addSpoon 66 = .ok (.getfield 77, 3) := by decide +kernel
theorem dX1_addSpoon_69 : decode cX1_addSpoon 69 = .ok (.iload 4, 2) := by decide +kernel
theorem dX1_addSpoon_71 : decode cX1_addSpoon 71 = .ok (.iload 5, 2) := by decide +kernel
theorem dX1_addSpoon_73 : decode cX1_addSpoon 73 = .ok (.iastore, 1) := by decide +kernel
theorem dX1_addSpoon_74 : decode cX1_addSpoon 74 = .ok (.aload_n 0, 1) := by decide +kernel
theorem dX1_addSpoon_75 : decode cX1_addSpoon 75 = .ok (.getfield 9, 3) := by decide +kernel
theorem dX1_addSpoon_78 : decode cX1_addSpoon 78 = .ok (.iload 5, 2) := by decide +kernel
theorem dX1_addSpoon_80 : decode cX1_addSpoon 80 = .ok (.bipush 20, 2) := by decide +kernel
theorem dX1_addSpoon_82 : decode cX1_addSpoon 82 = .ok (.iload 4, 2) := by decide +kernel
theorem dX1_addSpoon_84 : decode cX1_addSpoon 84 = .ok (.iadd, 1) := by decide +kernel
theorem dX1_addSpoon_85 : decode cX1_addSpoon 85 = .ok (.invokevirtual 39, 3) := by decide +kernel
theorem dX1_addSpoon_88 : decode cX1_addSpoon 88 = .ok (.iconst 0, 1) := by decide +kernel
theorem dX1_addSpoon_89 : decode cX1_addSpoon 89 = .ok (.istore 6, 2) := by decide +kernel
theorem dX1_addSpoon_91 : decode cX1_addSpoon 91 = .ok (.iload 6, 2) := by decide +kernel
theorem dX1_addSpoon_93 : decode cX1_addSpoon 93 = .ok (.bipush 8, 2) := by decide +kernel
theorem dX1_addSpoon_95 : decode cX1_addSpoon 95 = .ok (.if_icmp .ge 42, 3) := by decide +kernel
theorem dX1_addSpoon_98 : decode cX1_addSpoon 98 = .ok (.aload_n 0, 1) := by decide +kernel
theorem dX1_addSpoon_99 : decode cX1_addSpoon 99 = .ok (.getfield 9, 3) := by decide +kernel
theorem dX1_addSpoon_102 : decode cX1_addSpoon 102 = .ok (.iload 4, 2) := by decide +kernel
theorem dX1_addSpoon_104 : decode cX1_addSpoon 104 = .ok (.iload 6, 2) := by decide +kernel
theorem dX1_addSpoon_106 : decode cX1_addSpoon 106 = .ok (.invokevirtual 66, 3) := by decide +kernel
theorem dX1_addSpoon_109 : decode cX1_addSpoon 109 = .ok (.aload_n 0, 1) := by decide +kernel
theorem dX1_addSpoon_110 : decode cX1_addSpoon 110 = .ok (.aload_n 0, 1) := by decide +kernel
theorem dX1_addSpoon_111 : decode cX1_addSpoon 111 = .ok (.getfield 9, 3) := by decide +kernel
theorem dX1_addSpoon_114 : decode cX1_addSpoon 114 = .ok (.iload_n 3, 1) := by decide +kernel
theorem dX1_addSpoon_115 : decode cX1_addSpoon 115 = .ok (.aload_n 2, 1) := by decide +kernel
theorem dX1_addSpoon_116 : decode cX1_addSpoon 116 = .ok (.invokevirtual 80, 3) := by decide +kernel
theorem dX1_addSpoon_119 : decode cX1_addSpoon 119 = .ok (.bipush 8, 2) := by decide +kernel
theorem dX1_addSpoon_121 : decode cX1_addSpoon 121 = .ok (.iload 5, 2) := by decide +kernel
theorem dX1_addSpoon_123 : decode cX1_addSpoon 123 = .ok (.imul, 1) := by decide +kernel
theorem dX1_addSpoon_124 : decode cX1_addSpoon 124 = .ok (.iload 6, 2) := by decide +kernel
theorem dX1_addSpoon_126 : decode cX1_addSpoon 126 = .ok (.iadd, 1) := by decide +kernel
theorem dX1_addSpoon_127 : decode cX1_addSpoon 127 = .ok (.iconst 0, 1) := by decide +kernel
theorem dX1_addSpoon_128 : decode cX1_addSpoon 128 = .ok (.invokevirtual 59, 3) := by decide +kernel
theorem dX1_addSpoon_131 : decode cX1_addSpoon 131 = .ok (.iinc 6 1, 3) := by decide +kernel
theorem dX1_addSpoon_134 : decode cX1_addSpoon 134 = .ok (.goto (-43), 3) := by decide +kernel
theorem dX1_addSpoon_137 : decode cX1_addSpoon 137 = .ok (.aload_n 0, 1) := by decide +kernel
theorem dX1_addSpoon_138 : decode cX1_addSpoon 138 = .ok (.getfield 9, 3) := by decide +kernel
theorem dX1_addSpoon_141 : decode cX1_addSpoon 141 = .ok (.iload 5, 2) := by decide +kernel
theorem dX1_addSpoon_143 : decode cX1_addSpoon 143 = .ok (.iconst 0, 1) := by decide +kernel
theorem dX1_addSpoon_144 : decode cX1_addSpoon 144 = .ok (.invokevirtual 39, 3) := by decide +kernel
theorem dX1_addSpoon_147 : decode cX1_addSpoon 147 = .ok (.iinc 5 1, 3) := by decide +kernel
theorem dX1_addSpoon_150 : decode cX1_addSpoon 150 = .ok (.goto (-118), 3) := by decide +kernel
theorem dX1_addSpoon_153 : decode cX1_addSpoon 153 = .ok (.return_, 1) := by decide +kernel
theorem dX1_addWall_0 : decode cX1_addWall 0 = .ok (.aload_n 0, 1) := by decide +kernel
theorem dX1_addWall_1 : decode cX1_addWall 1 = .ok (.getfield 9, 3) := by decide +kernel
theorem dX1_addWall_4 : decode cX1_addWall 4 = .ok (.aload_n 1, 1) := by decide +kernel
theorem dX1_addWall_5 : decode cX1_addWall 5 = .ok (.invokevirtual 26, 3) := by decide +kernel
theorem dX1_addWall_8 : decode cX1_addWall 8 = .ok (.aload_n 0, 1) := by decide +kernel
theorem dX1_addWall_9 : decode cX1_addWall 9 = .ok (.invokevirtual 32, 3) := by decide +kernel
theorem dX1_addWall_12 : decode cX1_addWall 12 = .ok (.iconst 0, 1) := by decide +kernel
theorem dX1_addWall_13 : decode cX1_addWall 13 = .ok (.istore_n 3, 1) := by decide +kernel
theorem dX1_addWall_14 : decode cX1_addWall 14 = .ok (.iload_n 3, 1) := by decide +kernel
theorem dX1_addWall_15 : decode cX1_addWall 15 = .ok (.aload_n 0, 1) := by decide +kernel
theorem dX1_addWall_16 : decode cX1_addWall 16 = .ok (.getfield 9, 3) := by decide +kernel
theorem dX1_addWall_19 : decode cX1_addWall 19 = .ok (.invokevirtual 47, 3) := by decide +kernel
theorem dX1_addWall_22 : decode cX1_addWall 22 = .ok (.if_icmp .ge 55, 3) := by decide +kernel
theorem dX1_addWall_25 : decode cX1_addWall 25 = .ok (.aload_n 0, 1) := by decide +kernel
theorem dX1_addWall_26 : decode cX1_addWall 26 = .ok (.getfield 9, 3) := by decide +kernel
theorem dX1_addWall_29 : decode cX1_addWall 29 = .ok (.iload_n 3, 1) := by decide +kernel
theorem dX1_addWall_30 : decode cX1_addWall 30 = .ok (.invokevirtual 51, 3) := by decide +kernel
theorem dX1_addWall_33 : decode cX1_addWall 33 = .ok (.ifCond .ne 6, 3) := by decide +kernel
theorem dX1_addWall_36 : decode cX1_addWall 36 = .ok (.goto 35, 3) := by decide +kernel
theorem dX1_addWall_39 : decode cX1_addWall 39 = .ok (.aload_n 0, 1) := by decide +kernel
theorem dX1_addWall_40 : decode cX1_addWall 40 = .ok (.getfield 9, 3) := by decide +kernel
theorem dX1_addWall_43 : decode cX1_addWall 43 = .ok (.iload_n 3, 1) := by decide +kernel
theorem dX1_addWall_44 : decode cX1_addWall 44 = .ok (.iconst 1, 1) := by decide +kernel
theorem dX1_addWall_45 : decode cX1_addWall 45 = .ok (.invokevirtual 39, 3) := by decide +kernel
theorem dX1_addWall_48 : decode cX1_addWall 48 = .ok (.aload_n 0, 1) := by decide +kernel
theorem dX1_addWall_49 : decode cX1_addWall 49 = .ok (.aload_n 0, 1) := by decide +kernel
theorem dX1_addWall_50 : decode cX1_addWall 50 = .ok (.getfield 9, 3) := by decide +kernel
theorem dX1_addWall_53 : decode cX1_addWall 53 = .ok (.aload_n 2, 1) := by decide +kernel
theorem dX1_addWall_54 : decode cX1_addWall 54 = .ok (.invokevirtual 43, 3) := by decide +kernel
theorem dX1_addWall_57 : decode cX1_addWall 57 = .ok (.iload_n 3, 1) := by decide +kernel
theorem dX1_addWall_58 : decode cX1_addWall 58 = .ok (.iconst 1, 1) := by decide +kernel
theorem dX1_addWall_59 : decode cX1_addWall 59 = .ok (.invokevirtual 59, 3) := by decide +kernel
theorem dX1_addWall_62 : decode cX1_addWall 62 = .ok (.aload_n 0, 1) := by decide +kernel
theorem dX1_addWall_63 : decode cX1_addWall 63 = .ok (.getfield 9, 3) := by decide +kernel
theorem dX1_addWall_66 : decode cX1_addWall 66 = .ok (.iload_n 3, 1) := by decide +kernel
theorem dX1_addWall_67 : decode cX1_addWall 67 = .ok (.iconst 0, 1) := by decide +kernel
theorem dX1_addWall_68 : decode cX1_addWall 68 = .ok (.invokevirtual 39, 3) := by decide +kernel
theorem dX1_addWall_71 : decode cX1_addWall 71 = .ok (.iinc 3 1, 3) := by decide +kernel
theorem dX1_addWall_74 : decode cX1_addWall 74 = .ok (.goto (-60), 3) := by decide +kernel
theorem dX1_addWall_77 : decode cX1_addWall 77 = .ok (.return_, 1) := by decide +kernel
theorem dX1_findKnown_0 : decode cX1_findKnown 0 = .ok (.aload_n 0, 1) := by decide +kernel
theorem dX1_findKnown_1 : decode cX1_findKnown 1 = .ok (.invokevirtual 32, 3) := by decide +kernel
theorem dX1_findKnown_4 : decode cX1_findKnown 4 = .ok (.iconst 0, 1) := by decide +kernel
theorem dX1_findKnown_5 : decode cX1_findKnown 5 = .ok (.istore_n 2, 1) := by decide +kernel
theorem dX1_findKnown_6 : decode cX1_findKnown 6 = .ok (.iload_n 2, 1) := by decide +kernel
theorem dX1_findKnown_7 : decode cX1_findKnown 7 = .ok (.aload_n 1, 1) := by decide +kernel
theorem dX1_findKnown_8 : decode cX1_findKnown 8 = .ok (.getfield 84, 3) := by decide +kernel
theorem dX1_findKnown_11 : decode cX1_findKnown 11 = .ok (.if_icmp .ge 23, 3) := by decide +kernel
theorem dX1_findKnown_14 : decode cX1_findKnown 14 = .ok (.aload_n 0, 1) := by decide +kernel
theorem dX1_findKnown_15 : decode cX1_findKnown 15 = .ok (.aload_n 0, 1) := by decide +kernel
theorem dX1_findKnown_16 : decode cX1_findKnown 16 = .ok (.getfield 9, 3) := by decide +kernel
theorem dX1_findKnown_19 : decode cX1_findKnown 19 = .ok (.iload_n 2, 1) := by decide +kernel
theorem dX1_findKnown_20 : decode cX1_findKnown 20 = .ok (.invokevirtual 87, 3) := by decide +kernel
theorem dX1_findKnown_23 : decode cX1_findKnown 23 = .ok (.iload_n 2, 1) := by decide +kernel
theorem dX1_findKnown_24 : decode cX1_findKnown 24 = .ok (.iconst 0, 1) := by decide +kernel
theorem dX1_findKnown_25 : decode cX1_findKnown 25 = .ok (.invokevirtual 59, 3) := by decide +kernel
theorem dX1_findKnown_28 : decode cX1_findKnown 28 = .ok (.iinc 2 1, 3) := by decide +kernel
theorem dX1_findKnown_31 : decode cX1_findKnown 31 = .ok (.goto (-25), 3) := by decide +kernel
theorem dX1_findKnown_34 : decode cX1_findKnown 34 = .ok (.return_, 1) := by decide +kernel
theorem dX1_findPuddle_0 : decode cX1_findPuddle 0 = .ok (.aload_n 0, 1) := by decide +kernel
theorem dX1_findPuddle_1 : decode cX1_findPuddle 1 = .ok (.invokevirtual 32, 3) := by decide +kernel
theorem dX1_findPuddle_4 : decode cX1_findPuddle 4 = .ok (.aload_n 0, 1) := by decide +kernel
theorem dX1_findPuddle_5 : decode cX1_findPuddle 5 = .ok (.getfield 9, 3) := by decide +kernel
theorem dX1_findPuddle_8 : decode cX1_findPuddle 8 = .ok (.aload_n 2, 1) := by decide +kernel
theorem dX1_findPuddle_9 : decode cX1_findPuddle 9 = .ok (.getfield 90, 3) := by decide +kernel
theorem dX1_findPuddle_12 : decode cX1_findPuddle 12 = .ok (.invokevirtual 95, 3) := by decide +kernel
theorem dX1_findPuddle_15 : decode cX1_findPuddle 15 = .ok (.pop, 1) := by decide +kernel
theorem dX1_findPuddle_16 : decode cX1_findPuddle 16 = .ok (.iconst 0, 1) := by decide +kernel
theorem dX1_findPuddle_17 : decode cX1_findPuddle 17 = .ok (.istore_n 3, 1) := by decide +kernel
theorem dX1_findPuddle_18 : decode cX1_findPuddle 18 = .ok (.iload_n 3, 1) := by decide +kernel
theorem dX1_findPuddle_19 : decode cX1_findPuddle 19 = .ok (.aload_n 1, 1) := by decide +kernel
theorem dX1_findPuddle_20 : decode cX1_findPuddle 20 = .ok (.getfield 98, 3) := by decide +kernel
theorem dX1_findPuddle_23 : decode cX1_findPuddle 23 = .ok (.if_icmp .ge 24, 3) := by decide +kernel
theorem dX1_findPuddle_26 : decode cX1_findPuddle 26 = .ok (.aload_n 0, 1) := by decide +kernel
theorem dX1_findPuddle_27 : decode cX1_findPuddle 27 = .ok (.aload_n 0, 1) := by decide +kernel
theorem dX1_findPuddle_28 : decode cX1_findPuddle 28 = .ok (.getfield 9, 3) := by decide +kernel
theorem dX1_findPuddle_31 : decode cX1_findPuddle 31 = .ok (.iload_n 3, 1) := by decide +kernel
theorem dX1_findPuddle_32 : decode cX1_findPuddle 32 = .ok (.aload_n 2, 1) := by decide +kernel
theorem dX1_findPuddle_33 : decode cX1_findPuddle 33 = .ok (.invokevirtual 101, 3) := by decide +kernel
theorem dX1_findPuddle_36 : decode cX1_findPuddle 36 = .ok (.iload_n 3, 1) := by decide +kernel
theorem dX1_findPuddle_37 : decode cX1_findPuddle 37 = .ok (.iconst 0, 1) := by decide +kernel
theorem dX1_findPuddle_38 : decode cX1_findPuddle 38 = .ok (.invokevirtual 59, 3) := by decide +kernel
theorem dX1_findPuddle_41 : decode cX1_findPuddle 41 = .ok (.iinc 3 1, 3) := by decide +kernel
theorem dX1_findPuddle_44 : decode cX1_findPuddle 44 = .ok (.goto (-26), 3) := by decide +kernel
theorem dX1_findPuddle_47 : decode cX1_findPuddle 47 = .ok (.return_, 1) := by decide +kernel
theorem dX1_turnCouple_0 : decode cX1_turnCouple 0 = .ok (.aload_n 0, 1) := by decide +kernel
theorem dX1_turnCouple_1 : decode cX1_turnCouple 1 = .ok (.getfield 9, 3) := by decide +kernel
theorem dX1_turnCouple_4 : decode cX1_turnCouple 4 = .ok (.iload_n 2, 1) := by decide +kernel
theorem dX1_turnCouple_5 : decode cX1_turnCouple 5 = .ok (.iload 4, 2) := by decide +kernel
theorem dX1_turnCouple_7 : decode cX1_turnCouple 7 = .ok (.iconst 3, 1) := by decide +kernel
theorem dX1_turnCouple_8 : decode cX1_turnCouple 8 = .ok (.ishr, 1) := by decide +kernel
theorem dX1_turnCouple_9 : decode cX1_turnCouple 9 = .ok (.invokevirtual 66, 3) := by decide +kernel
theorem dX1_turnCouple_12 : decode cX1_turnCouple 12 = .ok (.aload_n 0, 1) := by decide +kernel
theorem dX1_turnCouple_13 : decode cX1_turnCouple 13 = .ok (.getfield 9, 3) := by decide +kernel
theorem dX1_turnCouple_16 : decode cX1_turnCouple 16 = .ok (.iload_n 3, 1) := by decide +kernel
theorem dX1_turnCouple_17 : decode cX1_turnCouple 17 = .ok (.iload 4, 2) := by decide +kernel
theorem dX1_turnCouple_19 : decode cX1_turnCouple 19 = .ok (.bipush 7, 2) := by decide +kernel
theorem dX1_turnCouple_21 : decode cX1_turnCouple 21 = .ok (.iand, 1) := by decide +kernel
theorem dX1_turnCouple_22 : decode cX1_turnCouple 22 = .ok (.invokevirtual 66, 3) := by decide +kernel
theorem dX1_turnCouple_25 : decode cX1_turnCouple 25 = .ok (.aload_n 0, 1) := by decide +kernel
theorem dX1_turnCouple_26 : decode cX1_turnCouple 26 = .ok (.getfield 9, 3) := by decide +kernel
theorem dX1_turnCouple_29 : decode cX1_turnCouple 29 = .ok (.aload_n 1, 1) := by decide +kernel
theorem dX1_turnCouple_30 : decode cX1_turnCouple 30 = .ok (.invokevirtual 114, 3) := by decide +kernel
theorem dX1_turnCouple_33 : decode cX1_turnCouple 33 = .ok (.return_, 1) := by decide +kernel
theorem dX1_playGame_0 : decode cX1_playGame 0 = .ok (.aload_n 0, 1) := by decide +kernel
theorem dX1_playGame_1 : decode cX1_playGame 1 = .ok (.getfield 9, 3) := by decide +kernel
theorem dX1_playGame_4 : decode cX1_playGame 4 = .ok (.aload_n 1, 1) := by decide +kernel
theorem dX1_playGame_5 : decode cX1_playGame 5 = .ok (.invokevirtual 26, 3) := by decide +kernel
theorem dX1_playGame_8 : decode cX1_playGame 8 = .ok (.aload_n 1, 1) := by decide +kernel
theorem dX1_playGame_9 : decode cX1_playGame 9 = .ok (.iconst 0, 1) := by decide +kernel
theorem dX1_playGame_10 : decode cX1_playGame 10 = .ok (.invokevirtual 104, 3) := by decide +kernel
theorem dX1_playGame_13 : decode cX1_playGame 13 = .ok (.istore_n 3, 1) := by decide +kernel
theorem dX1_playGame_14 : decode cX1_playGame 14 = .ok (.aload_n 1, 1) := by decide +kernel
theorem dX1_playGame_15 : decode cX1_playGame 15 = .ok (.iconst 1, 1) := by decide +kernel
theorem dX1_playGame_16 : decode cX1_playGame 16 = .ok (.invokevirtual 104, 3) := by decide +kernel
theorem dX1_playGame_19 : decode cX1_playGame 19 = .ok (.istore 4, 2) := by decide +kernel
theorem dX1_playGame_21 : decode cX1_playGame 21 = .ok (.iload_n 3, 1) := by decide +kernel
theorem dX1_playGame_22 : decode cX1_playGame 22 = .ok (.iconst (-1), 1) := by decide +kernel
theorem dX1_playGame_23 : decode cX1_playGame 23 = .ok (.if_icmp .eq 9, 3) := by decide +kernel
theorem dX1_playGame_26 : decode cX1_playGame 26 = .ok (.iload 4, 2) := by decide +kernel
theorem dX1_playGame_28 : decode cX1_playGame 28 = .ok (.iconst (-1), 1) := by decide +kernel
theorem dX1_playGame_29 : decode cX1_playGame 29 = .ok (.if_icmp .ne 4, 3) := by decide +kernel
theorem dX1_playGame_32 : decode cX1_playGame 32 = .ok (.return_, 1) := by decide +kernel
theorem dX1_playGame_33 : decode cX1_playGame 33 = .ok (.iconst 0, 1) := by decide +kernel
theorem dX1_playGame_34 : decode cX1_playGame 34 = .ok (.istore 5, 2) := by decide +kernel
theorem dX1_playGame_36 : decode cX1_playGame 36 = .ok (.iload 5, 2) := by decide +kernel
theorem dX1_playGame_38 : decode cX1_playGame 38 = .ok (.bipush 64, 2) := by decide +kernel
theorem dX1_playGame_40 : decode cX1_playGame 40 = .ok (.if_icmp .ge 57, 3) := by decide +kernel
theorem dX1_playGame_43 : decode cX1_playGame 43 = .ok (.aload_n 0, 1) := by decide +kernel
theorem dX1_playGame_44 : decode cX1_playGame 44 = .ok (.aload_n 2, 1) := by decide +kernel
theorem dX1_playGame_45 : decode cX1_playGame 45 = .ok (.iload_n 3, 1) := by decide +kernel
theorem dX1_playGame_46 : decode cX1_playGame 46 = .ok (.iload 4, 2) := by decide +kernel
theorem dX1_playGame_48 : decode cX1_playGame 48 = .ok (.iload 5, 2) := by decide +kernel
theorem dX1_playGame_50 : decode cX1_playGame 50 = .ok (.invokevirtual 107, 3) := by decide +kernel
theorem dX1_playGame_53 : decode cX1_playGame 53 = .ok (.aload_n 0, 1) := by decide +kernel
theorem dX1_playGame_54 : decode cX1_playGame 54 = .ok (.getfield 15, 3) := by decide +kernel
theorem dX1_playGame_57 : decode cX1_playGame 57 = .ok (.iconst 2, 1) := by decide +kernel
theorem dX1_playGame_58 : decode cX1_playGame 58 = .ok (.iload 5, 2) := by decide +kernel
theorem dX1_playGame_60 : decode cX1_playGame 60 = .ok (.imul, 1) := by decide +kernel
theorem dX1_playGame_61 : decode cX1_playGame 61 = .ok (.aload_n 0, 1) := by decide +kernel
theorem dX1_playGame_62 : decode cX1_playGame 62 = .ok (.getfield 9, 3) := by decide +kernel
theorem dX1_playGame_65 : decode cX1_playGame 65 = .ok (.getfield 111, 3) := by decide +kernel
theorem dX1_playGame_68 : decode cX1_playGame 68 = .ok (.iconst 0, 1) := by decide +kernel
theorem dX1_playGame_69 : decode cX1_playGame 69 = .ok (.iaload, 1) := by decide +kernel
theorem dX1_playGame_70 : decode cX1_playGame 70 = .ok (.iastore, 1) := by decide +kernel
theorem dX1_playGame_71 : decode cX1_playGame 71 = .ok (.aload_n 0, 1) := by decide +kernel
theorem dX1_playGame_72 : decode cX1_playGame 72 = .ok (.getfield 15, 3) := by decide +kernel
theorem dX1_playGame_75 : decode cX1_playGame 75 = .ok (.iconst 2, 1) := by decide +kernel
theorem dX1_playGame_76 : decode cX1_playGame 76 = .ok (.iload 5, 2) := by decide +kernel
theorem dX1_playGame_78 : decode cX1_playGame 78 = .ok (.imul, 1) := by decide +kernel
theorem dX1_playGame_79 : decode cX1_playGame 79 = .ok (.iconst 1, 1) := by decide +kernel
theorem dX1_playGame_80 : decode cX1_playGame 80 = .ok (.iadd, 1) := by decide +kernel
theorem dX1_playGame_81 : decode cX1_playGame 81 = .ok (.aload_n 0, 1) := by decide +kernel
theorem dX1_playGame_82 : decode cX1_playGame 82 = .ok (.getfield 9, 3) := by decide +kernel
theorem dX1_playGame_85 : decode cX1_playGame 85 = .ok (.getfield 111, 3) := by decide +kernel
theorem dX1_playGame_88 : decode cX1_playGame 88 = .ok (.iconst 1, 1) := by decide +kernel
theorem dX1_playGame_89 : decode cX1_playGame 89 = .ok (.iaload, 1) := by decide +kernel
theorem dX1_playGame_90 : decode cX1_playGame 90 = .ok (.iastore, 1) := by decide +kernel
theorem dX1_playGame_91 : decode cX1_playGame 91 = .ok (.iinc 5 1, 3) := by decide +kernel
theorem dX1_playGame_94 : decode cX1_playGame 94 = .ok (.goto (-58), 3) := by decide +kernel
theorem dX1_playGame_97 : decode cX1_playGame 97 = .ok (.return_, 1) := by decide +kernel
theorem dX1_prizeOf_0 : decode cX1_prizeOf 0 = .ok (.aload_n 0, 1) := by decide +kernel
theorem dX1_prizeOf_1 : decode cX1_prizeOf 1 = .ok (.getfield 9, 3) := by decide +kernel
theorem dX1_prizeOf_4 : decode cX1_prizeOf 4 = .ok (.aload_n 1, 1) := by decide +kernel
theorem dX1_prizeOf_5 : decode cX1_prizeOf 5 = .ok (.invokevirtual 26, 3) := by decide +kernel
theorem dX1_prizeOf_8 : decode cX1_prizeOf 8 = .ok (.aload_n 1, 1) := by decide +kernel
theorem dX1_prizeOf_9 : decode cX1_prizeOf 9 = .ok (.iconst 0, 1) := by decide +kernel
theorem dX1_prizeOf_10 : decode cX1_prizeOf 10 = .ok (.invokevirtual 104, 3) := by decide +kernel
theorem dX1_prizeOf_13 : decode cX1_prizeOf 13 = .ok (.istore 5, 2) := by decide +kernel
theorem dX1_prizeOf_15 : decode cX1_prizeOf 15 = .ok (.aload_n 1, 1) := by decide +kernel
theorem dX1_prizeOf_16 : decode cX1_prizeOf 16 = .ok (.iconst 1, 1) := by decide +kernel
theorem dX1_prizeOf_17 : decode cX1_prizeOf 17 = .ok (.invokevirtual 104, 3) := by decide +kernel
theorem dX1_prizeOf_20 : decode cX1_prizeOf 20 = .ok (.istore 6, 2) := by decide +kernel
theorem dX1_prizeOf_22 : decode cX1_prizeOf 22 = .ok (.iload 5, 2) := by decide +kernel
theorem dX1_prizeOf_24 : decode cX1_prizeOf 24 = .ok (.iconst (-1), 1) := by decide +kernel
theorem dX1_prizeOf_25 : decode cX1_prizeOf 25 = .ok (.if_icmp .eq 9, 3) := by decide +kernel
theorem dX1_prizeOf_28 : decode cX1_prizeOf 28 = .ok (.iload 6, 2) := by decide +kernel
theorem dX1_prizeOf_30 : decode cX1_prizeOf 30 = .ok (.iconst (-1), 1) := by decide +kernel
theorem dX1_prizeOf_31 : decode cX1_prizeOf 31 = .ok (.if_icmp .ne 5, 3) := by decide +kernel
theorem dX1_prizeOf_34 : decode cX1_prizeOf 34 = .ok (.iconst (-1), 1) := by decide +kernel
theorem dX1_prizeOf_35 : decode cX1_prizeOf 35 = .ok (.ireturn, 1) := by decide +kernel
theorem dX1_prizeOf_36 : decode cX1_prizeOf 36 = .ok (.aload_n 0, 1) := by decide +kernel
theorem dX1_prizeOf_37 : decode cX1_prizeOf 37 = .ok (.aload_n 2, 1) := by decide +kernel
theorem dX1_prizeOf_38 : decode cX1_prizeOf 38 = .ok (.iload 5, 2) := by decide +kernel
theorem dX1_prizeOf_40 : decode cX1_prizeOf 40 = .ok (.iload 6, 2) := by decide +kernel
theorem dX1_prizeOf_42 : decode cX1_prizeOf 42 = .ok (.iload 4, 2) := by decide +kernel
theorem dX1_prizeOf_44 : decode cX1_prizeOf 44 = .ok (.invokevirtual 107, 3) := by decide +kernel
theorem dX1_prizeOf_47 : decode cX1_prizeOf 47 = .ok (.aload_n 0, 1) := by decide +kernel
theorem dX1_prizeOf_48 : decode cX1_prizeOf 48 = .ok (.getfield 9, 3) := by decide +kernel
theorem dX1_prizeOf_51 : decode cX1_prizeOf 51 = .ok (.getfield 111, 3) := by decide +kernel
theorem dX1_prizeOf_54 : decode cX1_prizeOf 54 = .ok (.iload_n 3, 1) := by decide +kernel
theorem dX1_prizeOf_55 : decode cX1_prizeOf 55 = .ok (.iaload, 1) := by decide +kernel
theorem dX1_prizeOf_56 : decode cX1_prizeOf 56 = .ok (.ireturn, 1) := by decide +kernel
theorem dX1_isRest_0 : decode cX1_isRest 0 = .ok (.iconst 0, 1) := by decide +kernel
theorem dX1_isRest_1 : decode cX1_isRest 1 = .ok (.istore_n 2, 1) := by decide +kernel
theorem dX1_isRest_2 : decode cX1_isRest 2 = .ok (.iload_n 2, 1) := by decide +kernel
theorem dX1_isRest_3 : decode cX1_isRest 3 = .ok (.bipush 8, 2) := by decide +kernel
theorem dX1_isRest_5 : decode cX1_isRest 5 = .ok (.if_icmp .ge 74, 3) := by decide +kernel
theorem dX1_isRest_8 : decode cX1_isRest 8 = .ok (.bipush 8, 2) := by decide +kernel
theorem dX1_isRest_10 : decode cX1_isRest 10 = .ok (.iload_n 2, 1) := by decide +kernel
theorem dX1_isRest_11 : decode cX1_isRest 11 = .ok (.imul, 1) := by decide +kernel
theorem dX1_isRest_12 : decode cX1_isRest 12 = .ok (.iload_n 1, 1) := by decide +kernel
theorem dX1_isRest_13 : decode cX1_isRest 13 = .ok (.bipush 7, 2) := by decide +kernel
theorem dX1_isRest_15 : decode cX1_isRest 15 = .ok (.iand, 1) := by decide +kernel
theorem dX1_isRest_16 : decode cX1_isRest 16 = .ok (.iadd, 1) := by decide +kernel
theorem dX1_isRest_17 : decode cX1_isRest 17 = .ok (.istore_n 3, 1) := by decide +kernel
theorem dX1_isRest_18 : decode cX1_isRest 18 = .ok (.iload_n 1, 1) := by decide +kernel
theorem dX1_isRest_19 : decode cX1_isRest 19 = .ok (.bipush 56, 2) := by decide +kernel
theorem dX1_isRest_21 : decode cX1_isRest 21 = .ok (.iand, 1) := by decide +kernel
theorem dX1_isRest_22 : decode cX1_isRest 22 = .ok (.iload_n 2, 1) := by decide +kernel
theorem dX1_isRest_23 : decode cX1_isRest 23 = .ok (.iadd, 1) := by decide +kernel
theorem dX1_isRest_24 : decode cX1_isRest 24 = .ok (.istore 4, 2) := by decide +kernel
theorem dX1_isRest_26 : decode cX1_isRest 26 = .ok (.aload_n 0, 1) := by decide +kernel
theorem dX1_isRest_27 : decode cX1_isRest 27 = .ok (.getfield 15, 3) := by decide +kernel
theorem dX1_isRest_30 : decode cX1_isRest 30 = .ok (.iconst 2, 1) := by decide +kernel
theorem dX1_isRest_31 : decode cX1_isRest 31 = .ok (.iload_n 3, 1) := by decide +kernel
theorem dX1_isRest_32 : decode cX1_isRest 32 = .ok (.imul, 1) := by decide +kernel
theorem dX1_isRest_33 : decode cX1_isRest 33 = .ok (.iaload, 1) := by decide +kernel
theorem dX1_isRest_34 : decode cX1_isRest 34 = .ok (.aload_n 0, 1) := by decide +kernel
theorem dX1_isRest_35 : decode cX1_isRest 35 = .ok (.getfield 15, 3) := by decide +kernel
theorem dX1_isRest_38 : decode cX1_isRest 38 = .ok (.iconst 2, 1) := by decide +kernel
theorem dX1_isRest_39 : decode cX1_isRest 39 = .ok (.iload_n 1, 1) := by decide +kernel
theorem dX1_isRest_40 : decode cX1_isRest 40 = .ok (.imul, 1) := by decide +kernel
theorem dX1_isRest_41 : decode cX1_isRest 41 = .ok (.iaload, 1) := by decide +kernel
theorem dX1_isRest_42 : decode cX1_isRest 42 = .ok (.if_icmp .le 5, 3) := by decide +kernel
theorem dX1_isRest_45 : decode cX1_isRest 45 = .ok (.iconst 0, 1) := by decide +kernel
theorem dX1_isRest_46 : decode cX1_isRest 46 = .ok (.ireturn, 1) := by decide +kernel
theorem dX1_isRest_47 : decode cX1_isRest 47 = .ok (.aload_n 0, 1) := by decide +kernel
theorem dX1_isRest_48 : decode cX1_isRest 48 = .ok (.getfield 15, 3) := by decide +kernel
theorem dX1_isRest_51 : decode cX1_isRest 51 = .ok (.iconst 2, 1) := by decide +kernel
theorem dX1_isRest_52 : decode cX1_isRest 52 = .ok (.iload 4, 2) := by decide +kernel
theorem dX1_isRest_54 : decode cX1_isRest 54 = .ok (.imul, 1) := by decide +kernel
theorem dX1_isRest_55 : decode cX1_isRest 55 = .ok (.iconst 1, 1) := by decide +kernel
theorem dX1_isRest_56 : decode cX1_isRest 56 = .ok (.iadd, 1) := by decide +kernel
theorem dX1_isRest_57 : decode cX1_isRest 57 = .ok (.iaload, 1) := by decide +kernel
theorem dX1_isRest_58 : decode cX1_isRest 58 = .ok (.aload_n 0, 1) := by decide +kernel
theorem dX1_isRest_59 : decode cX1_isRest 59 = .ok (.getfield 15, 3) := by decide +kernel
theorem dX1_isRest_62 : decode cX1_isRest 62 = .ok (.iconst 2, 1) := by decide +kernel
theorem dX1_isRest_63 : decode cX1_isRest 63 = .ok (.iload_n 1, 1) := by decide +kernel
theorem dX1_isRest_64 : decode cX1_isRest 64 = .ok (.imul, 1) := by decide +kernel
theorem dX1_isRest_65 : decode cX1_isRest 65 = .ok (.iconst 1, 1) := by decide +kernel
theorem dX1_isRest_66 : decode cX1_isRest 66 = .ok (.iadd, 1) := by decide +kernel
theorem dX1_isRest_67 : decode cX1_isRest 67 = .ok (.iaload, 1) := by decide +kernel
theorem dX1_isRest_68 : decode cX1_isRest 68 = .ok (.if_icmp .le 5, 3) := by decide +kernel
theorem dX1_isRest_71 : decode cX1_isRest 71 = .ok (.iconst 0, 1) := by decide +kernel
theorem dX1_isRest_72 : decode cX1_isRest 72 = .ok (.ireturn, 1) := by decide +kernel
theorem dX1_isRest_73 : decode cX1_isRest 73 = .ok (.iinc 2 1, 3) := by decide +kernel
theorem dX1_isRest_76 : decode cX1_isRest 76 = .ok (.goto (-74), 3) := by decide +kernel
theorem dX1_isRest_79 : decode cX1_isRest 79 = .ok (.iconst 1, 1) := by decide +kernel
theorem dX1_isRest_80 : decode cX1_isRest 80 = .ok (.ireturn, 1) := by decide +kernel
theorem dX1_findRest_0 : decode cX1_findRest 0 = .ok (.iconst 0, 1) := by decide +kernel
theorem dX1_findRest_1 : decode cX1_findRest 1 = .ok (.istore_n 2, 1) := by decide +kernel
theorem dX1_findRest_2 : decode cX1_findRest 2 = .ok (.iconst 0, 1) := by decide +kernel
theorem dX1_findRest_3 : decode cX1_findRest 3 = .ok (.istore_n 3, 1) := by decide +kernel
theorem dX1_findRest_4 : decode cX1_findRest 4 = .ok (.iload_n 3, 1) := by decide +kernel
theorem dX1_findRest_5 : decode cX1_findRest 5 = .ok (.bipush 64, 2) := by decide +kernel
theorem dX1_findRest_7 : decode cX1_findRest 7 = .ok (.if_icmp .ge 30, 3) := by decide +kernel
theorem dX1_findRest_10 : decode cX1_findRest 10 = .ok (.aload_n 0, 1) := by decide +kernel
theorem dX1_findRest_11 : decode cX1_findRest 11 = .ok (.iload_n 3, 1) := by decide +kernel
theorem dX1_findRest_12 : decode cX1_findRest 12 = .ok (.invokevirtual 118, 3) := by decide +kernel
theorem dX1_findRest_15 : decode cX1_findRest 15 = .ok (.ifCond .ne 6, 3) := by decide +kernel
theorem dX1_findRest_18 : decode cX1_findRest 18 = .ok (.goto 13, 3) := by decide +kernel
theorem dX1_findRest_21 : decode cX1_findRest 21 = .ok (.iload_n 2, 1) := by decide +kernel
theorem dX1_findRest_22 : decode cX1_findRest 22 = .ok (.iload_n 1, 1) := by decide +kernel
theorem dX1_findRest_23 : decode cX1_findRest 23 = .ok (.if_icmp .ne 5, 3) := by decide +kernel
theorem dX1_findRest_26 : decode cX1_findRest 26 = .ok (.iload_n 3, 1) := by decide +kernel
theorem dX1_findRest_27 : decode cX1_findRest 27 = .ok (.ireturn, 1) := by decide +kernel
theorem dX1_findRest_28 : decode cX1_findRest 28 = .ok (.iinc 2 1, 3) := by decide +kernel
theorem dX1_findRest_31 : decode cX1_findRest 31 = .ok (.iinc 3 1, 3) := by decide +kernel
theorem dX1_findRest_34 : decode cX1_findRest 34 = .ok (.goto (-30), 3) := by decide +kernel
theorem dX1_findRest_37 : decode cX1_findRest 37 = .ok (.iload_n 1, 1) := by decide +kernel
theorem dX1_findRest_38 : decode cX1_findRest 38 = .ok (.iconst (-1), 1) := by decide +kernel
theorem dX1_findRest_39 : decode cX1_findRest 39 = .ok (.if_icmp .ne 7, 3) := by decide +kernel
theorem dX1_findRest_42 : decode cX1_findRest 42 = .ok (.iload_n 2, 1) := by decide +kernel
theorem dX1_findRest_43 : decode cX1_findRest 43 = .ok (.goto 4, 3) := by decide +kernel
theorem dX1_findRest_46 : decode cX1_findRest 46 = .ok (.iconst (-1), 1) := by decide +kernel
theorem dX1_findRest_47 : decode cX1_findRest 47 = .ok (.ireturn, 1) := by decide +kernel
section
variable {p : Program} {l : Launch} {e : Env} {s : State} {m : MethodId} {args : Array Value} {below : List Frame} {meth : Method} {c : Code} {G : GG} {K : SK}
set_option maxHeartbeats 4000000 in
set_option maxRecDepth 100000 in
theorem tX1_begin (l : Launch) (G : GG) {K : SK} (hL : Lay K) (M : MM)  (pp : MM) (hf : fX1_begin M = some pp) : Ct l yX1_begin cX1_begin 1 none 0 0 0 G K M [.ref (G.1 + 81)] none K pp := by
  refine z_enter (lv := [(0, .ref (G.1 + 81))]) (by decide +kernel) (Nat.le_of_ble_eq_true rfl) rfl ?_
  intro p e s m args below meth c C hnm hs0
  replace C : CX p s m args meth c cX1_begin 1 none RX1 G := C
  unfold fX1_begin at hf
  refine z_aload_n C 0 0 dX1_begin_0 rfl rfl ?_
  refine z_iconst C 0 dX1_begin_1 (by decide) ?_
  refine z_putI C ok_X1 (lay_c81 hL) 0 (by decide) rfl rfl rfl rfl q_fl_X1_23 dX1_begin_2 ?_
  refine z_M (fun M1 e2 => ?_)
  replace hf := bnd_out e2 hf
  refine z_aload_n C 0 0 dX1_begin_5 rfl rfl ?_
  refine z_iconst C (-1) dX1_begin_6 (by decide) ?_
  refine z_putI C ok_X1 (lay_c81 hL) 1 (by decide) rfl rfl rfl rfl q_fl_X1_19 dX1_begin_7 ?_
  refine z_M (fun M3 e4 => ?_)
  replace hf := bnd_out e4 hf
  cases hf
  exact z_vret C rfl dX1_begin_10
set_option maxHeartbeats 4000000 in
set_option maxRecDepth 100000 in
theorem wX1_offer_j49 (C : CX p s m args meth c cX1_offer 5 none RX1 G) (hs0 : s.heap.size = G.1 + K.1) (hL : Lay K)   (pp : MM)  (M8 : MM) (y9 : Int32) (y10 : Int32) (hf : fX1_offer_j49 M8 y9 y10 = some pp) : Z p l e (rmo 0 0 0) s m args below meth c 5 G (MQ below (QC G none K pp) args s 0 0 (AG G)) K 0 0 M8 49 [(0, .ref (G.1 + 81)), (1, .int y9), (2, .int y10)] [] := by
  unfold fX1_offer_j49 at hf
  refine z_aload_n C 0 0 dX1_offer_49 rfl rfl ?_
  refine z_iload_n C 1 1 dX1_offer_50 rfl rfl ?_
  refine z_putI C ok_X1 (lay_c81 hL) 0 (by decide) rfl rfl rfl rfl q_fl_X1_23 dX1_offer_51 ?_
  refine z_M (fun M11 e12 => ?_)
  replace hf := bnd_out e12 hf
  refine z_aload_n C 0 0 dX1_offer_54 rfl rfl ?_
  refine z_iload_n C 2 2 dX1_offer_55 rfl rfl ?_
  refine z_putI C ok_X1 (lay_c81 hL) 1 (by decide) rfl rfl rfl rfl q_fl_X1_19 dX1_offer_56 ?_
  refine z_M (fun M13 e14 => ?_)
  replace hf := bnd_out e14 hf
  cases hf
  exact z_vret C rfl dX1_offer_59
set_option maxHeartbeats 4000000 in
set_option maxRecDepth 100000 in
theorem wX1_offer_j33 (C : CX p s m args meth c cX1_offer 5 none RX1 G) (hs0 : s.heap.size = G.1 + K.1) (hL : Lay K)   (pp : MM)  (M3 : MM) (y4 : Int32) (y5 : Int32) (y6 : Int32) (hf : fX1_offer_j33 M3 y4 y5 y6 = some pp) : Z p l e (rmo 0 0 0) s m args below meth c 5 G (MQ below (QC G none K pp) args s 0 0 (AG G)) K 0 0 M3 33 [(0, .ref (G.1 + 81)), (1, .int y4), (2, .int y5)] [.int y6] := by
  unfold fX1_offer_j33 at hf
  refine z_istore C [(4, .int y6), (0, .ref (G.1 + 81)), (1, .int y4), (2, .int y5)] dX1_offer_33 (by decide) rfl rfl ?_
  refine z_aload_n C 1 0 dX1_offer_35 rfl rfl ?_
  refine z_getI C ok_X1 (lay_c81 hL) 1 (by decide) rfl q_fl_X1_19 dX1_offer_36 ?_
  refine z_iconst C (-1) dX1_offer_39 (by decide) ?_
  refine z_icmp_eq C 49 dX1_offer_40 (by decide) (fun c7 => ?_) (fun c7 => ?_)
  · replace hf := ite_t c7 hf
    refine z_lv (lv2 := [(0, .ref (G.1 + 81)), (1, .int y4), (2, .int y5)]) [1, 2, 3] rfl ?_
    exact wX1_offer_j49 C hs0 hL pp M3 y4 y5 hf
  · replace hf := ite_f c7 hf
    refine z_iload C 0 dX1_offer_43 rfl ?_
    refine z_if_ne C 49 dX1_offer_45 (by decide) (fun c15 => ?_) (fun c15 => ?_)
    · replace hf := ite_f c15 hf
      refine z_lv (lv2 := [(0, .ref (G.1 + 81)), (1, .int y4), (2, .int y5)]) [1, 2, 3] rfl ?_
      exact wX1_offer_j49 C hs0 hL pp M3 y4 y5 hf
    · replace hf := ite_t c15 hf
      cases hf
      exact z_vret C rfl dX1_offer_48
set_option maxHeartbeats 4000000 in
set_option maxRecDepth 100000 in
theorem tX1_offer (l : Launch) (G : GG) {K : SK} (hL : Lay K) (M : MM) (x1 : Int32) (x2 : Int32) (x3 : Int32) (pp : MM) (hf : fX1_offer M x1 x2 x3 = some pp) : Ct l yX1_offer cX1_offer 5 none 0 0 0 G K M [.ref (G.1 + 81), .int x1, .int x2, .int x3] none K pp := by
  refine z_enter (lv := [(0, .ref (G.1 + 81)), (1, .int x1), (2, .int x2), (3, .int x3)]) (by decide +kernel) (Nat.le_of_ble_eq_true rfl) rfl ?_
  intro p e s m args below meth c C hnm hs0
  replace C : CX p s m args meth c cX1_offer 5 none RX1 G := C
  unfold fX1_offer at hf
  refine z_iload_n C 3 3 dX1_offer_0 rfl rfl ?_
  refine z_if_eq C 20 dX1_offer_1 (by decide) (fun c1 => ?_) (fun c1 => ?_)
  · replace hf := ite_t c1 hf
    refine z_iload_n C 1 1 dX1_offer_20 rfl rfl ?_
    refine z_aload_n C 0 0 dX1_offer_21 rfl rfl ?_
    refine z_getI C ok_X1 (lay_c81 hL) 0 (by decide) rfl q_fl_X1_23 dX1_offer_22 ?_
    refine z_icmp_le C 32 dX1_offer_25 (by decide) (fun c2 => ?_) (fun c2 => ?_)
    · replace hf := ite_t c2 hf
      refine z_iconst C 0 dX1_offer_32 (by decide) ?_
      refine z_lv (lv2 := [(0, .ref (G.1 + 81)), (1, .int x1), (2, .int x2)]) [0, 1, 2] rfl ?_
      exact wX1_offer_j33 C hs0 hL pp M x1 x2 0 hf
    · replace hf := ite_f c2 hf
      refine z_iconst C 1 dX1_offer_28 (by decide) ?_
      refine z_goto C 33 dX1_offer_29 (by decide) ?_
      refine z_lv (lv2 := [(0, .ref (G.1 + 81)), (1, .int x1), (2, .int x2)]) [0, 1, 2] rfl ?_
      exact wX1_offer_j33 C hs0 hL pp M x1 x2 1 hf
  · replace hf := ite_f c1 hf
    refine z_iload_n C 1 1 dX1_offer_4 rfl rfl ?_
    refine z_aload_n C 0 0 dX1_offer_5 rfl rfl ?_
    refine z_getI C ok_X1 (lay_c81 hL) 0 (by decide) rfl q_fl_X1_23 dX1_offer_6 ?_
    refine z_icmp_ge C 16 dX1_offer_9 (by decide) (fun c16 => ?_) (fun c16 => ?_)
    · replace hf := ite_t c16 hf
      refine z_iconst C 0 dX1_offer_16 (by decide) ?_
      refine z_goto C 33 dX1_offer_17 (by decide) ?_
      refine z_lv (lv2 := [(0, .ref (G.1 + 81)), (1, .int x1), (2, .int x2)]) [0, 1, 2] rfl ?_
      exact wX1_offer_j33 C hs0 hL pp M x1 x2 0 hf
    · replace hf := ite_f c16 hf
      refine z_iconst C 1 dX1_offer_12 (by decide) ?_
      refine z_goto C 33 dX1_offer_13 (by decide) ?_
      refine z_lv (lv2 := [(0, .ref (G.1 + 81)), (1, .int x1), (2, .int x2)]) [0, 1, 2] rfl ?_
      exact wX1_offer_j33 C hs0 hL pp M x1 x2 1 hf
set_option maxHeartbeats 4000000 in
set_option maxRecDepth 100000 in
theorem tX1_sumWith (l : Launch) (G : GG) {K : SK} (hL : Lay K) (M : MM) (x1 : Int32) (x2 : Int32) (a3 : Nat) (h3 : Lw K a3) (x4 : Int32) (pp : (Int32 × MM)) (hf : fX1_sumWith M x1 x2 a3 x4 = some pp) : Ct l yX1_sumWith cX1_sumWith 6 (some .int) 4 0 0 G K M [.ref (G.1 + 81), .int x1, .int x2, .ref (G.1 + a3), .int x4] (some (.int pp.1)) K pp.2 := by
  refine z_enter (lv := [(0, .ref (G.1 + 81)), (1, .int x1), (2, .int x2), (3, .ref (G.1 + a3)), (4, .int x4)]) (by decide +kernel) (Nat.le_of_ble_eq_true rfl) rfl ?_
  intro p e s m args below meth c C hnm hs0
  replace C : CX p s m args meth c cX1_sumWith 6 (some .int) RX1 G := C
  unfold fX1_sumWith at hf
  refine z_aload_n C 0 0 dX1_sumWith_0 rfl rfl ?_
  refine z_getR C ok_X1 (lay_c81 hL) 3 (60) (by decide) rfl (lay_r81_3 hL) q_fl_X1_9 dX1_sumWith_1 ?_
  refine z_iload_n C 2 2 dX1_sumWith_4 rfl rfl ?_
  replace hf := bd_out hf
  obtain ⟨p1, e2, hf⟩ := hf
  refine z_cV1 C [] (tX0_isInSight l G hL M x2 _ e2) lk_X0_isInSight ok_X0 (lay_c60 hL) q_ml_X1_63 rfl ⟨Nat.le_of_ble_eq_true rfl, Nat.le_of_ble_eq_true rfl⟩ rfl (Nat.le_of_ble_eq_true rfl) ⟨Nat.le_refl _, Nat.le_refl _⟩ dX1_sumWith_5 ?_
  refine z_if_ne C 14 dX1_sumWith_8 (by decide) (fun c3 => ?_) (fun c3 => ?_)
  · replace hf := ite_f c3 hf
    refine z_aload_n C 0 0 dX1_sumWith_14 rfl rfl ?_
    refine z_getR C ok_X1 (lay_c81 hL) 3 (60) (by decide) rfl (lay_r81_3 hL) q_fl_X1_9 dX1_sumWith_15 ?_
    refine z_iload_n C 2 2 dX1_sumWith_18 rfl rfl ?_
    refine z_bipush C 10 dX1_sumWith_19 (by decide) ?_
    refine z_iload_n C 1 1 dX1_sumWith_21 rfl rfl ?_
    refine z_iadd C dX1_sumWith_22 ?_
    replace hf := bd_out hf
    obtain ⟨p4, e5, hf⟩ := hf
    refine z_cV0 C [] (tX0_lay l G hL M x2 (10 + x1) _ e5) lk_X0_lay ok_X0 (lay_c60 hL) q_ml_X1_39 rfl ⟨Nat.le_of_ble_eq_true rfl, Nat.le_of_ble_eq_true rfl⟩ rfl (Nat.le_of_ble_eq_true rfl) ⟨Nat.le_refl _, Nat.le_refl _⟩ dX1_sumWith_23 ?_
    refine z_aload_n C 0 0 dX1_sumWith_26 rfl rfl ?_
    refine z_getR C ok_X1 (lay_c81 hL) 3 (60) (by decide) rfl (lay_r81_3 hL) q_fl_X1_9 dX1_sumWith_27 ?_
    refine z_aload_n C 3 3 dX1_sumWith_30 rfl rfl ?_
    replace hf := bd_out hf
    obtain ⟨p6, e7, hf⟩ := hf
    refine z_cV1 C [] (tX0_sumBy l G hL p4 a3 h3 _ e7) lk_X0_sumBy ok_X0 (lay_c60 hL) q_ml_X1_43 rfl ⟨Nat.le_of_ble_eq_true rfl, Nat.le_of_ble_eq_true rfl⟩ rfl (Nat.le_of_ble_eq_true rfl) ⟨Nat.le_refl _, Nat.le_refl _⟩ dX1_sumWith_31 ?_
    refine z_istore C [(5, .int p6.1), (0, .ref (G.1 + 81)), (1, .int x1), (2, .int x2), (3, .ref (G.1 + a3)), (4, .int x4)] dX1_sumWith_34 (by decide) rfl rfl ?_
    refine z_aload_n C 1 0 dX1_sumWith_36 rfl rfl ?_
    refine z_getR C ok_X1 (lay_c81 hL) 3 (60) (by decide) rfl (lay_r81_3 hL) q_fl_X1_9 dX1_sumWith_37 ?_
    refine z_iload_n C 3 2 dX1_sumWith_40 rfl rfl ?_
    refine z_iconst C 0 dX1_sumWith_41 (by decide) ?_
    replace hf := bd_out hf
    obtain ⟨p8, e9, hf⟩ := hf
    refine z_cV0 C [] (tX0_lay l G hL p6.2 x2 0 _ e9) lk_X0_lay ok_X0 (lay_c60 hL) q_ml_X1_39 rfl ⟨Nat.le_of_ble_eq_true rfl, Nat.le_of_ble_eq_true rfl⟩ rfl (Nat.le_of_ble_eq_true rfl) ⟨Nat.le_refl _, Nat.le_refl _⟩ dX1_sumWith_42 ?_
    refine z_iload C 0 dX1_sumWith_45 rfl ?_
    cases hf
    exact z_iret C rfl dX1_sumWith_47
  · replace hf := ite_t c3 hf
    refine z_iload C 4 dX1_sumWith_11 rfl ?_
    cases hf
    exact z_iret C rfl dX1_sumWith_13
set_option maxHeartbeats 4000000 in
set_option maxRecDepth 100000 in
theorem wX1_placeOne_l39 (C : CX p s m args meth c cX1_placeOne 7 none RX1 G) (hs0 : s.heap.size = G.1 + K.1) (hL : Lay K) (a1 : Nat) (h1 : Par K a1) (a2 : Nat) (h2 : Lw K a2)  (pp : MM)  : ∀ (n : Nat) (M10 : MM) (y11 : Int32) (y12 : Int32) (y13 : Int32) (y14 : Int32) (hf : fX1_placeOne_l39 a1 a2 n M10 y11 y12 y13 y14 = some pp), Z p l e (rmo 5 0 0) s m args below meth c 7 G (MQ below (QC G none K pp) args s 0 0 (AG G)) K 0 0 M10 39 [(0, .ref (G.1 + 81)), (2, .ref (G.1 + a2)), (3, .int y11), (4, .int y12), (5, .int y13), (6, .int y14)] [] := by
  intro n
  induction n with
  | zero => intro M10 y11 y12 y13 y14 hf; exact nomatch (show (none : Option MM) = some pp from hf)
  | succ n ih =>
    intro M10 y11 y12 y13 y14 hf
    rw [fX1_placeOne_l39.eq_2] at hf
    refine z_iload C 5 dX1_placeOne_39 rfl ?_
    refine z_aload_n C 0 0 dX1_placeOne_41 rfl rfl ?_
    refine z_getR C ok_X1 (lay_c81 hL) 3 (60) (by decide) rfl (lay_r81_3 hL) q_fl_X1_9 dX1_placeOne_42 ?_
    refine z_cV1 C [.int y14] (tX0_squares l G hL M10 ) lk_X0_squares ok_X0 (lay_c60 hL) q_ml_X1_47 rfl ⟨Nat.le_of_ble_eq_true rfl, Nat.le_of_ble_eq_true rfl⟩ rfl (Nat.le_of_ble_eq_true rfl) ⟨Nat.le_refl _, Nat.le_refl _⟩ dX1_placeOne_45 ?_
    refine z_icmp_ge C 90 dX1_placeOne_48 (by decide) (fun c15 => ?_) (fun c15 => ?_)
    · replace hf := ite_t c15 hf
      cases hf
      exact z_vret C rfl dX1_placeOne_90
    · replace hf := ite_f c15 hf
      refine z_aload_n C 0 0 dX1_placeOne_51 rfl rfl ?_
      refine z_getR C ok_X1 (lay_c81 hL) 3 (60) (by decide) rfl (lay_r81_3 hL) q_fl_X1_9 dX1_placeOne_52 ?_
      refine z_iload C 5 dX1_placeOne_55 rfl ?_
      replace hf := bd_out hf
      obtain ⟨p16, e17, hf⟩ := hf
      refine z_cV1 C [] (tX0_isFree l G hL M10 y14 _ e17) lk_X0_isFree ok_X0 (lay_c60 hL) q_ml_X1_51 rfl ⟨Nat.le_of_ble_eq_true rfl, Nat.le_of_ble_eq_true rfl⟩ rfl (Nat.le_of_ble_eq_true rfl) ⟨Nat.le_refl _, Nat.le_refl _⟩ dX1_placeOne_57 ?_
      refine z_if_ne C 66 dX1_placeOne_60 (by decide) (fun c18 => ?_) (fun c18 => ?_)
      · replace hf := ite_f c18 hf
        refine z_aload_n C 0 0 dX1_placeOne_66 rfl rfl ?_
        refine z_aload_n C 0 0 dX1_placeOne_67 rfl rfl ?_
        refine z_iload_n C 2 3 dX1_placeOne_68 rfl rfl ?_
        refine z_iload C 5 dX1_placeOne_69 rfl ?_
        refine z_aload_n C 1 2 dX1_placeOne_71 rfl rfl ?_
        refine z_iload C 4 dX1_placeOne_72 rfl ?_
        replace hf := bd_out hf
        obtain ⟨p19, e20, hf⟩ := hf
        refine z_cV1 C [.ref (G.1 + 81)] (tX1_sumWith l G hL M10 y11 y14 a2 h2 y13 _ e20) lk_X1_sumWith ok_X1 (lay_c81 hL) q_ml_X1_55 rfl ⟨Nat.le_of_ble_eq_true rfl, Nat.le_of_ble_eq_true rfl⟩ rfl (Nat.le_of_ble_eq_true rfl) ⟨Nat.le_refl _, Nat.le_refl _⟩ dX1_placeOne_74 ?_
        refine z_iload C 5 dX1_placeOne_77 rfl ?_
        refine z_iload C 3 dX1_placeOne_79 rfl ?_
        replace hf := bd_out hf
        obtain ⟨p21, e22, hf⟩ := hf
        refine z_cV0 C [] (tX1_offer l G hL p19.2 p19.1 y14 y12 _ e22) lk_X1_offer ok_X1 (lay_c81 hL) q_ml_X1_59 rfl ⟨Nat.le_of_ble_eq_true rfl, Nat.le_of_ble_eq_true rfl⟩ rfl (Nat.le_of_ble_eq_true rfl) ⟨Nat.le_refl _, Nat.le_refl _⟩ dX1_placeOne_81 ?_
        refine z_iinc C 5 (y14 + 1) [(6, .int (y14 + 1)), (0, .ref (G.1 + 81)), (2, .ref (G.1 + a2)), (3, .int y11), (4, .int y12), (5, .int y13)] dX1_placeOne_84 rfl rfl (by decide) rfl rfl ?_
        refine z_goto C 39 dX1_placeOne_87 (by decide) ?_
        refine z_lv (lv2 := [(0, .ref (G.1 + 81)), (2, .ref (G.1 + a2)), (3, .int y11), (4, .int y12), (5, .int y13), (6, .int (y14 + 1))]) [1, 2, 3, 4, 5, 0] rfl ?_
        exact ih p21 y11 y12 y13 (y14 + 1)  hf
      · replace hf := ite_t c18 hf
        refine z_goto C 84 dX1_placeOne_63 (by decide) ?_
        refine z_iinc C 5 (y14 + 1) [(6, .int (y14 + 1)), (0, .ref (G.1 + 81)), (2, .ref (G.1 + a2)), (3, .int y11), (4, .int y12), (5, .int y13)] dX1_placeOne_84 rfl rfl (by decide) rfl rfl ?_
        refine z_goto C 39 dX1_placeOne_87 (by decide) ?_
        refine z_lv (lv2 := [(0, .ref (G.1 + 81)), (2, .ref (G.1 + a2)), (3, .int y11), (4, .int y12), (5, .int y13), (6, .int (y14 + 1))]) [1, 2, 3, 4, 5, 0] rfl ?_
        exact ih M10 y11 y12 y13 (y14 + 1)  hf
set_option maxHeartbeats 4000000 in
set_option maxRecDepth 100000 in
theorem tX1_placeOne (l : Launch) (G : GG) {K : SK} (hL : Lay K) (M : MM) (a1 : Nat) (h1 : Par K a1) (a2 : Nat) (h2 : Lw K a2) (x3 : Int32) (x4 : Int32) (pp : MM) (hf : fX1_placeOne M a1 a2 x3 x4 = some pp) : Ct l yX1_placeOne cX1_placeOne 7 none 5 0 0 G K M [.ref (G.1 + 81), .ref (G.1 + a1), .ref (G.1 + a2), .int x3, .int x4] none K pp := by
  refine z_enter (lv := [(0, .ref (G.1 + 81)), (1, .ref (G.1 + a1)), (2, .ref (G.1 + a2)), (3, .int x3), (4, .int x4)]) (by decide +kernel) (Nat.le_of_ble_eq_true rfl) rfl ?_
  intro p e s m args below meth c C hnm hs0
  replace C : CX p s m args meth c cX1_placeOne 7 none RX1 G := C
  unfold fX1_placeOne at hf
  refine z_aload_n C 0 0 dX1_placeOne_0 rfl rfl ?_
  refine z_getR C ok_X1 (lay_c81 hL) 3 (60) (by decide) rfl (lay_r81_3 hL) q_fl_X1_9 dX1_placeOne_1 ?_
  refine z_aload_n C 1 1 dX1_placeOne_4 rfl rfl ?_
  replace hf := bd_out hf
  obtain ⟨p1, e2, hf⟩ := hf
  refine z_cV0 C [] (tX0_begin l G hL M a1 h1 _ e2) lk_X0_begin ok_X0 (lay_c60 hL) q_ml_X1_26 rfl ⟨Nat.le_of_ble_eq_true rfl, Nat.le_of_ble_eq_true rfl⟩ rfl (Nat.le_of_ble_eq_true rfl) ⟨Nat.le_refl _, Nat.le_refl _⟩ dX1_placeOne_5 ?_
  refine z_aload_n C 0 0 dX1_placeOne_8 rfl rfl ?_
  replace hf := bd_out hf
  obtain ⟨p3, e4, hf⟩ := hf
  refine z_cV0 C [] (tX1_begin l G hL p1  _ e4) lk_X1_begin ok_X1 (lay_c81 hL) q_ml_X1_32 rfl ⟨Nat.le_of_ble_eq_true rfl, Nat.le_of_ble_eq_true rfl⟩ rfl (Nat.le_of_ble_eq_true rfl) ⟨Nat.le_refl _, Nat.le_refl _⟩ dX1_placeOne_9 ?_
  refine z_aload_n C 0 0 dX1_placeOne_12 rfl rfl ?_
  refine z_getR C ok_X1 (lay_c81 hL) 3 (60) (by decide) rfl (lay_r81_3 hL) q_fl_X1_9 dX1_placeOne_13 ?_
  refine z_aload_n C 1 1 dX1_placeOne_16 rfl rfl ?_
  refine z_getR C ok_X5 (Par_o h1) 4 (a1 + 1) (by decide) rfl (Par_r4 h1) q_fl_X1_34 dX1_placeOne_17 ?_
  refine z_iload_n C 3 3 dX1_placeOne_20 rfl rfl ?_
  replace hf := gd_out hf
  obtain ⟨g5, hf⟩ := hf
  refine z_iald C (Par_c1 h1) (inb_in g5) dX1_placeOne_21 ?_
  refine z_iconst C 0 dX1_placeOne_22 (by decide) ?_
  replace hf := bd_out hf
  obtain ⟨p6, e7, hf⟩ := hf
  refine z_cV0 C [] (tX0_lay l G hL p3 (gI p3 (a1 + 1) (ix x3)) 0 _ e7) lk_X0_lay ok_X0 (lay_c60 hL) q_ml_X1_39 rfl ⟨Nat.le_of_ble_eq_true rfl, Nat.le_of_ble_eq_true rfl⟩ rfl (Nat.le_of_ble_eq_true rfl) ⟨Nat.le_refl _, Nat.le_refl _⟩ dX1_placeOne_23 ?_
  refine z_aload_n C 0 0 dX1_placeOne_26 rfl rfl ?_
  refine z_getR C ok_X1 (lay_c81 hL) 3 (60) (by decide) rfl (lay_r81_3 hL) q_fl_X1_9 dX1_placeOne_27 ?_
  refine z_aload_n C 2 2 dX1_placeOne_30 rfl rfl ?_
  replace hf := bd_out hf
  obtain ⟨p8, e9, hf⟩ := hf
  refine z_cV1 C [] (tX0_sumBy l G hL p6 a2 h2 _ e9) lk_X0_sumBy ok_X0 (lay_c60 hL) q_ml_X1_43 rfl ⟨Nat.le_of_ble_eq_true rfl, Nat.le_of_ble_eq_true rfl⟩ rfl (Nat.le_of_ble_eq_true rfl) ⟨Nat.le_refl _, Nat.le_refl _⟩ dX1_placeOne_31 ?_
  refine z_istore C [(5, .int p8.1), (0, .ref (G.1 + 81)), (1, .ref (G.1 + a1)), (2, .ref (G.1 + a2)), (3, .int x3), (4, .int x4)] dX1_placeOne_34 (by decide) rfl rfl ?_
  refine z_iconst C 0 dX1_placeOne_36 (by decide) ?_
  refine z_istore C [(6, .int 0), (5, .int p8.1), (0, .ref (G.1 + 81)), (1, .ref (G.1 + a1)), (2, .ref (G.1 + a2)), (3, .int x3), (4, .int x4)] dX1_placeOne_37 (by decide) rfl rfl ?_
  refine z_lv (lv2 := [(0, .ref (G.1 + 81)), (2, .ref (G.1 + a2)), (3, .int x3), (4, .int x4), (5, .int p8.1), (6, .int 0)]) [2, 4, 5, 6, 1, 0] rfl ?_
  exact wX1_placeOne_l39 C hs0 hL a1 h1 a2 h2 pp FU p8.2 x3 x4 p8.1 0 hf
set_option maxHeartbeats 4000000 in
set_option maxRecDepth 100000 in
theorem wX1_placeTwo_l97 (C : CX p s m args meth c cX1_placeTwo 8 none RX1 G) (hs0 : s.heap.size = G.1 + K.1) (hL : Lay K) (a1 : Nat) (h1 : Par K a1) (a2 : Nat) (h2 : Lw K a2) (k154 : MM → Int32 → Int32 → Int32 → Option MM) (pp : MM) (hk154 : ∀ (M30 : MM) (y31 : Int32) (y32 : Int32) (y33 : Int32), k154 M30 y31 y32 y33 = some pp → Z p l e (rmo 5 0 0) s m args below meth c 8 G (MQ below (QC G none K pp) args s 0 0 (AG G)) K 0 0 M30 154 [(0, .ref (G.1 + 81)), (2, .ref (G.1 + a2)), (3, .int y31), (4, .int y32), (5, .int y33)] []) : ∀ (n : Nat) (M23 : MM) (y24 : Int32) (y25 : Int32) (y26 : Int32) (y27 : Int32) (y28 : Int32) (hf : fX1_placeTwo_l97 a1 a2 k154 n M23 y24 y25 y26 y27 y28 = some pp), Z p l e (rmo 5 0 0) s m args below meth c 8 G (MQ below (QC G none K pp) args s 0 0 (AG G)) K 0 0 M23 97 [(0, .ref (G.1 + 81)), (2, .ref (G.1 + a2)), (3, .int y24), (4, .int y25), (5, .int y26), (6, .int y27), (7, .int y28)] [] := by
  intro n
  induction n with
  | zero => intro M23 y24 y25 y26 y27 y28 hf; exact nomatch (show (none : Option MM) = some pp from hf)
  | succ n ih =>
    intro M23 y24 y25 y26 y27 y28 hf
    rw [fX1_placeTwo_l97.eq_2] at hf
    refine z_iload C 6 dX1_placeTwo_97 rfl ?_
    refine z_aload_n C 0 0 dX1_placeTwo_99 rfl rfl ?_
    refine z_getR C ok_X1 (lay_c81 hL) 3 (60) (by decide) rfl (lay_r81_3 hL) q_fl_X1_9 dX1_placeTwo_100 ?_
    refine z_cV1 C [.int y28] (tX0_squares l G hL M23 ) lk_X0_squares ok_X0 (lay_c60 hL) q_ml_X1_47 rfl ⟨Nat.le_of_ble_eq_true rfl, Nat.le_of_ble_eq_true rfl⟩ rfl (Nat.le_of_ble_eq_true rfl) ⟨Nat.le_refl _, Nat.le_refl _⟩ dX1_placeTwo_103 ?_
    refine z_icmp_ge C 154 dX1_placeTwo_106 (by decide) (fun c29 => ?_) (fun c29 => ?_)
    · replace hf := ite_t c29 hf
      refine z_lv (lv2 := [(0, .ref (G.1 + 81)), (2, .ref (G.1 + a2)), (3, .int y24), (4, .int y25), (5, .int y26)]) [0, 1, 2, 3, 4] rfl ?_
      exact hk154 M23 y24 y25 y26  hf
    · replace hf := ite_f c29 hf
      refine z_aload_n C 0 0 dX1_placeTwo_109 rfl rfl ?_
      refine z_getR C ok_X1 (lay_c81 hL) 3 (60) (by decide) rfl (lay_r81_3 hL) q_fl_X1_9 dX1_placeTwo_110 ?_
      refine z_iload C 6 dX1_placeTwo_113 rfl ?_
      replace hf := bd_out hf
      obtain ⟨p34, e35, hf⟩ := hf
      refine z_cV1 C [] (tX0_isFree l G hL M23 y28 _ e35) lk_X0_isFree ok_X0 (lay_c60 hL) q_ml_X1_51 rfl ⟨Nat.le_of_ble_eq_true rfl, Nat.le_of_ble_eq_true rfl⟩ rfl (Nat.le_of_ble_eq_true rfl) ⟨Nat.le_refl _, Nat.le_refl _⟩ dX1_placeTwo_115 ?_
      refine z_if_ne C 124 dX1_placeTwo_118 (by decide) (fun c36 => ?_) (fun c36 => ?_)
      · replace hf := ite_f c36 hf
        refine z_aload_n C 0 0 dX1_placeTwo_124 rfl rfl ?_
        refine z_aload_n C 0 0 dX1_placeTwo_125 rfl rfl ?_
        refine z_iload C 3 dX1_placeTwo_126 rfl ?_
        refine z_iload C 6 dX1_placeTwo_128 rfl ?_
        refine z_aload_n C 1 2 dX1_placeTwo_130 rfl rfl ?_
        refine z_iload C 5 dX1_placeTwo_131 rfl ?_
        replace hf := bd_out hf
        obtain ⟨p37, e38, hf⟩ := hf
        refine z_cV1 C [.ref (G.1 + 81)] (tX1_sumWith l G hL M23 y25 y28 a2 h2 y27 _ e38) lk_X1_sumWith ok_X1 (lay_c81 hL) q_ml_X1_55 rfl ⟨Nat.le_of_ble_eq_true rfl, Nat.le_of_ble_eq_true rfl⟩ rfl (Nat.le_of_ble_eq_true rfl) ⟨Nat.le_refl _, Nat.le_refl _⟩ dX1_placeTwo_133 ?_
        refine z_bipush C 64 dX1_placeTwo_136 (by decide) ?_
        refine z_iload C 4 dX1_placeTwo_138 rfl ?_
        refine z_imul C dX1_placeTwo_140 ?_
        refine z_iload C 6 dX1_placeTwo_141 rfl ?_
        refine z_iadd C dX1_placeTwo_143 ?_
        refine z_iconst C 0 dX1_placeTwo_144 (by decide) ?_
        replace hf := bd_out hf
        obtain ⟨p39, e40, hf⟩ := hf
        refine z_cV0 C [] (tX1_offer l G hL p37.2 p37.1 ((64 * y26) + y28) 0 _ e40) lk_X1_offer ok_X1 (lay_c81 hL) q_ml_X1_59 rfl ⟨Nat.le_of_ble_eq_true rfl, Nat.le_of_ble_eq_true rfl⟩ rfl (Nat.le_of_ble_eq_true rfl) ⟨Nat.le_refl _, Nat.le_refl _⟩ dX1_placeTwo_145 ?_
        refine z_iinc C 6 (y28 + 1) [(7, .int (y28 + 1)), (0, .ref (G.1 + 81)), (2, .ref (G.1 + a2)), (3, .int y24), (4, .int y25), (5, .int y26), (6, .int y27)] dX1_placeTwo_148 rfl rfl (by decide) rfl rfl ?_
        refine z_goto C 97 dX1_placeTwo_151 (by decide) ?_
        refine z_lv (lv2 := [(0, .ref (G.1 + 81)), (2, .ref (G.1 + a2)), (3, .int y24), (4, .int y25), (5, .int y26), (6, .int y27), (7, .int (y28 + 1))]) [1, 2, 3, 4, 5, 6, 0] rfl ?_
        exact ih p39 y24 y25 y26 y27 (y28 + 1)  hf
      · replace hf := ite_t c36 hf
        refine z_goto C 148 dX1_placeTwo_121 (by decide) ?_
        refine z_iinc C 6 (y28 + 1) [(7, .int (y28 + 1)), (0, .ref (G.1 + 81)), (2, .ref (G.1 + a2)), (3, .int y24), (4, .int y25), (5, .int y26), (6, .int y27)] dX1_placeTwo_148 rfl rfl (by decide) rfl rfl ?_
        refine z_goto C 97 dX1_placeTwo_151 (by decide) ?_
        refine z_lv (lv2 := [(0, .ref (G.1 + 81)), (2, .ref (G.1 + a2)), (3, .int y24), (4, .int y25), (5, .int y26), (6, .int y27), (7, .int (y28 + 1))]) [1, 2, 3, 4, 5, 6, 0] rfl ?_
        exact ih M23 y24 y25 y26 y27 (y28 + 1)  hf
set_option maxHeartbeats 4000000 in
set_option maxRecDepth 100000 in
theorem wX1_placeTwo_l44 (C : CX p s m args meth c cX1_placeTwo 8 none RX1 G) (hs0 : s.heap.size = G.1 + K.1) (hL : Lay K) (a1 : Nat) (h1 : Par K a1) (a2 : Nat) (h2 : Lw K a2)  (pp : MM)  : ∀ (n : Nat) (M11 : MM) (y12 : Int32) (y13 : Int32) (y14 : Int32) (hf : fX1_placeTwo_l44 a1 a2 n M11 y12 y13 y14 = some pp), Z p l e (rmo 5 0 0) s m args below meth c 8 G (MQ below (QC G none K pp) args s 0 0 (AG G)) K 0 0 M11 44 [(0, .ref (G.1 + 81)), (2, .ref (G.1 + a2)), (3, .int y12), (4, .int y13), (5, .int y14)] [] := by
  intro n
  induction n with
  | zero => intro M11 y12 y13 y14 hf; exact nomatch (show (none : Option MM) = some pp from hf)
  | succ n ih =>
    intro M11 y12 y13 y14 hf
    rw [fX1_placeTwo_l44.eq_2] at hf
    refine z_iload C 4 dX1_placeTwo_44 rfl ?_
    refine z_aload_n C 0 0 dX1_placeTwo_46 rfl rfl ?_
    refine z_getR C ok_X1 (lay_c81 hL) 3 (60) (by decide) rfl (lay_r81_3 hL) q_fl_X1_9 dX1_placeTwo_47 ?_
    refine z_cV1 C [.int y14] (tX0_squares l G hL M11 ) lk_X0_squares ok_X0 (lay_c60 hL) q_ml_X1_47 rfl ⟨Nat.le_of_ble_eq_true rfl, Nat.le_of_ble_eq_true rfl⟩ rfl (Nat.le_of_ble_eq_true rfl) ⟨Nat.le_refl _, Nat.le_refl _⟩ dX1_placeTwo_50 ?_
    refine z_icmp_ge C 170 dX1_placeTwo_53 (by decide) (fun c15 => ?_) (fun c15 => ?_)
    · replace hf := ite_t c15 hf
      cases hf
      exact z_vret C rfl dX1_placeTwo_170
    · replace hf := ite_f c15 hf
      refine z_aload_n C 0 0 dX1_placeTwo_56 rfl rfl ?_
      refine z_getR C ok_X1 (lay_c81 hL) 3 (60) (by decide) rfl (lay_r81_3 hL) q_fl_X1_9 dX1_placeTwo_57 ?_
      refine z_iload C 4 dX1_placeTwo_60 rfl ?_
      replace hf := bd_out hf
      obtain ⟨p16, e17, hf⟩ := hf
      refine z_cV1 C [] (tX0_isFree l G hL M11 y14 _ e17) lk_X0_isFree ok_X0 (lay_c60 hL) q_ml_X1_51 rfl ⟨Nat.le_of_ble_eq_true rfl, Nat.le_of_ble_eq_true rfl⟩ rfl (Nat.le_of_ble_eq_true rfl) ⟨Nat.le_refl _, Nat.le_refl _⟩ dX1_placeTwo_62 ?_
      refine z_if_ne C 71 dX1_placeTwo_65 (by decide) (fun c18 => ?_) (fun c18 => ?_)
      · replace hf := ite_f c18 hf
        refine z_aload_n C 0 0 dX1_placeTwo_71 rfl rfl ?_
        refine z_getR C ok_X1 (lay_c81 hL) 3 (60) (by decide) rfl (lay_r81_3 hL) q_fl_X1_9 dX1_placeTwo_72 ?_
        refine z_iload C 4 dX1_placeTwo_75 rfl ?_
        refine z_bipush C 10 dX1_placeTwo_77 (by decide) ?_
        refine z_iload_n C 2 3 dX1_placeTwo_79 rfl rfl ?_
        refine z_iadd C dX1_placeTwo_80 ?_
        replace hf := bd_out hf
        obtain ⟨p19, e20, hf⟩ := hf
        refine z_cV0 C [] (tX0_lay l G hL M11 y14 (10 + y12) _ e20) lk_X0_lay ok_X0 (lay_c60 hL) q_ml_X1_39 rfl ⟨Nat.le_of_ble_eq_true rfl, Nat.le_of_ble_eq_true rfl⟩ rfl (Nat.le_of_ble_eq_true rfl) ⟨Nat.le_refl _, Nat.le_refl _⟩ dX1_placeTwo_81 ?_
        refine z_aload_n C 0 0 dX1_placeTwo_84 rfl rfl ?_
        refine z_getR C ok_X1 (lay_c81 hL) 3 (60) (by decide) rfl (lay_r81_3 hL) q_fl_X1_9 dX1_placeTwo_85 ?_
        refine z_aload_n C 1 2 dX1_placeTwo_88 rfl rfl ?_
        replace hf := bd_out hf
        obtain ⟨p21, e22, hf⟩ := hf
        refine z_cV1 C [] (tX0_sumBy l G hL p19 a2 h2 _ e22) lk_X0_sumBy ok_X0 (lay_c60 hL) q_ml_X1_43 rfl ⟨Nat.le_of_ble_eq_true rfl, Nat.le_of_ble_eq_true rfl⟩ rfl (Nat.le_of_ble_eq_true rfl) ⟨Nat.le_refl _, Nat.le_refl _⟩ dX1_placeTwo_89 ?_
        refine z_istore C [(6, .int p21.1), (0, .ref (G.1 + 81)), (2, .ref (G.1 + a2)), (3, .int y12), (4, .int y13), (5, .int y14)] dX1_placeTwo_92 (by decide) rfl rfl ?_
        refine z_iconst C 0 dX1_placeTwo_94 (by decide) ?_
        refine z_istore C [(7, .int 0), (6, .int p21.1), (0, .ref (G.1 + 81)), (2, .ref (G.1 + a2)), (3, .int y12), (4, .int y13), (5, .int y14)] dX1_placeTwo_95 (by decide) rfl rfl ?_
        refine z_lv (lv2 := [(0, .ref (G.1 + 81)), (2, .ref (G.1 + a2)), (3, .int y12), (4, .int y13), (5, .int y14), (6, .int p21.1), (7, .int 0)]) [2, 3, 4, 5, 6, 1, 0] rfl ?_
        refine wX1_placeTwo_l97 C hs0 hL a1 h1 a2 h2 _ pp ?_ FU p21.2 y12 y13 y14 p21.1 0 hf
        · intro M41 y42 y43 y44 hf
          refine z_aload_n C 0 0 dX1_placeTwo_154 rfl rfl ?_
          refine z_getR C ok_X1 (lay_c81 hL) 3 (60) (by decide) rfl (lay_r81_3 hL) q_fl_X1_9 dX1_placeTwo_155 ?_
          refine z_iload C 4 dX1_placeTwo_158 rfl ?_
          refine z_iconst C 0 dX1_placeTwo_160 (by decide) ?_
          replace hf := bd_out hf
          obtain ⟨p45, e46, hf⟩ := hf
          refine z_cV0 C [] (tX0_lay l G hL M41 y44 0 _ e46) lk_X0_lay ok_X0 (lay_c60 hL) q_ml_X1_39 rfl ⟨Nat.le_of_ble_eq_true rfl, Nat.le_of_ble_eq_true rfl⟩ rfl (Nat.le_of_ble_eq_true rfl) ⟨Nat.le_refl _, Nat.le_refl _⟩ dX1_placeTwo_161 ?_
          refine z_iinc C 4 (y44 + 1) [(5, .int (y44 + 1)), (0, .ref (G.1 + 81)), (2, .ref (G.1 + a2)), (3, .int y42), (4, .int y43)] dX1_placeTwo_164 rfl rfl (by decide) rfl rfl ?_
          refine z_goto C 44 dX1_placeTwo_167 (by decide) ?_
          refine z_lv (lv2 := [(0, .ref (G.1 + 81)), (2, .ref (G.1 + a2)), (3, .int y42), (4, .int y43), (5, .int (y44 + 1))]) [1, 2, 3, 4, 0] rfl ?_
          exact ih p45 y42 y43 (y44 + 1)  hf
      · replace hf := ite_t c18 hf
        refine z_goto C 164 dX1_placeTwo_68 (by decide) ?_
        refine z_iinc C 4 (y14 + 1) [(5, .int (y14 + 1)), (0, .ref (G.1 + 81)), (2, .ref (G.1 + a2)), (3, .int y12), (4, .int y13)] dX1_placeTwo_164 rfl rfl (by decide) rfl rfl ?_
        refine z_goto C 44 dX1_placeTwo_167 (by decide) ?_
        refine z_lv (lv2 := [(0, .ref (G.1 + 81)), (2, .ref (G.1 + a2)), (3, .int y12), (4, .int y13), (5, .int (y14 + 1))]) [1, 2, 3, 4, 0] rfl ?_
        exact ih M11 y12 y13 (y14 + 1)  hf
set_option maxHeartbeats 4000000 in
set_option maxRecDepth 100000 in
theorem tX1_placeTwo (l : Launch) (G : GG) {K : SK} (hL : Lay K) (M : MM) (a1 : Nat) (h1 : Par K a1) (a2 : Nat) (h2 : Lw K a2) (x3 : Int32) (x4 : Int32) (pp : MM) (hf : fX1_placeTwo M a1 a2 x3 x4 = some pp) : Ct l yX1_placeTwo cX1_placeTwo 8 none 5 0 0 G K M [.ref (G.1 + 81), .ref (G.1 + a1), .ref (G.1 + a2), .int x3, .int x4] none K pp := by
  refine z_enter (lv := [(0, .ref (G.1 + 81)), (1, .ref (G.1 + a1)), (2, .ref (G.1 + a2)), (3, .int x3), (4, .int x4)]) (by decide +kernel) (Nat.le_of_ble_eq_true rfl) rfl ?_
  intro p e s m args below meth c C hnm hs0
  replace C : CX p s m args meth c cX1_placeTwo 8 none RX1 G := C
  unfold fX1_placeTwo at hf
  refine z_aload_n C 0 0 dX1_placeTwo_0 rfl rfl ?_
  refine z_getR C ok_X1 (lay_c81 hL) 3 (60) (by decide) rfl (lay_r81_3 hL) q_fl_X1_9 dX1_placeTwo_1 ?_
  refine z_aload_n C 1 1 dX1_placeTwo_4 rfl rfl ?_
  replace hf := bd_out hf
  obtain ⟨p1, e2, hf⟩ := hf
  refine z_cV0 C [] (tX0_begin l G hL M a1 h1 _ e2) lk_X0_begin ok_X0 (lay_c60 hL) q_ml_X1_26 rfl ⟨Nat.le_of_ble_eq_true rfl, Nat.le_of_ble_eq_true rfl⟩ rfl (Nat.le_of_ble_eq_true rfl) ⟨Nat.le_refl _, Nat.le_refl _⟩ dX1_placeTwo_5 ?_
  refine z_aload_n C 0 0 dX1_placeTwo_8 rfl rfl ?_
  replace hf := bd_out hf
  obtain ⟨p3, e4, hf⟩ := hf
  refine z_cV0 C [] (tX1_begin l G hL p1  _ e4) lk_X1_begin ok_X1 (lay_c81 hL) q_ml_X1_32 rfl ⟨Nat.le_of_ble_eq_true rfl, Nat.le_of_ble_eq_true rfl⟩ rfl (Nat.le_of_ble_eq_true rfl) ⟨Nat.le_refl _, Nat.le_refl _⟩ dX1_placeTwo_9 ?_
  refine z_aload_n C 0 0 dX1_placeTwo_12 rfl rfl ?_
  refine z_getR C ok_X1 (lay_c81 hL) 3 (60) (by decide) rfl (lay_r81_3 hL) q_fl_X1_9 dX1_placeTwo_13 ?_
  refine z_aload_n C 1 1 dX1_placeTwo_16 rfl rfl ?_
  refine z_getR C ok_X5 (Par_o h1) 4 (a1 + 1) (by decide) rfl (Par_r4 h1) q_fl_X1_34 dX1_placeTwo_17 ?_
  refine z_iload_n C 3 3 dX1_placeTwo_20 rfl rfl ?_
  replace hf := gd_out hf
  obtain ⟨g5, hf⟩ := hf
  refine z_iald C (Par_c1 h1) (inb_in g5) dX1_placeTwo_21 ?_
  refine z_iconst C 0 dX1_placeTwo_22 (by decide) ?_
  replace hf := bd_out hf
  obtain ⟨p6, e7, hf⟩ := hf
  refine z_cV0 C [] (tX0_lay l G hL p3 (gI p3 (a1 + 1) (ix x3)) 0 _ e7) lk_X0_lay ok_X0 (lay_c60 hL) q_ml_X1_39 rfl ⟨Nat.le_of_ble_eq_true rfl, Nat.le_of_ble_eq_true rfl⟩ rfl (Nat.le_of_ble_eq_true rfl) ⟨Nat.le_refl _, Nat.le_refl _⟩ dX1_placeTwo_23 ?_
  refine z_aload_n C 0 0 dX1_placeTwo_26 rfl rfl ?_
  refine z_getR C ok_X1 (lay_c81 hL) 3 (60) (by decide) rfl (lay_r81_3 hL) q_fl_X1_9 dX1_placeTwo_27 ?_
  refine z_aload_n C 1 1 dX1_placeTwo_30 rfl rfl ?_
  refine z_getR C ok_X5 (Par_o h1) 4 (a1 + 1) (by decide) rfl (Par_r4 h1) q_fl_X1_34 dX1_placeTwo_31 ?_
  refine z_iload C 4 dX1_placeTwo_34 rfl ?_
  replace hf := gd_out hf
  obtain ⟨g8, hf⟩ := hf
  refine z_iald C (Par_c1 h1) (inb_in g8) dX1_placeTwo_36 ?_
  refine z_iconst C 0 dX1_placeTwo_37 (by decide) ?_
  replace hf := bd_out hf
  obtain ⟨p9, e10, hf⟩ := hf
  refine z_cV0 C [] (tX0_lay l G hL p6 (gI p6 (a1 + 1) (ix x4)) 0 _ e10) lk_X0_lay ok_X0 (lay_c60 hL) q_ml_X1_39 rfl ⟨Nat.le_of_ble_eq_true rfl, Nat.le_of_ble_eq_true rfl⟩ rfl (Nat.le_of_ble_eq_true rfl) ⟨Nat.le_refl _, Nat.le_refl _⟩ dX1_placeTwo_38 ?_
  refine z_iconst C 0 dX1_placeTwo_41 (by decide) ?_
  refine z_istore C [(5, .int 0), (0, .ref (G.1 + 81)), (1, .ref (G.1 + a1)), (2, .ref (G.1 + a2)), (3, .int x3), (4, .int x4)] dX1_placeTwo_42 (by decide) rfl rfl ?_
  refine z_lv (lv2 := [(0, .ref (G.1 + 81)), (2, .ref (G.1 + a2)), (3, .int x3), (4, .int x4), (5, .int 0)]) [1, 3, 4, 5, 0] rfl ?_
  exact wX1_placeTwo_l44 C hs0 hL a1 h1 a2 h2 pp FU p9 x3 x4 0 hf
set_option maxHeartbeats 4000000 in
set_option maxRecDepth 100000 in
theorem wX1_turnOne_l15 (C : CX p s m args meth c cX1_turnOne 5 none RX1 G) (hs0 : s.heap.size = G.1 + K.1) (hL : Lay K) (a1 : Nat) (h1 : Par K a1) (a2 : Nat) (h2 : Lw K a2)  (pp : MM)  : ∀ (n : Nat) (M5 : MM) (y6 : Int32) (y7 : Int32) (hf : fX1_turnOne_l15 a1 a2 n M5 y6 y7 = some pp), Z p l e (rmo 4 0 0) s m args below meth c 5 G (MQ below (QC G none K pp) args s 0 0 (AG G)) K 0 0 M5 15 [(0, .ref (G.1 + 81)), (2, .ref (G.1 + a2)), (3, .int y6), (4, .int y7)] [] := by
  intro n
  induction n with
  | zero => intro M5 y6 y7 hf; exact nomatch (show (none : Option MM) = some pp from hf)
  | succ n ih =>
    intro M5 y6 y7 hf
    rw [fX1_turnOne_l15.eq_2] at hf
    refine z_iload C 3 dX1_turnOne_15 rfl ?_
    refine z_bipush C 8 dX1_turnOne_17 (by decide) ?_
    refine z_icmp_ge C 53 dX1_turnOne_19 (by decide) (fun c8 => ?_) (fun c8 => ?_)
    · replace hf := ite_t c8 hf
      cases hf
      exact z_vret C rfl dX1_turnOne_53
    · replace hf := ite_f c8 hf
      refine z_aload_n C 0 0 dX1_turnOne_22 rfl rfl ?_
      refine z_getR C ok_X1 (lay_c81 hL) 3 (60) (by decide) rfl (lay_r81_3 hL) q_fl_X1_9 dX1_turnOne_23 ?_
      refine z_iload_n C 2 3 dX1_turnOne_26 rfl rfl ?_
      refine z_iload C 3 dX1_turnOne_27 rfl ?_
      replace hf := bd_out hf
      obtain ⟨p9, e10, hf⟩ := hf
      refine z_cV0 C [] (tX0_face l G hL M5 y6 y7 _ e10) lk_X0_face ok_X0 (lay_c60 hL) q_ml_X1_66 rfl ⟨Nat.le_of_ble_eq_true rfl, Nat.le_of_ble_eq_true rfl⟩ rfl (Nat.le_of_ble_eq_true rfl) ⟨Nat.le_refl _, Nat.le_refl _⟩ dX1_turnOne_29 ?_
      refine z_aload_n C 0 0 dX1_turnOne_32 rfl rfl ?_
      refine z_aload_n C 0 0 dX1_turnOne_33 rfl rfl ?_
      refine z_getR C ok_X1 (lay_c81 hL) 3 (60) (by decide) rfl (lay_r81_3 hL) q_fl_X1_9 dX1_turnOne_34 ?_
      refine z_aload_n C 1 2 dX1_turnOne_37 rfl rfl ?_
      replace hf := bd_out hf
      obtain ⟨p11, e12, hf⟩ := hf
      refine z_cV1 C [.ref (G.1 + 81)] (tX0_sumBy l G hL p9 a2 h2 _ e12) lk_X0_sumBy ok_X0 (lay_c60 hL) q_ml_X1_43 rfl ⟨Nat.le_of_ble_eq_true rfl, Nat.le_of_ble_eq_true rfl⟩ rfl (Nat.le_of_ble_eq_true rfl) ⟨Nat.le_refl _, Nat.le_refl _⟩ dX1_turnOne_38 ?_
      refine z_iload C 3 dX1_turnOne_41 rfl ?_
      refine z_iconst C 0 dX1_turnOne_43 (by decide) ?_
      replace hf := bd_out hf
      obtain ⟨p13, e14, hf⟩ := hf
      refine z_cV0 C [] (tX1_offer l G hL p11.2 p11.1 y7 0 _ e14) lk_X1_offer ok_X1 (lay_c81 hL) q_ml_X1_59 rfl ⟨Nat.le_of_ble_eq_true rfl, Nat.le_of_ble_eq_true rfl⟩ rfl (Nat.le_of_ble_eq_true rfl) ⟨Nat.le_refl _, Nat.le_refl _⟩ dX1_turnOne_44 ?_
      refine z_iinc C 3 (y7 + 1) [(4, .int (y7 + 1)), (0, .ref (G.1 + 81)), (2, .ref (G.1 + a2)), (3, .int y6)] dX1_turnOne_47 rfl rfl (by decide) rfl rfl ?_
      refine z_goto C 15 dX1_turnOne_50 (by decide) ?_
      refine z_lv (lv2 := [(0, .ref (G.1 + 81)), (2, .ref (G.1 + a2)), (3, .int y6), (4, .int (y7 + 1))]) [1, 2, 3, 0] rfl ?_
      exact ih p13 y6 (y7 + 1)  hf
set_option maxHeartbeats 4000000 in
set_option maxRecDepth 100000 in
theorem tX1_turnOne (l : Launch) (G : GG) {K : SK} (hL : Lay K) (M : MM) (a1 : Nat) (h1 : Par K a1) (a2 : Nat) (h2 : Lw K a2) (x3 : Int32) (pp : MM) (hf : fX1_turnOne M a1 a2 x3 = some pp) : Ct l yX1_turnOne cX1_turnOne 5 none 4 0 0 G K M [.ref (G.1 + 81), .ref (G.1 + a1), .ref (G.1 + a2), .int x3] none K pp := by
  refine z_enter (lv := [(0, .ref (G.1 + 81)), (1, .ref (G.1 + a1)), (2, .ref (G.1 + a2)), (3, .int x3)]) (by decide +kernel) (Nat.le_of_ble_eq_true rfl) rfl ?_
  intro p e s m args below meth c C hnm hs0
  replace C : CX p s m args meth c cX1_turnOne 5 none RX1 G := C
  unfold fX1_turnOne at hf
  refine z_aload_n C 0 0 dX1_turnOne_0 rfl rfl ?_
  refine z_getR C ok_X1 (lay_c81 hL) 3 (60) (by decide) rfl (lay_r81_3 hL) q_fl_X1_9 dX1_turnOne_1 ?_
  refine z_aload_n C 1 1 dX1_turnOne_4 rfl rfl ?_
  replace hf := bd_out hf
  obtain ⟨p1, e2, hf⟩ := hf
  refine z_cV0 C [] (tX0_begin l G hL M a1 h1 _ e2) lk_X0_begin ok_X0 (lay_c60 hL) q_ml_X1_26 rfl ⟨Nat.le_of_ble_eq_true rfl, Nat.le_of_ble_eq_true rfl⟩ rfl (Nat.le_of_ble_eq_true rfl) ⟨Nat.le_refl _, Nat.le_refl _⟩ dX1_turnOne_5 ?_
  refine z_aload_n C 0 0 dX1_turnOne_8 rfl rfl ?_
  replace hf := bd_out hf
  obtain ⟨p3, e4, hf⟩ := hf
  refine z_cV0 C [] (tX1_begin l G hL p1  _ e4) lk_X1_begin ok_X1 (lay_c81 hL) q_ml_X1_32 rfl ⟨Nat.le_of_ble_eq_true rfl, Nat.le_of_ble_eq_true rfl⟩ rfl (Nat.le_of_ble_eq_true rfl) ⟨Nat.le_refl _, Nat.le_refl _⟩ dX1_turnOne_9 ?_
  refine z_iconst C 0 dX1_turnOne_12 (by decide) ?_
  refine z_istore C [(4, .int 0), (0, .ref (G.1 + 81)), (1, .ref (G.1 + a1)), (2, .ref (G.1 + a2)), (3, .int x3)] dX1_turnOne_13 (by decide) rfl rfl ?_
  refine z_lv (lv2 := [(0, .ref (G.1 + 81)), (2, .ref (G.1 + a2)), (3, .int x3), (4, .int 0)]) [1, 3, 4, 0] rfl ?_
  exact wX1_turnOne_l15 C hs0 hL a1 h1 a2 h2 pp FU p3 x3 0 hf
set_option maxHeartbeats 4000000 in
set_option maxRecDepth 100000 in
theorem wX1_addSpoon_l91 (C : CX p s m args meth c cX1_addSpoon 7 none RX1 G) (hs0 : s.heap.size = G.1 + K.1) (hL : Lay K) (a1 : Nat) (h1 : Par K a1) (a2 : Nat) (h2 : Lw K a2) (k137 : MM → Int32 → Int32 → Int32 → Option MM) (pp : MM) (hk137 : ∀ (M27 : MM) (y28 : Int32) (y29 : Int32) (y30 : Int32), k137 M27 y28 y29 y30 = some pp → Z p l e (rmo 5 0 0) s m args below meth c 7 G (MQ below (QC G none K pp) args s 0 0 (AG G)) K 0 0 M27 137 [(0, .ref (G.1 + 81)), (2, .ref (G.1 + a2)), (3, .int y28), (4, .int y29), (5, .int y30)] []) : ∀ (n : Nat) (M21 : MM) (y22 : Int32) (y23 : Int32) (y24 : Int32) (y25 : Int32) (hf : fX1_addSpoon_l91 a1 a2 k137 n M21 y22 y23 y24 y25 = some pp), Z p l e (rmo 5 0 0) s m args below meth c 7 G (MQ below (QC G none K pp) args s 0 0 (AG G)) K 0 0 M21 91 [(0, .ref (G.1 + 81)), (2, .ref (G.1 + a2)), (3, .int y22), (4, .int y23), (5, .int y24), (6, .int y25)] [] := by
  intro n
  induction n with
  | zero => intro M21 y22 y23 y24 y25 hf; exact nomatch (show (none : Option MM) = some pp from hf)
  | succ n ih =>
    intro M21 y22 y23 y24 y25 hf
    rw [fX1_addSpoon_l91.eq_2] at hf
    refine z_iload C 5 dX1_addSpoon_91 rfl ?_
    refine z_bipush C 8 dX1_addSpoon_93 (by decide) ?_
    refine z_icmp_ge C 137 dX1_addSpoon_95 (by decide) (fun c26 => ?_) (fun c26 => ?_)
    · replace hf := ite_t c26 hf
      refine z_lv (lv2 := [(0, .ref (G.1 + 81)), (2, .ref (G.1 + a2)), (3, .int y22), (4, .int y23), (5, .int y24)]) [0, 1, 2, 3, 4] rfl ?_
      exact hk137 M21 y22 y23 y24  hf
    · replace hf := ite_f c26 hf
      refine z_aload_n C 0 0 dX1_addSpoon_98 rfl rfl ?_
      refine z_getR C ok_X1 (lay_c81 hL) 3 (60) (by decide) rfl (lay_r81_3 hL) q_fl_X1_9 dX1_addSpoon_99 ?_
      refine z_iload C 3 dX1_addSpoon_102 rfl ?_
      refine z_iload C 5 dX1_addSpoon_104 rfl ?_
      replace hf := bd_out hf
      obtain ⟨p31, e32, hf⟩ := hf
      refine z_cV0 C [] (tX0_face l G hL M21 y23 y25 _ e32) lk_X0_face ok_X0 (lay_c60 hL) q_ml_X1_66 rfl ⟨Nat.le_of_ble_eq_true rfl, Nat.le_of_ble_eq_true rfl⟩ rfl (Nat.le_of_ble_eq_true rfl) ⟨Nat.le_refl _, Nat.le_refl _⟩ dX1_addSpoon_106 ?_
      refine z_aload_n C 0 0 dX1_addSpoon_109 rfl rfl ?_
      refine z_aload_n C 0 0 dX1_addSpoon_110 rfl rfl ?_
      refine z_getR C ok_X1 (lay_c81 hL) 3 (60) (by decide) rfl (lay_r81_3 hL) q_fl_X1_9 dX1_addSpoon_111 ?_
      refine z_iload_n C 2 3 dX1_addSpoon_114 rfl rfl ?_
      refine z_aload_n C 1 2 dX1_addSpoon_115 rfl rfl ?_
      replace hf := bd_out hf
      obtain ⟨p33, e34, hf⟩ := hf
      refine z_cV1 C [.ref (G.1 + 81)] (tX0_seatsOf l G hL p31 y22 a2 h2 _ e34) lk_X0_seatsOf ok_X0 (lay_c60 hL) q_ml_X1_80 rfl ⟨Nat.le_of_ble_eq_true rfl, Nat.le_of_ble_eq_true rfl⟩ rfl (Nat.le_of_ble_eq_true rfl) ⟨Nat.le_refl _, Nat.le_refl _⟩ dX1_addSpoon_116 ?_
      refine z_bipush C 8 dX1_addSpoon_119 (by decide) ?_
      refine z_iload C 4 dX1_addSpoon_121 rfl ?_
      refine z_imul C dX1_addSpoon_123 ?_
      refine z_iload C 5 dX1_addSpoon_124 rfl ?_
      refine z_iadd C dX1_addSpoon_126 ?_
      refine z_iconst C 0 dX1_addSpoon_127 (by decide) ?_
      replace hf := bd_out hf
      obtain ⟨p35, e36, hf⟩ := hf
      refine z_cV0 C [] (tX1_offer l G hL p33.2 p33.1 ((8 * y24) + y25) 0 _ e36) lk_X1_offer ok_X1 (lay_c81 hL) q_ml_X1_59 rfl ⟨Nat.le_of_ble_eq_true rfl, Nat.le_of_ble_eq_true rfl⟩ rfl (Nat.le_of_ble_eq_true rfl) ⟨Nat.le_refl _, Nat.le_refl _⟩ dX1_addSpoon_128 ?_
      refine z_iinc C 5 (y25 + 1) [(6, .int (y25 + 1)), (0, .ref (G.1 + 81)), (2, .ref (G.1 + a2)), (3, .int y22), (4, .int y23), (5, .int y24)] dX1_addSpoon_131 rfl rfl (by decide) rfl rfl ?_
      refine z_goto C 91 dX1_addSpoon_134 (by decide) ?_
      refine z_lv (lv2 := [(0, .ref (G.1 + 81)), (2, .ref (G.1 + a2)), (3, .int y22), (4, .int y23), (5, .int y24), (6, .int (y25 + 1))]) [1, 2, 3, 4, 5, 0] rfl ?_
      exact ih p35 y22 y23 y24 (y25 + 1)  hf
set_option maxHeartbeats 4000000 in
set_option maxRecDepth 100000 in
theorem wX1_addSpoon_l32 (C : CX p s m args meth c cX1_addSpoon 7 none RX1 G) (hs0 : s.heap.size = G.1 + K.1) (hL : Lay K) (a1 : Nat) (h1 : Par K a1) (a2 : Nat) (h2 : Lw K a2)  (pp : MM)  : ∀ (n : Nat) (M8 : MM) (y9 : Int32) (y10 : Int32) (y11 : Int32) (hf : fX1_addSpoon_l32 a1 a2 n M8 y9 y10 y11 = some pp), Z p l e (rmo 5 0 0) s m args below meth c 7 G (MQ below (QC G none K pp) args s 0 0 (AG G)) K 0 0 M8 32 [(0, .ref (G.1 + 81)), (2, .ref (G.1 + a2)), (3, .int y9), (4, .int y10), (5, .int y11)] [] := by
  intro n
  induction n with
  | zero => intro M8 y9 y10 y11 hf; exact nomatch (show (none : Option MM) = some pp from hf)
  | succ n ih =>
    intro M8 y9 y10 y11 hf
    rw [fX1_addSpoon_l32.eq_2] at hf
    refine z_iload C 4 dX1_addSpoon_32 rfl ?_
    refine z_aload_n C 0 0 dX1_addSpoon_34 rfl rfl ?_
    refine z_getR C ok_X1 (lay_c81 hL) 3 (60) (by decide) rfl (lay_r81_3 hL) q_fl_X1_9 dX1_addSpoon_35 ?_
    refine z_cV1 C [.int y11] (tX0_squares l G hL M8 ) lk_X0_squares ok_X0 (lay_c60 hL) q_ml_X1_47 rfl ⟨Nat.le_of_ble_eq_true rfl, Nat.le_of_ble_eq_true rfl⟩ rfl (Nat.le_of_ble_eq_true rfl) ⟨Nat.le_refl _, Nat.le_refl _⟩ dX1_addSpoon_38 ?_
    refine z_icmp_ge C 153 dX1_addSpoon_41 (by decide) (fun c12 => ?_) (fun c12 => ?_)
    · replace hf := ite_t c12 hf
      cases hf
      exact z_vret C rfl dX1_addSpoon_153
    · replace hf := ite_f c12 hf
      refine z_aload_n C 0 0 dX1_addSpoon_44 rfl rfl ?_
      refine z_getR C ok_X1 (lay_c81 hL) 3 (60) (by decide) rfl (lay_r81_3 hL) q_fl_X1_9 dX1_addSpoon_45 ?_
      refine z_iload C 4 dX1_addSpoon_48 rfl ?_
      replace hf := bd_out hf
      obtain ⟨p13, e14, hf⟩ := hf
      refine z_cV1 C [] (tX0_isFree l G hL M8 y11 _ e14) lk_X0_isFree ok_X0 (lay_c60 hL) q_ml_X1_51 rfl ⟨Nat.le_of_ble_eq_true rfl, Nat.le_of_ble_eq_true rfl⟩ rfl (Nat.le_of_ble_eq_true rfl) ⟨Nat.le_refl _, Nat.le_refl _⟩ dX1_addSpoon_50 ?_
      refine z_if_ne C 59 dX1_addSpoon_53 (by decide) (fun c15 => ?_) (fun c15 => ?_)
      · replace hf := ite_f c15 hf
        refine z_aload_n C 0 0 dX1_addSpoon_59 rfl rfl ?_
        refine z_getR C ok_X1 (lay_c81 hL) 3 (60) (by decide) rfl (lay_r81_3 hL) q_fl_X1_9 dX1_addSpoon_60 ?_
        refine z_getR C ok_X0 (lay_c60 hL) 0 (61) (by decide) rfl (lay_r60_0 hL) q_fl_X1_73 dX1_addSpoon_63 ?_
        refine z_getR C ok_X5 (lay_c61 hL) 7 (65) (by decide) rfl (lay_r61_7 hL) q_fl_X1_77 dX1_addSpoon_66 ?_
        refine z_iload C 3 dX1_addSpoon_69 rfl ?_
        refine z_iload C 4 dX1_addSpoon_71 rfl ?_
        replace hf := gd_out hf
        obtain ⟨g16, hf⟩ := hf
        refine z_iast C (lay_c65 hL) (inb_in g16) dX1_addSpoon_73 ?_
        refine z_M (fun M17 e18 => ?_)
        replace hf := bnd_out e18 hf
        refine z_aload_n C 0 0 dX1_addSpoon_74 rfl rfl ?_
        refine z_getR C ok_X1 (lay_c81 hL) 3 (60) (by decide) rfl (lay_r81_3 hL) q_fl_X1_9 dX1_addSpoon_75 ?_
        refine z_iload C 4 dX1_addSpoon_78 rfl ?_
        refine z_bipush C 20 dX1_addSpoon_80 (by decide) ?_
        refine z_iload C 3 dX1_addSpoon_82 rfl ?_
        refine z_iadd C dX1_addSpoon_84 ?_
        replace hf := bd_out hf
        obtain ⟨p19, e20, hf⟩ := hf
        refine z_cV0 C [] (tX0_lay l G hL M17 y11 (20 + y10) _ e20) lk_X0_lay ok_X0 (lay_c60 hL) q_ml_X1_39 rfl ⟨Nat.le_of_ble_eq_true rfl, Nat.le_of_ble_eq_true rfl⟩ rfl (Nat.le_of_ble_eq_true rfl) ⟨Nat.le_refl _, Nat.le_refl _⟩ dX1_addSpoon_85 ?_
        refine z_iconst C 0 dX1_addSpoon_88 (by decide) ?_
        refine z_istore C [(6, .int 0), (0, .ref (G.1 + 81)), (2, .ref (G.1 + a2)), (3, .int y9), (4, .int y10), (5, .int y11)] dX1_addSpoon_89 (by decide) rfl rfl ?_
        refine z_lv (lv2 := [(0, .ref (G.1 + 81)), (2, .ref (G.1 + a2)), (3, .int y9), (4, .int y10), (5, .int y11), (6, .int 0)]) [1, 2, 3, 4, 5, 0] rfl ?_
        refine wX1_addSpoon_l91 C hs0 hL a1 h1 a2 h2 _ pp ?_ FU p19 y9 y10 y11 0 hf
        · intro M37 y38 y39 y40 hf
          refine z_aload_n C 0 0 dX1_addSpoon_137 rfl rfl ?_
          refine z_getR C ok_X1 (lay_c81 hL) 3 (60) (by decide) rfl (lay_r81_3 hL) q_fl_X1_9 dX1_addSpoon_138 ?_
          refine z_iload C 4 dX1_addSpoon_141 rfl ?_
          refine z_iconst C 0 dX1_addSpoon_143 (by decide) ?_
          replace hf := bd_out hf
          obtain ⟨p41, e42, hf⟩ := hf
          refine z_cV0 C [] (tX0_lay l G hL M37 y40 0 _ e42) lk_X0_lay ok_X0 (lay_c60 hL) q_ml_X1_39 rfl ⟨Nat.le_of_ble_eq_true rfl, Nat.le_of_ble_eq_true rfl⟩ rfl (Nat.le_of_ble_eq_true rfl) ⟨Nat.le_refl _, Nat.le_refl _⟩ dX1_addSpoon_144 ?_
          refine z_iinc C 4 (y40 + 1) [(5, .int (y40 + 1)), (0, .ref (G.1 + 81)), (2, .ref (G.1 + a2)), (3, .int y38), (4, .int y39)] dX1_addSpoon_147 rfl rfl (by decide) rfl rfl ?_
          refine z_goto C 32 dX1_addSpoon_150 (by decide) ?_
          refine z_lv (lv2 := [(0, .ref (G.1 + 81)), (2, .ref (G.1 + a2)), (3, .int y38), (4, .int y39), (5, .int (y40 + 1))]) [1, 2, 3, 4, 0] rfl ?_
          exact ih p41 y38 y39 (y40 + 1)  hf
      · replace hf := ite_t c15 hf
        refine z_goto C 147 dX1_addSpoon_56 (by decide) ?_
        refine z_iinc C 4 (y11 + 1) [(5, .int (y11 + 1)), (0, .ref (G.1 + 81)), (2, .ref (G.1 + a2)), (3, .int y9), (4, .int y10)] dX1_addSpoon_147 rfl rfl (by decide) rfl rfl ?_
        refine z_goto C 32 dX1_addSpoon_150 (by decide) ?_
        refine z_lv (lv2 := [(0, .ref (G.1 + 81)), (2, .ref (G.1 + a2)), (3, .int y9), (4, .int y10), (5, .int (y11 + 1))]) [1, 2, 3, 4, 0] rfl ?_
        exact ih M8 y9 y10 (y11 + 1)  hf
set_option maxHeartbeats 4000000 in
set_option maxRecDepth 100000 in
theorem tX1_addSpoon (l : Launch) (G : GG) {K : SK} (hL : Lay K) (M : MM) (a1 : Nat) (h1 : Par K a1) (a2 : Nat) (h2 : Lw K a2) (x3 : Int32) (pp : MM) (hf : fX1_addSpoon M a1 a2 x3 = some pp) : Ct l yX1_addSpoon cX1_addSpoon 7 none 5 0 0 G K M [.ref (G.1 + 81), .ref (G.1 + a1), .ref (G.1 + a2), .int x3] none K pp := by
  refine z_enter (lv := [(0, .ref (G.1 + 81)), (1, .ref (G.1 + a1)), (2, .ref (G.1 + a2)), (3, .int x3)]) (by decide +kernel) (Nat.le_of_ble_eq_true rfl) rfl ?_
  intro p e s m args below meth c C hnm hs0
  replace C : CX p s m args meth c cX1_addSpoon 7 none RX1 G := C
  unfold fX1_addSpoon at hf
  refine z_aload_n C 0 0 dX1_addSpoon_0 rfl rfl ?_
  refine z_getR C ok_X1 (lay_c81 hL) 3 (60) (by decide) rfl (lay_r81_3 hL) q_fl_X1_9 dX1_addSpoon_1 ?_
  refine z_aload_n C 1 1 dX1_addSpoon_4 rfl rfl ?_
  replace hf := bd_out hf
  obtain ⟨p1, e2, hf⟩ := hf
  refine z_cV0 C [] (tX0_begin l G hL M a1 h1 _ e2) lk_X0_begin ok_X0 (lay_c60 hL) q_ml_X1_26 rfl ⟨Nat.le_of_ble_eq_true rfl, Nat.le_of_ble_eq_true rfl⟩ rfl (Nat.le_of_ble_eq_true rfl) ⟨Nat.le_refl _, Nat.le_refl _⟩ dX1_addSpoon_5 ?_
  refine z_aload_n C 0 0 dX1_addSpoon_8 rfl rfl ?_
  replace hf := bd_out hf
  obtain ⟨p3, e4, hf⟩ := hf
  refine z_cV0 C [] (tX1_begin l G hL p1  _ e4) lk_X1_begin ok_X1 (lay_c81 hL) q_ml_X1_32 rfl ⟨Nat.le_of_ble_eq_true rfl, Nat.le_of_ble_eq_true rfl⟩ rfl (Nat.le_of_ble_eq_true rfl) ⟨Nat.le_refl _, Nat.le_refl _⟩ dX1_addSpoon_9 ?_
  refine z_aload_n C 0 0 dX1_addSpoon_12 rfl rfl ?_
  refine z_getR C ok_X1 (lay_c81 hL) 3 (60) (by decide) rfl (lay_r81_3 hL) q_fl_X1_9 dX1_addSpoon_13 ?_
  refine z_iload_n C 3 3 dX1_addSpoon_16 rfl rfl ?_
  replace hf := bd_out hf
  obtain ⟨p5, e6, hf⟩ := hf
  refine z_cV1 C [] (tX0_addSpoon l G hL p3 x3 _ e6) lk_X0_addSpoon ok_X0 (lay_c60 hL) q_ml_X1_69 rfl ⟨Nat.le_of_ble_eq_true rfl, Nat.le_of_ble_eq_true rfl⟩ rfl (Nat.le_of_ble_eq_true rfl) ⟨Nat.le_refl _, Nat.le_refl _⟩ dX1_addSpoon_17 ?_
  refine z_istore C [(4, .int p5.1), (0, .ref (G.1 + 81)), (1, .ref (G.1 + a1)), (2, .ref (G.1 + a2)), (3, .int x3)] dX1_addSpoon_20 (by decide) rfl rfl ?_
  refine z_iload C 0 dX1_addSpoon_22 rfl ?_
  refine z_iconst C (-1) dX1_addSpoon_24 (by decide) ?_
  refine z_icmp_ne C 29 dX1_addSpoon_25 (by decide) (fun c7 => ?_) (fun c7 => ?_)
  · replace hf := ite_f c7 hf
    refine z_iconst C 0 dX1_addSpoon_29 (by decide) ?_
    refine z_istore C [(5, .int 0), (4, .int p5.1), (0, .ref (G.1 + 81)), (1, .ref (G.1 + a1)), (2, .ref (G.1 + a2)), (3, .int x3)] dX1_addSpoon_30 (by decide) rfl rfl ?_
    refine z_lv (lv2 := [(0, .ref (G.1 + 81)), (2, .ref (G.1 + a2)), (3, .int x3), (4, .int p5.1), (5, .int 0)]) [2, 4, 5, 1, 0] rfl ?_
    exact wX1_addSpoon_l32 C hs0 hL a1 h1 a2 h2 pp FU p5.2 x3 p5.1 0 hf
  · replace hf := ite_t c7 hf
    cases hf
    exact z_vret C rfl dX1_addSpoon_28
set_option maxHeartbeats 4000000 in
set_option maxRecDepth 100000 in
theorem wX1_addWall_l14 (C : CX p s m args meth c cX1_addWall 4 none RX1 G) (hs0 : s.heap.size = G.1 + K.1) (hL : Lay K) (a1 : Nat) (h1 : Par K a1) (a2 : Nat) (h2 : Lw K a2)  (pp : MM)  : ∀ (n : Nat) (M5 : MM) (y6 : Int32) (hf : fX1_addWall_l14 a1 a2 n M5 y6 = some pp), Z p l e (rmo 4 0 0) s m args below meth c 4 G (MQ below (QC G none K pp) args s 0 0 (AG G)) K 0 0 M5 14 [(0, .ref (G.1 + 81)), (2, .ref (G.1 + a2)), (3, .int y6)] [] := by
  intro n
  induction n with
  | zero => intro M5 y6 hf; exact nomatch (show (none : Option MM) = some pp from hf)
  | succ n ih =>
    intro M5 y6 hf
    rw [fX1_addWall_l14.eq_2] at hf
    refine z_iload_n C 2 3 dX1_addWall_14 rfl rfl ?_
    refine z_aload_n C 0 0 dX1_addWall_15 rfl rfl ?_
    refine z_getR C ok_X1 (lay_c81 hL) 3 (60) (by decide) rfl (lay_r81_3 hL) q_fl_X1_9 dX1_addWall_16 ?_
    refine z_cV1 C [.int y6] (tX0_squares l G hL M5 ) lk_X0_squares ok_X0 (lay_c60 hL) q_ml_X1_47 rfl ⟨Nat.le_of_ble_eq_true rfl, Nat.le_of_ble_eq_true rfl⟩ rfl (Nat.le_of_ble_eq_true rfl) ⟨Nat.le_refl _, Nat.le_refl _⟩ dX1_addWall_19 ?_
    refine z_icmp_ge C 77 dX1_addWall_22 (by decide) (fun c7 => ?_) (fun c7 => ?_)
    · replace hf := ite_t c7 hf
      cases hf
      exact z_vret C rfl dX1_addWall_77
    · replace hf := ite_f c7 hf
      refine z_aload_n C 0 0 dX1_addWall_25 rfl rfl ?_
      refine z_getR C ok_X1 (lay_c81 hL) 3 (60) (by decide) rfl (lay_r81_3 hL) q_fl_X1_9 dX1_addWall_26 ?_
      refine z_iload_n C 2 3 dX1_addWall_29 rfl rfl ?_
      replace hf := bd_out hf
      obtain ⟨p8, e9, hf⟩ := hf
      refine z_cV1 C [] (tX0_isFree l G hL M5 y6 _ e9) lk_X0_isFree ok_X0 (lay_c60 hL) q_ml_X1_51 rfl ⟨Nat.le_of_ble_eq_true rfl, Nat.le_of_ble_eq_true rfl⟩ rfl (Nat.le_of_ble_eq_true rfl) ⟨Nat.le_refl _, Nat.le_refl _⟩ dX1_addWall_30 ?_
      refine z_if_ne C 39 dX1_addWall_33 (by decide) (fun c10 => ?_) (fun c10 => ?_)
      · replace hf := ite_f c10 hf
        refine z_aload_n C 0 0 dX1_addWall_39 rfl rfl ?_
        refine z_getR C ok_X1 (lay_c81 hL) 3 (60) (by decide) rfl (lay_r81_3 hL) q_fl_X1_9 dX1_addWall_40 ?_
        refine z_iload_n C 2 3 dX1_addWall_43 rfl rfl ?_
        refine z_iconst C 1 dX1_addWall_44 (by decide) ?_
        replace hf := bd_out hf
        obtain ⟨p11, e12, hf⟩ := hf
        refine z_cV0 C [] (tX0_lay l G hL M5 y6 1 _ e12) lk_X0_lay ok_X0 (lay_c60 hL) q_ml_X1_39 rfl ⟨Nat.le_of_ble_eq_true rfl, Nat.le_of_ble_eq_true rfl⟩ rfl (Nat.le_of_ble_eq_true rfl) ⟨Nat.le_refl _, Nat.le_refl _⟩ dX1_addWall_45 ?_
        refine z_aload_n C 0 0 dX1_addWall_48 rfl rfl ?_
        refine z_aload_n C 0 0 dX1_addWall_49 rfl rfl ?_
        refine z_getR C ok_X1 (lay_c81 hL) 3 (60) (by decide) rfl (lay_r81_3 hL) q_fl_X1_9 dX1_addWall_50 ?_
        refine z_aload_n C 1 2 dX1_addWall_53 rfl rfl ?_
        replace hf := bd_out hf
        obtain ⟨p13, e14, hf⟩ := hf
        refine z_cV1 C [.ref (G.1 + 81)] (tX0_sumBy l G hL p11 a2 h2 _ e14) lk_X0_sumBy ok_X0 (lay_c60 hL) q_ml_X1_43 rfl ⟨Nat.le_of_ble_eq_true rfl, Nat.le_of_ble_eq_true rfl⟩ rfl (Nat.le_of_ble_eq_true rfl) ⟨Nat.le_refl _, Nat.le_refl _⟩ dX1_addWall_54 ?_
        refine z_iload_n C 2 3 dX1_addWall_57 rfl rfl ?_
        refine z_iconst C 1 dX1_addWall_58 (by decide) ?_
        replace hf := bd_out hf
        obtain ⟨p15, e16, hf⟩ := hf
        refine z_cV0 C [] (tX1_offer l G hL p13.2 p13.1 y6 1 _ e16) lk_X1_offer ok_X1 (lay_c81 hL) q_ml_X1_59 rfl ⟨Nat.le_of_ble_eq_true rfl, Nat.le_of_ble_eq_true rfl⟩ rfl (Nat.le_of_ble_eq_true rfl) ⟨Nat.le_refl _, Nat.le_refl _⟩ dX1_addWall_59 ?_
        refine z_aload_n C 0 0 dX1_addWall_62 rfl rfl ?_
        refine z_getR C ok_X1 (lay_c81 hL) 3 (60) (by decide) rfl (lay_r81_3 hL) q_fl_X1_9 dX1_addWall_63 ?_
        refine z_iload_n C 2 3 dX1_addWall_66 rfl rfl ?_
        refine z_iconst C 0 dX1_addWall_67 (by decide) ?_
        replace hf := bd_out hf
        obtain ⟨p17, e18, hf⟩ := hf
        refine z_cV0 C [] (tX0_lay l G hL p15 y6 0 _ e18) lk_X0_lay ok_X0 (lay_c60 hL) q_ml_X1_39 rfl ⟨Nat.le_of_ble_eq_true rfl, Nat.le_of_ble_eq_true rfl⟩ rfl (Nat.le_of_ble_eq_true rfl) ⟨Nat.le_refl _, Nat.le_refl _⟩ dX1_addWall_68 ?_
        refine z_iinc C 2 (y6 + 1) [(3, .int (y6 + 1)), (0, .ref (G.1 + 81)), (2, .ref (G.1 + a2))] dX1_addWall_71 rfl rfl (by decide) rfl rfl ?_
        refine z_goto C 14 dX1_addWall_74 (by decide) ?_
        refine z_lv (lv2 := [(0, .ref (G.1 + 81)), (2, .ref (G.1 + a2)), (3, .int (y6 + 1))]) [1, 2, 0] rfl ?_
        exact ih p17 (y6 + 1)  hf
      · replace hf := ite_t c10 hf
        refine z_goto C 71 dX1_addWall_36 (by decide) ?_
        refine z_iinc C 2 (y6 + 1) [(3, .int (y6 + 1)), (0, .ref (G.1 + 81)), (2, .ref (G.1 + a2))] dX1_addWall_71 rfl rfl (by decide) rfl rfl ?_
        refine z_goto C 14 dX1_addWall_74 (by decide) ?_
        refine z_lv (lv2 := [(0, .ref (G.1 + 81)), (2, .ref (G.1 + a2)), (3, .int (y6 + 1))]) [1, 2, 0] rfl ?_
        exact ih M5 (y6 + 1)  hf
set_option maxHeartbeats 4000000 in
set_option maxRecDepth 100000 in
theorem tX1_addWall (l : Launch) (G : GG) {K : SK} (hL : Lay K) (M : MM) (a1 : Nat) (h1 : Par K a1) (a2 : Nat) (h2 : Lw K a2) (pp : MM) (hf : fX1_addWall M a1 a2 = some pp) : Ct l yX1_addWall cX1_addWall 4 none 4 0 0 G K M [.ref (G.1 + 81), .ref (G.1 + a1), .ref (G.1 + a2)] none K pp := by
  refine z_enter (lv := [(0, .ref (G.1 + 81)), (1, .ref (G.1 + a1)), (2, .ref (G.1 + a2))]) (by decide +kernel) (Nat.le_of_ble_eq_true rfl) rfl ?_
  intro p e s m args below meth c C hnm hs0
  replace C : CX p s m args meth c cX1_addWall 4 none RX1 G := C
  unfold fX1_addWall at hf
  refine z_aload_n C 0 0 dX1_addWall_0 rfl rfl ?_
  refine z_getR C ok_X1 (lay_c81 hL) 3 (60) (by decide) rfl (lay_r81_3 hL) q_fl_X1_9 dX1_addWall_1 ?_
  refine z_aload_n C 1 1 dX1_addWall_4 rfl rfl ?_
  replace hf := bd_out hf
  obtain ⟨p1, e2, hf⟩ := hf
  refine z_cV0 C [] (tX0_begin l G hL M a1 h1 _ e2) lk_X0_begin ok_X0 (lay_c60 hL) q_ml_X1_26 rfl ⟨Nat.le_of_ble_eq_true rfl, Nat.le_of_ble_eq_true rfl⟩ rfl (Nat.le_of_ble_eq_true rfl) ⟨Nat.le_refl _, Nat.le_refl _⟩ dX1_addWall_5 ?_
  refine z_aload_n C 0 0 dX1_addWall_8 rfl rfl ?_
  replace hf := bd_out hf
  obtain ⟨p3, e4, hf⟩ := hf
  refine z_cV0 C [] (tX1_begin l G hL p1  _ e4) lk_X1_begin ok_X1 (lay_c81 hL) q_ml_X1_32 rfl ⟨Nat.le_of_ble_eq_true rfl, Nat.le_of_ble_eq_true rfl⟩ rfl (Nat.le_of_ble_eq_true rfl) ⟨Nat.le_refl _, Nat.le_refl _⟩ dX1_addWall_9 ?_
  refine z_iconst C 0 dX1_addWall_12 (by decide) ?_
  refine z_istore_n C [(3, .int 0), (0, .ref (G.1 + 81)), (1, .ref (G.1 + a1)), (2, .ref (G.1 + a2))] dX1_addWall_13 rfl (by decide) rfl rfl ?_
  refine z_lv (lv2 := [(0, .ref (G.1 + 81)), (2, .ref (G.1 + a2)), (3, .int 0)]) [1, 3, 0] rfl ?_
  exact wX1_addWall_l14 C hs0 hL a1 h1 a2 h2 pp FU p3 0 hf
set_option maxHeartbeats 4000000 in
set_option maxRecDepth 100000 in
theorem wX1_findKnown_l6 (C : CX p s m args meth c cX1_findKnown 3 none RX1 G) (hs0 : s.heap.size = G.1 + K.1) (hL : Lay K) (a1 : Nat) (h1 : Par K a1)  (pp : MM)  : ∀ (n : Nat) (M3 : MM) (y4 : Int32) (hf : fX1_findKnown_l6 a1 n M3 y4 = some pp), Z p l e (rmo 1 0 0) s m args below meth c 3 G (MQ below (QC G none K pp) args s 0 0 (AG G)) K 0 0 M3 6 [(0, .ref (G.1 + 81)), (1, .ref (G.1 + a1)), (2, .int y4)] [] := by
  intro n
  induction n with
  | zero => intro M3 y4 hf; exact nomatch (show (none : Option MM) = some pp from hf)
  | succ n ih =>
    intro M3 y4 hf
    rw [fX1_findKnown_l6.eq_2] at hf
    refine z_iload_n C 2 2 dX1_findKnown_6 rfl rfl ?_
    refine z_aload_n C 1 1 dX1_findKnown_7 rfl rfl ?_
    refine z_getI C ok_X5 (Par_o h1) 2 (by decide) rfl q_fl_X1_84 dX1_findKnown_8 ?_
    refine z_icmp_ge C 34 dX1_findKnown_11 (by decide) (fun c5 => ?_) (fun c5 => ?_)
    · replace hf := ite_t c5 hf
      cases hf
      exact z_vret C rfl dX1_findKnown_34
    · replace hf := ite_f c5 hf
      refine z_aload_n C 0 0 dX1_findKnown_14 rfl rfl ?_
      refine z_aload_n C 0 0 dX1_findKnown_15 rfl rfl ?_
      refine z_getR C ok_X1 (lay_c81 hL) 3 (60) (by decide) rfl (lay_r81_3 hL) q_fl_X1_9 dX1_findKnown_16 ?_
      refine z_iload_n C 2 2 dX1_findKnown_19 rfl rfl ?_
      replace hf := bd_out hf
      obtain ⟨p6, e7, hf⟩ := hf
      refine z_cV1 C [.ref (G.1 + 81)] (tX0_knownIn l G hL M3 y4 _ e7) lk_X0_knownIn ok_X0 (lay_c60 hL) q_ml_X1_87 rfl ⟨Nat.le_of_ble_eq_true rfl, Nat.le_of_ble_eq_true rfl⟩ rfl (Nat.le_of_ble_eq_true rfl) ⟨Nat.le_refl _, Nat.le_refl _⟩ dX1_findKnown_20 ?_
      refine z_iload_n C 2 2 dX1_findKnown_23 rfl rfl ?_
      refine z_iconst C 0 dX1_findKnown_24 (by decide) ?_
      replace hf := bd_out hf
      obtain ⟨p8, e9, hf⟩ := hf
      refine z_cV0 C [] (tX1_offer l G hL M3 p6 y4 0 _ e9) lk_X1_offer ok_X1 (lay_c81 hL) q_ml_X1_59 rfl ⟨Nat.le_of_ble_eq_true rfl, Nat.le_of_ble_eq_true rfl⟩ rfl (Nat.le_of_ble_eq_true rfl) ⟨Nat.le_refl _, Nat.le_refl _⟩ dX1_findKnown_25 ?_
      refine z_iinc C 2 (y4 + 1) [(2, .int (y4 + 1)), (0, .ref (G.1 + 81)), (1, .ref (G.1 + a1))] dX1_findKnown_28 rfl rfl (by decide) rfl rfl ?_
      refine z_goto C 6 dX1_findKnown_31 (by decide) ?_
      refine z_lv (lv2 := [(0, .ref (G.1 + 81)), (1, .ref (G.1 + a1)), (2, .int (y4 + 1))]) [1, 2, 0] rfl ?_
      exact ih p8 (y4 + 1)  hf
set_option maxHeartbeats 4000000 in
set_option maxRecDepth 100000 in
theorem tX1_findKnown (l : Launch) (G : GG) {K : SK} (hL : Lay K) (M : MM) (a1 : Nat) (h1 : Par K a1) (pp : MM) (hf : fX1_findKnown M a1 = some pp) : Ct l yX1_findKnown cX1_findKnown 3 none 1 0 0 G K M [.ref (G.1 + 81), .ref (G.1 + a1)] none K pp := by
  refine z_enter (lv := [(0, .ref (G.1 + 81)), (1, .ref (G.1 + a1))]) (by decide +kernel) (Nat.le_of_ble_eq_true rfl) rfl ?_
  intro p e s m args below meth c C hnm hs0
  replace C : CX p s m args meth c cX1_findKnown 3 none RX1 G := C
  unfold fX1_findKnown at hf
  refine z_aload_n C 0 0 dX1_findKnown_0 rfl rfl ?_
  replace hf := bd_out hf
  obtain ⟨p1, e2, hf⟩ := hf
  refine z_cV0 C [] (tX1_begin l G hL M  _ e2) lk_X1_begin ok_X1 (lay_c81 hL) q_ml_X1_32 rfl ⟨Nat.le_of_ble_eq_true rfl, Nat.le_of_ble_eq_true rfl⟩ rfl (Nat.le_of_ble_eq_true rfl) ⟨Nat.le_refl _, Nat.le_refl _⟩ dX1_findKnown_1 ?_
  refine z_iconst C 0 dX1_findKnown_4 (by decide) ?_
  refine z_istore_n C [(2, .int 0), (0, .ref (G.1 + 81)), (1, .ref (G.1 + a1))] dX1_findKnown_5 rfl (by decide) rfl rfl ?_
  refine z_lv (lv2 := [(0, .ref (G.1 + 81)), (1, .ref (G.1 + a1)), (2, .int 0)]) [1, 2, 0] rfl ?_
  exact wX1_findKnown_l6 C hs0 hL a1 h1 pp FU p1 0 hf
set_option maxHeartbeats 4000000 in
set_option maxRecDepth 100000 in
theorem wX1_findPuddle_l18 (C : CX p s m args meth c cX1_findPuddle 4 none RX1 G) (hs0 : s.heap.size = G.1 + K.1) (hL : Lay K) (a1 : Nat) (h1 : Par K a1) (a2 : Nat) (h2 : Lw K a2)  (pp : MM)  : ∀ (n : Nat) (M5 : MM) (y6 : Int32) (hf : fX1_findPuddle_l18 a1 a2 n M5 y6 = some pp), Z p l e (rmo 3 0 0) s m args below meth c 4 G (MQ below (QC G none K pp) args s 0 0 (AG G)) K 0 0 M5 18 [(0, .ref (G.1 + 81)), (1, .ref (G.1 + a1)), (2, .ref (G.1 + a2)), (3, .int y6)] [] := by
  intro n
  induction n with
  | zero => intro M5 y6 hf; exact nomatch (show (none : Option MM) = some pp from hf)
  | succ n ih =>
    intro M5 y6 hf
    rw [fX1_findPuddle_l18.eq_2] at hf
    refine z_iload_n C 3 3 dX1_findPuddle_18 rfl rfl ?_
    refine z_aload_n C 1 1 dX1_findPuddle_19 rfl rfl ?_
    refine z_getI C ok_X5 (Par_o h1) 3 (by decide) rfl q_fl_X1_98 dX1_findPuddle_20 ?_
    refine z_icmp_ge C 47 dX1_findPuddle_23 (by decide) (fun c7 => ?_) (fun c7 => ?_)
    · replace hf := ite_t c7 hf
      cases hf
      exact z_vret C rfl dX1_findPuddle_47
    · replace hf := ite_f c7 hf
      refine z_aload_n C 0 0 dX1_findPuddle_26 rfl rfl ?_
      refine z_aload_n C 0 0 dX1_findPuddle_27 rfl rfl ?_
      refine z_getR C ok_X1 (lay_c81 hL) 3 (60) (by decide) rfl (lay_r81_3 hL) q_fl_X1_9 dX1_findPuddle_28 ?_
      refine z_iload_n C 3 3 dX1_findPuddle_31 rfl rfl ?_
      refine z_aload_n C 2 2 dX1_findPuddle_32 rfl rfl ?_
      replace hf := bd_out hf
      obtain ⟨p8, e9, hf⟩ := hf
      refine z_cV1 C [.ref (G.1 + 81)] (tX0_headsIn l G hL M5 y6 a2 h2 _ e9) lk_X0_headsIn ok_X0 (lay_c60 hL) q_ml_X1_101 rfl ⟨Nat.le_of_ble_eq_true rfl, Nat.le_of_ble_eq_true rfl⟩ rfl (Nat.le_of_ble_eq_true rfl) ⟨Nat.le_refl _, Nat.le_refl _⟩ dX1_findPuddle_33 ?_
      refine z_iload_n C 3 3 dX1_findPuddle_36 rfl rfl ?_
      refine z_iconst C 0 dX1_findPuddle_37 (by decide) ?_
      replace hf := bd_out hf
      obtain ⟨p10, e11, hf⟩ := hf
      refine z_cV0 C [] (tX1_offer l G hL M5 p8 y6 0 _ e11) lk_X1_offer ok_X1 (lay_c81 hL) q_ml_X1_59 rfl ⟨Nat.le_of_ble_eq_true rfl, Nat.le_of_ble_eq_true rfl⟩ rfl (Nat.le_of_ble_eq_true rfl) ⟨Nat.le_refl _, Nat.le_refl _⟩ dX1_findPuddle_38 ?_
      refine z_iinc C 3 (y6 + 1) [(3, .int (y6 + 1)), (0, .ref (G.1 + 81)), (1, .ref (G.1 + a1)), (2, .ref (G.1 + a2))] dX1_findPuddle_41 rfl rfl (by decide) rfl rfl ?_
      refine z_goto C 18 dX1_findPuddle_44 (by decide) ?_
      refine z_lv (lv2 := [(0, .ref (G.1 + 81)), (1, .ref (G.1 + a1)), (2, .ref (G.1 + a2)), (3, .int (y6 + 1))]) [1, 2, 3, 0] rfl ?_
      exact ih p10 (y6 + 1)  hf
set_option maxHeartbeats 4000000 in
set_option maxRecDepth 100000 in
theorem tX1_findPuddle (l : Launch) (G : GG) {K : SK} (hL : Lay K) (M : MM) (a1 : Nat) (h1 : Par K a1) (a2 : Nat) (h2 : Lw K a2) (pp : MM) (hf : fX1_findPuddle M a1 a2 = some pp) : Ct l yX1_findPuddle cX1_findPuddle 4 none 3 0 0 G K M [.ref (G.1 + 81), .ref (G.1 + a1), .ref (G.1 + a2)] none K pp := by
  refine z_enter (lv := [(0, .ref (G.1 + 81)), (1, .ref (G.1 + a1)), (2, .ref (G.1 + a2))]) (by decide +kernel) (Nat.le_of_ble_eq_true rfl) rfl ?_
  intro p e s m args below meth c C hnm hs0
  replace C : CX p s m args meth c cX1_findPuddle 4 none RX1 G := C
  unfold fX1_findPuddle at hf
  refine z_aload_n C 0 0 dX1_findPuddle_0 rfl rfl ?_
  replace hf := bd_out hf
  obtain ⟨p1, e2, hf⟩ := hf
  refine z_cV0 C [] (tX1_begin l G hL M  _ e2) lk_X1_begin ok_X1 (lay_c81 hL) q_ml_X1_32 rfl ⟨Nat.le_of_ble_eq_true rfl, Nat.le_of_ble_eq_true rfl⟩ rfl (Nat.le_of_ble_eq_true rfl) ⟨Nat.le_refl _, Nat.le_refl _⟩ dX1_findPuddle_1 ?_
  refine z_aload_n C 0 0 dX1_findPuddle_4 rfl rfl ?_
  refine z_getR C ok_X1 (lay_c81 hL) 3 (60) (by decide) rfl (lay_r81_3 hL) q_fl_X1_9 dX1_findPuddle_5 ?_
  refine z_aload_n C 2 2 dX1_findPuddle_8 rfl rfl ?_
  refine z_getI C ok_X4 (Lw_o h2) 0 (by decide) rfl q_fl_X1_90 dX1_findPuddle_9 ?_
  replace hf := bd_out hf
  obtain ⟨p3, e4, hf⟩ := hf
  refine z_cV1 C [] (tX0_spread l G hL p1 (gI p1 a2 0) _ e4) lk_X0_spread ok_X0 (lay_c60 hL) q_ml_X1_95 rfl ⟨Nat.le_of_ble_eq_true rfl, Nat.le_of_ble_eq_true rfl⟩ rfl (Nat.le_of_ble_eq_true rfl) ⟨Nat.le_refl _, Nat.le_refl _⟩ dX1_findPuddle_12 ?_
  refine z_pop C rfl dX1_findPuddle_15 ?_
  refine z_iconst C 0 dX1_findPuddle_16 (by decide) ?_
  refine z_istore_n C [(3, .int 0), (0, .ref (G.1 + 81)), (1, .ref (G.1 + a1)), (2, .ref (G.1 + a2))] dX1_findPuddle_17 rfl (by decide) rfl rfl ?_
  refine z_lv (lv2 := [(0, .ref (G.1 + 81)), (1, .ref (G.1 + a1)), (2, .ref (G.1 + a2)), (3, .int 0)]) [1, 2, 3, 0] rfl ?_
  exact wX1_findPuddle_l18 C hs0 hL a1 h1 a2 h2 pp FU p3.2 0 hf
set_option maxHeartbeats 4000000 in
set_option maxRecDepth 100000 in
theorem tX1_turnCouple (l : Launch) (G : GG) {K : SK} (hL : Lay K) (M : MM) (a1 : Nat) (h1 : Lw K a1) (x2 : Int32) (x3 : Int32) (x4 : Int32) (pp : MM) (hf : fX1_turnCouple M a1 x2 x3 x4 = some pp) : Ct l yX1_turnCouple cX1_turnCouple 5 none 4 0 0 G K M [.ref (G.1 + 81), .ref (G.1 + a1), .int x2, .int x3, .int x4] none K pp := by
  refine z_enter (lv := [(0, .ref (G.1 + 81)), (1, .ref (G.1 + a1)), (2, .int x2), (3, .int x3), (4, .int x4)]) (by decide +kernel) (Nat.le_of_ble_eq_true rfl) rfl ?_
  intro p e s m args below meth c C hnm hs0
  replace C : CX p s m args meth c cX1_turnCouple 5 none RX1 G := C
  unfold fX1_turnCouple at hf
  refine z_aload_n C 0 0 dX1_turnCouple_0 rfl rfl ?_
  refine z_getR C ok_X1 (lay_c81 hL) 3 (60) (by decide) rfl (lay_r81_3 hL) q_fl_X1_9 dX1_turnCouple_1 ?_
  refine z_iload_n C 2 2 dX1_turnCouple_4 rfl rfl ?_
  refine z_iload C 4 dX1_turnCouple_5 rfl ?_
  refine z_iconst C 3 dX1_turnCouple_7 (by decide) ?_
  refine z_ishr C dX1_turnCouple_8 ?_
  replace hf := bd_out hf
  obtain ⟨p1, e2, hf⟩ := hf
  refine z_cV0 C [] (tX0_face l G hL M x2 (jshr x4 3) _ e2) lk_X0_face ok_X0 (lay_c60 hL) q_ml_X1_66 rfl ⟨Nat.le_of_ble_eq_true rfl, Nat.le_of_ble_eq_true rfl⟩ rfl (Nat.le_of_ble_eq_true rfl) ⟨Nat.le_refl _, Nat.le_refl _⟩ dX1_turnCouple_9 ?_
  refine z_aload_n C 0 0 dX1_turnCouple_12 rfl rfl ?_
  refine z_getR C ok_X1 (lay_c81 hL) 3 (60) (by decide) rfl (lay_r81_3 hL) q_fl_X1_9 dX1_turnCouple_13 ?_
  refine z_iload_n C 3 3 dX1_turnCouple_16 rfl rfl ?_
  refine z_iload C 4 dX1_turnCouple_17 rfl ?_
  refine z_bipush C 7 dX1_turnCouple_19 (by decide) ?_
  refine z_iand C dX1_turnCouple_21 ?_
  replace hf := bd_out hf
  obtain ⟨p3, e4, hf⟩ := hf
  refine z_cV0 C [] (tX0_face l G hL p1 x3 (x4 &&& 7) _ e4) lk_X0_face ok_X0 (lay_c60 hL) q_ml_X1_66 rfl ⟨Nat.le_of_ble_eq_true rfl, Nat.le_of_ble_eq_true rfl⟩ rfl (Nat.le_of_ble_eq_true rfl) ⟨Nat.le_refl _, Nat.le_refl _⟩ dX1_turnCouple_22 ?_
  refine z_aload_n C 0 0 dX1_turnCouple_25 rfl rfl ?_
  refine z_getR C ok_X1 (lay_c81 hL) 3 (60) (by decide) rfl (lay_r81_3 hL) q_fl_X1_9 dX1_turnCouple_26 ?_
  refine z_aload_n C 1 1 dX1_turnCouple_29 rfl rfl ?_
  replace hf := bd_out hf
  obtain ⟨p5, e6, hf⟩ := hf
  refine z_cV0 C [] (tX0_addTotals l G hL p3 a1 h1 _ e6) lk_X0_addTotals ok_X0 (lay_c60 hL) q_ml_X1_114 rfl ⟨Nat.le_of_ble_eq_true rfl, Nat.le_of_ble_eq_true rfl⟩ rfl (Nat.le_of_ble_eq_true rfl) ⟨Nat.le_refl _, Nat.le_refl _⟩ dX1_turnCouple_30 ?_
  cases hf
  exact z_vret C rfl dX1_turnCouple_33
set_option maxHeartbeats 4000000 in
set_option maxRecDepth 100000 in
theorem wX1_playGame_l36 (C : CX p s m args meth c cX1_playGame 6 none RX1 G) (hs0 : s.heap.size = G.1 + K.1) (hL : Lay K) (a1 : Nat) (h1 : Par K a1) (a2 : Nat) (h2 : Lw K a2)  (pp : MM)  : ∀ (n : Nat) (M9 : MM) (y10 : Int32) (y11 : Int32) (y12 : Int32) (hf : fX1_playGame_l36 a1 a2 n M9 y10 y11 y12 = some pp), Z p l e (rmo 5 0 0) s m args below meth c 6 G (MQ below (QC G none K pp) args s 0 0 (AG G)) K 0 0 M9 36 [(0, .ref (G.1 + 81)), (2, .ref (G.1 + a2)), (3, .int y10), (4, .int y11), (5, .int y12)] [] := by
  intro n
  induction n with
  | zero => intro M9 y10 y11 y12 hf; exact nomatch (show (none : Option MM) = some pp from hf)
  | succ n ih =>
    intro M9 y10 y11 y12 hf
    rw [fX1_playGame_l36.eq_2] at hf
    refine z_iload C 4 dX1_playGame_36 rfl ?_
    refine z_bipush C 64 dX1_playGame_38 (by decide) ?_
    refine z_icmp_ge C 97 dX1_playGame_40 (by decide) (fun c13 => ?_) (fun c13 => ?_)
    · replace hf := ite_t c13 hf
      cases hf
      exact z_vret C rfl dX1_playGame_97
    · replace hf := ite_f c13 hf
      refine z_aload_n C 0 0 dX1_playGame_43 rfl rfl ?_
      refine z_aload_n C 1 2 dX1_playGame_44 rfl rfl ?_
      refine z_iload_n C 2 3 dX1_playGame_45 rfl rfl ?_
      refine z_iload C 3 dX1_playGame_46 rfl ?_
      refine z_iload C 4 dX1_playGame_48 rfl ?_
      replace hf := bd_out hf
      obtain ⟨p14, e15, hf⟩ := hf
      refine z_cV0 C [] (tX1_turnCouple l G hL M9 a2 h2 y10 y11 y12 _ e15) lk_X1_turnCouple ok_X1 (lay_c81 hL) q_ml_X1_107 rfl ⟨Nat.le_of_ble_eq_true rfl, Nat.le_of_ble_eq_true rfl⟩ rfl (Nat.le_of_ble_eq_true rfl) ⟨Nat.le_refl _, Nat.le_refl _⟩ dX1_playGame_50 ?_
      refine z_aload_n C 0 0 dX1_playGame_53 rfl rfl ?_
      refine z_getR C ok_X1 (lay_c81 hL) 2 (82) (by decide) rfl (lay_r81_2 hL) q_fl_X1_15 dX1_playGame_54 ?_
      refine z_iconst C 2 dX1_playGame_57 (by decide) ?_
      refine z_iload C 4 dX1_playGame_58 rfl ?_
      refine z_imul C dX1_playGame_60 ?_
      refine z_aload_n C 0 0 dX1_playGame_61 rfl rfl ?_
      refine z_getR C ok_X1 (lay_c81 hL) 3 (60) (by decide) rfl (lay_r81_3 hL) q_fl_X1_9 dX1_playGame_62 ?_
      refine z_getR C ok_X0 (lay_c60 hL) 2 (71) (by decide) rfl (lay_r60_2 hL) q_fl_X1_111 dX1_playGame_65 ?_
      refine z_iconst C 0 dX1_playGame_68 (by decide) ?_
      refine z_iald C (lay_c71 hL) (inb_in (by decide)) dX1_playGame_69 ?_
      replace hf := gd_out hf
      obtain ⟨g16, hf⟩ := hf
      refine z_iast C (lay_c82 hL) (inb_in g16) dX1_playGame_70 ?_
      refine z_M (fun M17 e18 => ?_)
      replace hf := bnd_out e18 hf
      refine z_aload_n C 0 0 dX1_playGame_71 rfl rfl ?_
      refine z_getR C ok_X1 (lay_c81 hL) 2 (82) (by decide) rfl (lay_r81_2 hL) q_fl_X1_15 dX1_playGame_72 ?_
      refine z_iconst C 2 dX1_playGame_75 (by decide) ?_
      refine z_iload C 4 dX1_playGame_76 rfl ?_
      refine z_imul C dX1_playGame_78 ?_
      refine z_iconst C 1 dX1_playGame_79 (by decide) ?_
      refine z_iadd C dX1_playGame_80 ?_
      refine z_aload_n C 0 0 dX1_playGame_81 rfl rfl ?_
      refine z_getR C ok_X1 (lay_c81 hL) 3 (60) (by decide) rfl (lay_r81_3 hL) q_fl_X1_9 dX1_playGame_82 ?_
      refine z_getR C ok_X0 (lay_c60 hL) 2 (71) (by decide) rfl (lay_r60_2 hL) q_fl_X1_111 dX1_playGame_85 ?_
      refine z_iconst C 1 dX1_playGame_88 (by decide) ?_
      refine z_iald C (lay_c71 hL) (inb_in (by decide)) dX1_playGame_89 ?_
      replace hf := gd_out hf
      obtain ⟨g19, hf⟩ := hf
      refine z_iast C (lay_c82 hL) (inb_in g19) dX1_playGame_90 ?_
      refine z_M (fun M20 e21 => ?_)
      replace hf := bnd_out e21 hf
      refine z_iinc C 4 (y12 + 1) [(5, .int (y12 + 1)), (0, .ref (G.1 + 81)), (2, .ref (G.1 + a2)), (3, .int y10), (4, .int y11)] dX1_playGame_91 rfl rfl (by decide) rfl rfl ?_
      refine z_goto C 36 dX1_playGame_94 (by decide) ?_
      refine z_lv (lv2 := [(0, .ref (G.1 + 81)), (2, .ref (G.1 + a2)), (3, .int y10), (4, .int y11), (5, .int (y12 + 1))]) [1, 2, 3, 4, 0] rfl ?_
      exact ih M20 y10 y11 (y12 + 1)  hf
set_option maxHeartbeats 4000000 in
set_option maxRecDepth 100000 in
theorem tX1_playGame (l : Launch) (G : GG) {K : SK} (hL : Lay K) (M : MM) (a1 : Nat) (h1 : Par K a1) (a2 : Nat) (h2 : Lw K a2) (pp : MM) (hf : fX1_playGame M a1 a2 = some pp) : Ct l yX1_playGame cX1_playGame 6 none 5 0 0 G K M [.ref (G.1 + 81), .ref (G.1 + a1), .ref (G.1 + a2)] none K pp := by
  refine z_enter (lv := [(0, .ref (G.1 + 81)), (1, .ref (G.1 + a1)), (2, .ref (G.1 + a2))]) (by decide +kernel) (Nat.le_of_ble_eq_true rfl) rfl ?_
  intro p e s m args below meth c C hnm hs0
  replace C : CX p s m args meth c cX1_playGame 6 none RX1 G := C
  unfold fX1_playGame at hf
  refine z_aload_n C 0 0 dX1_playGame_0 rfl rfl ?_
  refine z_getR C ok_X1 (lay_c81 hL) 3 (60) (by decide) rfl (lay_r81_3 hL) q_fl_X1_9 dX1_playGame_1 ?_
  refine z_aload_n C 1 1 dX1_playGame_4 rfl rfl ?_
  replace hf := bd_out hf
  obtain ⟨p1, e2, hf⟩ := hf
  refine z_cV0 C [] (tX0_begin l G hL M a1 h1 _ e2) lk_X0_begin ok_X0 (lay_c60 hL) q_ml_X1_26 rfl ⟨Nat.le_of_ble_eq_true rfl, Nat.le_of_ble_eq_true rfl⟩ rfl (Nat.le_of_ble_eq_true rfl) ⟨Nat.le_refl _, Nat.le_refl _⟩ dX1_playGame_5 ?_
  refine z_aload_n C 1 1 dX1_playGame_8 rfl rfl ?_
  refine z_iconst C 0 dX1_playGame_9 (by decide) ?_
  replace hf := bd_out hf
  obtain ⟨p3, e4, hf⟩ := hf
  refine z_cV1 C [] (tX5_leastShineOf l G hL p1 a1 h1 0 _ e4) lk_X5_leastShineOf ok_X5 (Par_o h1) q_ml_X1_104 rfl ⟨Nat.le_of_ble_eq_true rfl, Nat.le_of_ble_eq_true rfl⟩ rfl (Nat.le_of_ble_eq_true rfl) ⟨Nat.le_refl _, Nat.le_refl _⟩ dX1_playGame_10 ?_
  refine z_istore_n C [(3, .int p3), (0, .ref (G.1 + 81)), (1, .ref (G.1 + a1)), (2, .ref (G.1 + a2))] dX1_playGame_13 rfl (by decide) rfl rfl ?_
  refine z_aload_n C 2 1 dX1_playGame_14 rfl rfl ?_
  refine z_iconst C 1 dX1_playGame_15 (by decide) ?_
  replace hf := bd_out hf
  obtain ⟨p5, e6, hf⟩ := hf
  refine z_cV1 C [] (tX5_leastShineOf l G hL p1 a1 h1 1 _ e6) lk_X5_leastShineOf ok_X5 (Par_o h1) q_ml_X1_104 rfl ⟨Nat.le_of_ble_eq_true rfl, Nat.le_of_ble_eq_true rfl⟩ rfl (Nat.le_of_ble_eq_true rfl) ⟨Nat.le_refl _, Nat.le_refl _⟩ dX1_playGame_16 ?_
  refine z_istore C [(4, .int p5), (3, .int p3), (0, .ref (G.1 + 81)), (1, .ref (G.1 + a1)), (2, .ref (G.1 + a2))] dX1_playGame_19 (by decide) rfl rfl ?_
  refine z_iload_n C 1 3 dX1_playGame_21 rfl rfl ?_
  refine z_iconst C (-1) dX1_playGame_22 (by decide) ?_
  refine z_icmp_eq C 32 dX1_playGame_23 (by decide) (fun c7 => ?_) (fun c7 => ?_)
  · replace hf := ite_t c7 hf
    cases hf
    exact z_vret C rfl dX1_playGame_32
  · replace hf := ite_f c7 hf
    refine z_iload C 0 dX1_playGame_26 rfl ?_
    refine z_iconst C (-1) dX1_playGame_28 (by decide) ?_
    refine z_icmp_ne C 33 dX1_playGame_29 (by decide) (fun c8 => ?_) (fun c8 => ?_)
    · replace hf := ite_f c8 hf
      refine z_iconst C 0 dX1_playGame_33 (by decide) ?_
      refine z_istore C [(5, .int 0), (4, .int p5), (3, .int p3), (0, .ref (G.1 + 81)), (1, .ref (G.1 + a1)), (2, .ref (G.1 + a2))] dX1_playGame_34 (by decide) rfl rfl ?_
      refine z_lv (lv2 := [(0, .ref (G.1 + 81)), (2, .ref (G.1 + a2)), (3, .int p3), (4, .int p5), (5, .int 0)]) [3, 5, 2, 1, 0] rfl ?_
      exact wX1_playGame_l36 C hs0 hL a1 h1 a2 h2 pp FU p1 p3 p5 0 hf
    · replace hf := ite_t c8 hf
      cases hf
      exact z_vret C rfl dX1_playGame_32
set_option maxHeartbeats 4000000 in
set_option maxRecDepth 100000 in
theorem tX1_prizeOf (l : Launch) (G : GG) {K : SK} (hL : Lay K) (M : MM) (a1 : Nat) (h1 : Par K a1) (a2 : Nat) (h2 : Lw K a2) (x3 : Int32) (x4 : Int32) (pp : (Int32 × MM)) (hf : fX1_prizeOf M a1 a2 x3 x4 = some pp) : Ct l yX1_prizeOf cX1_prizeOf 7 (some .int) 5 0 0 G K M [.ref (G.1 + 81), .ref (G.1 + a1), .ref (G.1 + a2), .int x3, .int x4] (some (.int pp.1)) K pp.2 := by
  refine z_enter (lv := [(0, .ref (G.1 + 81)), (1, .ref (G.1 + a1)), (2, .ref (G.1 + a2)), (3, .int x3), (4, .int x4)]) (by decide +kernel) (Nat.le_of_ble_eq_true rfl) rfl ?_
  intro p e s m args below meth c C hnm hs0
  replace C : CX p s m args meth c cX1_prizeOf 7 (some .int) RX1 G := C
  unfold fX1_prizeOf at hf
  refine z_aload_n C 0 0 dX1_prizeOf_0 rfl rfl ?_
  refine z_getR C ok_X1 (lay_c81 hL) 3 (60) (by decide) rfl (lay_r81_3 hL) q_fl_X1_9 dX1_prizeOf_1 ?_
  refine z_aload_n C 1 1 dX1_prizeOf_4 rfl rfl ?_
  replace hf := bd_out hf
  obtain ⟨p1, e2, hf⟩ := hf
  refine z_cV0 C [] (tX0_begin l G hL M a1 h1 _ e2) lk_X0_begin ok_X0 (lay_c60 hL) q_ml_X1_26 rfl ⟨Nat.le_of_ble_eq_true rfl, Nat.le_of_ble_eq_true rfl⟩ rfl (Nat.le_of_ble_eq_true rfl) ⟨Nat.le_refl _, Nat.le_refl _⟩ dX1_prizeOf_5 ?_
  refine z_aload_n C 1 1 dX1_prizeOf_8 rfl rfl ?_
  refine z_iconst C 0 dX1_prizeOf_9 (by decide) ?_
  replace hf := bd_out hf
  obtain ⟨p3, e4, hf⟩ := hf
  refine z_cV1 C [] (tX5_leastShineOf l G hL p1 a1 h1 0 _ e4) lk_X5_leastShineOf ok_X5 (Par_o h1) q_ml_X1_104 rfl ⟨Nat.le_of_ble_eq_true rfl, Nat.le_of_ble_eq_true rfl⟩ rfl (Nat.le_of_ble_eq_true rfl) ⟨Nat.le_refl _, Nat.le_refl _⟩ dX1_prizeOf_10 ?_
  refine z_istore C [(5, .int p3), (0, .ref (G.1 + 81)), (1, .ref (G.1 + a1)), (2, .ref (G.1 + a2)), (3, .int x3), (4, .int x4)] dX1_prizeOf_13 (by decide) rfl rfl ?_
  refine z_aload_n C 2 1 dX1_prizeOf_15 rfl rfl ?_
  refine z_iconst C 1 dX1_prizeOf_16 (by decide) ?_
  replace hf := bd_out hf
  obtain ⟨p5, e6, hf⟩ := hf
  refine z_cV1 C [] (tX5_leastShineOf l G hL p1 a1 h1 1 _ e6) lk_X5_leastShineOf ok_X5 (Par_o h1) q_ml_X1_104 rfl ⟨Nat.le_of_ble_eq_true rfl, Nat.le_of_ble_eq_true rfl⟩ rfl (Nat.le_of_ble_eq_true rfl) ⟨Nat.le_refl _, Nat.le_refl _⟩ dX1_prizeOf_17 ?_
  refine z_istore C [(6, .int p5), (5, .int p3), (0, .ref (G.1 + 81)), (1, .ref (G.1 + a1)), (2, .ref (G.1 + a2)), (3, .int x3), (4, .int x4)] dX1_prizeOf_20 (by decide) rfl rfl ?_
  refine z_iload C 1 dX1_prizeOf_22 rfl ?_
  refine z_iconst C (-1) dX1_prizeOf_24 (by decide) ?_
  refine z_icmp_eq C 34 dX1_prizeOf_25 (by decide) (fun c7 => ?_) (fun c7 => ?_)
  · replace hf := ite_t c7 hf
    refine z_iconst C (-1) dX1_prizeOf_34 (by decide) ?_
    cases hf
    exact z_iret C rfl dX1_prizeOf_35
  · replace hf := ite_f c7 hf
    refine z_iload C 0 dX1_prizeOf_28 rfl ?_
    refine z_iconst C (-1) dX1_prizeOf_30 (by decide) ?_
    refine z_icmp_ne C 36 dX1_prizeOf_31 (by decide) (fun c8 => ?_) (fun c8 => ?_)
    · replace hf := ite_f c8 hf
      refine z_aload_n C 2 0 dX1_prizeOf_36 rfl rfl ?_
      refine z_aload_n C 4 2 dX1_prizeOf_37 rfl rfl ?_
      refine z_iload C 1 dX1_prizeOf_38 rfl ?_
      refine z_iload C 0 dX1_prizeOf_40 rfl ?_
      refine z_iload C 6 dX1_prizeOf_42 rfl ?_
      replace hf := bd_out hf
      obtain ⟨p9, e10, hf⟩ := hf
      refine z_cV0 C [] (tX1_turnCouple l G hL p1 a2 h2 p3 p5 x4 _ e10) lk_X1_turnCouple ok_X1 (lay_c81 hL) q_ml_X1_107 rfl ⟨Nat.le_of_ble_eq_true rfl, Nat.le_of_ble_eq_true rfl⟩ rfl (Nat.le_of_ble_eq_true rfl) ⟨Nat.le_refl _, Nat.le_refl _⟩ dX1_prizeOf_44 ?_
      refine z_aload_n C 2 0 dX1_prizeOf_47 rfl rfl ?_
      refine z_getR C ok_X1 (lay_c81 hL) 3 (60) (by decide) rfl (lay_r81_3 hL) q_fl_X1_9 dX1_prizeOf_48 ?_
      refine z_getR C ok_X0 (lay_c60 hL) 2 (71) (by decide) rfl (lay_r60_2 hL) q_fl_X1_111 dX1_prizeOf_51 ?_
      refine z_iload_n C 5 3 dX1_prizeOf_54 rfl rfl ?_
      replace hf := gd_out hf
      obtain ⟨g11, hf⟩ := hf
      refine z_iald C (lay_c71 hL) (inb_in g11) dX1_prizeOf_55 ?_
      cases hf
      exact z_iret C rfl dX1_prizeOf_56
    · replace hf := ite_t c8 hf
      refine z_iconst C (-1) dX1_prizeOf_34 (by decide) ?_
      cases hf
      exact z_iret C rfl dX1_prizeOf_35
set_option maxHeartbeats 4000000 in
set_option maxRecDepth 100000 in
theorem wX1_isRest_l2 (C : CX p s m args meth c cX1_isRest 5 (some .boolean) RX1 G) (hs0 : s.heap.size = G.1 + K.1) (hL : Lay K) (M : MM)  (pp : Int32)  : ∀ (n : Nat) (y1 : Int32) (y2 : Int32) (hf : fX1_isRest_l2 M n y1 y2 = some pp), Z p l e (rmo 0 0 0) s m args below meth c 5 G (MQ below (QC G (some (.int pp)) K M) args s 0 0 (AG G)) K 0 0 M 2 [(0, .ref (G.1 + 81)), (1, .int y1), (2, .int y2)] [] := by
  intro n
  induction n with
  | zero => intro y1 y2 hf; exact nomatch (show (none : Option Int32) = some pp from hf)
  | succ n ih =>
    intro y1 y2 hf
    rw [fX1_isRest_l2.eq_2] at hf
    refine z_iload_n C 2 2 dX1_isRest_2 rfl rfl ?_
    refine z_bipush C 8 dX1_isRest_3 (by decide) ?_
    refine z_icmp_ge C 79 dX1_isRest_5 (by decide) (fun c3 => ?_) (fun c3 => ?_)
    · replace hf := ite_t c3 hf
      refine z_iconst C 1 dX1_isRest_79 (by decide) ?_
      cases hf
      exact z_zret C rfl nb1 dX1_isRest_80
    · replace hf := ite_f c3 hf
      refine z_bipush C 8 dX1_isRest_8 (by decide) ?_
      refine z_iload_n C 2 2 dX1_isRest_10 rfl rfl ?_
      refine z_imul C dX1_isRest_11 ?_
      refine z_iload_n C 1 1 dX1_isRest_12 rfl rfl ?_
      refine z_bipush C 7 dX1_isRest_13 (by decide) ?_
      refine z_iand C dX1_isRest_15 ?_
      refine z_iadd C dX1_isRest_16 ?_
      refine z_topi (fun v4 e5 => ?_)
      replace hf := bnd_out e5 hf
      refine z_istore_n C [(3, .int v4), (0, .ref (G.1 + 81)), (1, .int y1), (2, .int y2)] dX1_isRest_17 rfl (by decide) rfl rfl ?_
      refine z_iload_n C 2 1 dX1_isRest_18 rfl rfl ?_
      refine z_bipush C 56 dX1_isRest_19 (by decide) ?_
      refine z_iand C dX1_isRest_21 ?_
      refine z_iload_n C 3 2 dX1_isRest_22 rfl rfl ?_
      refine z_iadd C dX1_isRest_23 ?_
      refine z_topi (fun v6 e7 => ?_)
      replace hf := bnd_out e7 hf
      refine z_istore C [(4, .int v6), (3, .int v4), (0, .ref (G.1 + 81)), (1, .int y1), (2, .int y2)] dX1_isRest_24 (by decide) rfl rfl ?_
      refine z_aload_n C 2 0 dX1_isRest_26 rfl rfl ?_
      refine z_getR C ok_X1 (lay_c81 hL) 2 (82) (by decide) rfl (lay_r81_2 hL) q_fl_X1_15 dX1_isRest_27 ?_
      refine z_iconst C 2 dX1_isRest_30 (by decide) ?_
      refine z_iload_n C 1 3 dX1_isRest_31 rfl rfl ?_
      refine z_imul C dX1_isRest_32 ?_
      replace hf := gd_out hf
      obtain ⟨g8, hf⟩ := hf
      refine z_iald C (lay_c82 hL) (inb_in g8) dX1_isRest_33 ?_
      refine z_aload_n C 2 0 dX1_isRest_34 rfl rfl ?_
      refine z_getR C ok_X1 (lay_c81 hL) 2 (82) (by decide) rfl (lay_r81_2 hL) q_fl_X1_15 dX1_isRest_35 ?_
      refine z_iconst C 2 dX1_isRest_38 (by decide) ?_
      refine z_iload_n C 3 1 dX1_isRest_39 rfl rfl ?_
      refine z_imul C dX1_isRest_40 ?_
      replace hf := gd_out hf
      obtain ⟨g9, hf⟩ := hf
      refine z_iald C (lay_c82 hL) (inb_in g9) dX1_isRest_41 ?_
      refine z_icmp_le C 47 dX1_isRest_42 (by decide) (fun c10 => ?_) (fun c10 => ?_)
      · replace hf := ite_t c10 hf
        refine z_aload_n C 2 0 dX1_isRest_47 rfl rfl ?_
        refine z_getR C ok_X1 (lay_c81 hL) 2 (82) (by decide) rfl (lay_r81_2 hL) q_fl_X1_15 dX1_isRest_48 ?_
        refine z_iconst C 2 dX1_isRest_51 (by decide) ?_
        refine z_iload C 0 dX1_isRest_52 rfl ?_
        refine z_imul C dX1_isRest_54 ?_
        refine z_iconst C 1 dX1_isRest_55 (by decide) ?_
        refine z_iadd C dX1_isRest_56 ?_
        replace hf := gd_out hf
        obtain ⟨g11, hf⟩ := hf
        refine z_iald C (lay_c82 hL) (inb_in g11) dX1_isRest_57 ?_
        refine z_aload_n C 2 0 dX1_isRest_58 rfl rfl ?_
        refine z_getR C ok_X1 (lay_c81 hL) 2 (82) (by decide) rfl (lay_r81_2 hL) q_fl_X1_15 dX1_isRest_59 ?_
        refine z_iconst C 2 dX1_isRest_62 (by decide) ?_
        refine z_iload_n C 3 1 dX1_isRest_63 rfl rfl ?_
        refine z_imul C dX1_isRest_64 ?_
        refine z_iconst C 1 dX1_isRest_65 (by decide) ?_
        refine z_iadd C dX1_isRest_66 ?_
        replace hf := gd_out hf
        obtain ⟨g12, hf⟩ := hf
        refine z_iald C (lay_c82 hL) (inb_in g12) dX1_isRest_67 ?_
        refine z_icmp_le C 73 dX1_isRest_68 (by decide) (fun c13 => ?_) (fun c13 => ?_)
        · replace hf := ite_t c13 hf
          refine z_iinc C 4 (y2 + 1) [(2, .int (y2 + 1)), (4, .int v6), (3, .int v4), (0, .ref (G.1 + 81)), (1, .int y1)] dX1_isRest_73 rfl rfl (by decide) rfl rfl ?_
          refine z_goto C 2 dX1_isRest_76 (by decide) ?_
          refine z_lv (lv2 := [(0, .ref (G.1 + 81)), (1, .int y1), (2, .int (y2 + 1))]) [3, 4, 0] rfl ?_
          exact ih y1 (y2 + 1)  hf
        · replace hf := ite_f c13 hf
          refine z_iconst C 0 dX1_isRest_71 (by decide) ?_
          cases hf
          exact z_zret C rfl nb0 dX1_isRest_72
      · replace hf := ite_f c10 hf
        refine z_iconst C 0 dX1_isRest_45 (by decide) ?_
        cases hf
        exact z_zret C rfl nb0 dX1_isRest_46
set_option maxHeartbeats 4000000 in
set_option maxRecDepth 100000 in
theorem tX1_isRest (l : Launch) (G : GG) {K : SK} (hL : Lay K) (M : MM) (x1 : Int32) (pp : Int32) (hf : fX1_isRest M x1 = some pp) : Ct l yX1_isRest cX1_isRest 5 (some .boolean) 0 0 0 G K M [.ref (G.1 + 81), .int x1] (some (.int pp)) K M := by
  refine z_enter (lv := [(0, .ref (G.1 + 81)), (1, .int x1)]) (by decide +kernel) (Nat.le_of_ble_eq_true rfl) rfl ?_
  intro p e s m args below meth c C hnm hs0
  replace C : CX p s m args meth c cX1_isRest 5 (some .boolean) RX1 G := C
  unfold fX1_isRest at hf
  refine z_iconst C 0 dX1_isRest_0 (by decide) ?_
  refine z_istore_n C [(2, .int 0), (0, .ref (G.1 + 81)), (1, .int x1)] dX1_isRest_1 rfl (by decide) rfl rfl ?_
  refine z_lv (lv2 := [(0, .ref (G.1 + 81)), (1, .int x1), (2, .int 0)]) [1, 2, 0] rfl ?_
  exact wX1_isRest_l2 C hs0 hL M pp FU x1 0 hf
set_option maxHeartbeats 4000000 in
set_option maxRecDepth 100000 in
theorem wX1_findRest_l4 (C : CX p s m args meth c cX1_findRest 4 (some .int) RX1 G) (hs0 : s.heap.size = G.1 + K.1) (hL : Lay K) (M : MM) (k37 : Int32 → Int32 → Option Int32) (pp : Int32) (hk37 : ∀ (y5 : Int32) (y6 : Int32), k37 y5 y6 = some pp → Z p l e (rmo 1 0 0) s m args below meth c 4 G (MQ below (QC G (some (.int pp)) K M) args s 0 0 (AG G)) K 0 0 M 37 [(1, .int y5), (2, .int y6)] []) : ∀ (n : Nat) (y1 : Int32) (y2 : Int32) (y3 : Int32) (hf : fX1_findRest_l4 M k37 n y1 y2 y3 = some pp), Z p l e (rmo 1 0 0) s m args below meth c 4 G (MQ below (QC G (some (.int pp)) K M) args s 0 0 (AG G)) K 0 0 M 4 [(0, .ref (G.1 + 81)), (1, .int y1), (2, .int y2), (3, .int y3)] [] := by
  intro n
  induction n with
  | zero => intro y1 y2 y3 hf; exact nomatch (show (none : Option Int32) = some pp from hf)
  | succ n ih =>
    intro y1 y2 y3 hf
    rw [fX1_findRest_l4.eq_2] at hf
    refine z_iload_n C 3 3 dX1_findRest_4 rfl rfl ?_
    refine z_bipush C 64 dX1_findRest_5 (by decide) ?_
    refine z_icmp_ge C 37 dX1_findRest_7 (by decide) (fun c4 => ?_) (fun c4 => ?_)
    · replace hf := ite_t c4 hf
      refine z_lv (lv2 := [(1, .int y1), (2, .int y2)]) [1, 2] rfl ?_
      exact hk37 y1 y2  hf
    · replace hf := ite_f c4 hf
      refine z_aload_n C 0 0 dX1_findRest_10 rfl rfl ?_
      refine z_iload_n C 3 3 dX1_findRest_11 rfl rfl ?_
      replace hf := bd_out hf
      obtain ⟨p7, e8, hf⟩ := hf
      refine z_cV1 C [] (tX1_isRest l G hL M y3 _ e8) lk_X1_isRest ok_X1 (lay_c81 hL) q_ml_X1_118 rfl ⟨Nat.le_of_ble_eq_true rfl, Nat.le_of_ble_eq_true rfl⟩ rfl (Nat.le_of_ble_eq_true rfl) ⟨Nat.le_refl _, Nat.le_refl _⟩ dX1_findRest_12 ?_
      refine z_if_ne C 21 dX1_findRest_15 (by decide) (fun c9 => ?_) (fun c9 => ?_)
      · replace hf := ite_f c9 hf
        refine z_iload_n C 2 2 dX1_findRest_21 rfl rfl ?_
        refine z_iload_n C 1 1 dX1_findRest_22 rfl rfl ?_
        refine z_icmp_ne C 28 dX1_findRest_23 (by decide) (fun c10 => ?_) (fun c10 => ?_)
        · replace hf := ite_f c10 hf
          refine z_iinc C 2 (y2 + 1) [(2, .int (y2 + 1)), (0, .ref (G.1 + 81)), (1, .int y1), (3, .int y3)] dX1_findRest_28 rfl rfl (by decide) rfl rfl ?_
          refine z_iinc C 3 (y3 + 1) [(3, .int (y3 + 1)), (2, .int (y2 + 1)), (0, .ref (G.1 + 81)), (1, .int y1)] dX1_findRest_31 rfl rfl (by decide) rfl rfl ?_
          refine z_goto C 4 dX1_findRest_34 (by decide) ?_
          refine z_lv (lv2 := [(0, .ref (G.1 + 81)), (1, .int y1), (2, .int (y2 + 1)), (3, .int (y3 + 1))]) [2, 3, 1, 0] rfl ?_
          exact ih y1 (y2 + 1) (y3 + 1)  hf
        · replace hf := ite_t c10 hf
          refine z_iload_n C 3 3 dX1_findRest_26 rfl rfl ?_
          cases hf
          exact z_iret C rfl dX1_findRest_27
      · replace hf := ite_t c9 hf
        refine z_goto C 31 dX1_findRest_18 (by decide) ?_
        refine z_iinc C 3 (y3 + 1) [(3, .int (y3 + 1)), (0, .ref (G.1 + 81)), (1, .int y1), (2, .int y2)] dX1_findRest_31 rfl rfl (by decide) rfl rfl ?_
        refine z_goto C 4 dX1_findRest_34 (by decide) ?_
        refine z_lv (lv2 := [(0, .ref (G.1 + 81)), (1, .int y1), (2, .int y2), (3, .int (y3 + 1))]) [1, 2, 3, 0] rfl ?_
        exact ih y1 y2 (y3 + 1)  hf
set_option maxHeartbeats 4000000 in
set_option maxRecDepth 100000 in
theorem tX1_findRest (l : Launch) (G : GG) {K : SK} (hL : Lay K) (M : MM) (x1 : Int32) (pp : Int32) (hf : fX1_findRest M x1 = some pp) : Ct l yX1_findRest cX1_findRest 4 (some .int) 1 0 0 G K M [.ref (G.1 + 81), .int x1] (some (.int pp)) K M := by
  refine z_enter (lv := [(0, .ref (G.1 + 81)), (1, .int x1)]) (by decide +kernel) (Nat.le_of_ble_eq_true rfl) rfl ?_
  intro p e s m args below meth c C hnm hs0
  replace C : CX p s m args meth c cX1_findRest 4 (some .int) RX1 G := C
  unfold fX1_findRest at hf
  refine z_iconst C 0 dX1_findRest_0 (by decide) ?_
  refine z_istore_n C [(2, .int 0), (0, .ref (G.1 + 81)), (1, .int x1)] dX1_findRest_1 rfl (by decide) rfl rfl ?_
  refine z_iconst C 0 dX1_findRest_2 (by decide) ?_
  refine z_istore_n C [(3, .int 0), (2, .int 0), (0, .ref (G.1 + 81)), (1, .int x1)] dX1_findRest_3 rfl (by decide) rfl rfl ?_
  refine z_lv (lv2 := [(0, .ref (G.1 + 81)), (1, .int x1), (2, .int 0), (3, .int 0)]) [2, 3, 1, 0] rfl ?_
  refine wX1_findRest_l4 C hs0 hL M _ pp ?_ FU x1 0 0 hf
  · intro y11 y12 hf
    refine z_iload_n C 0 1 dX1_findRest_37 rfl rfl ?_
    refine z_iconst C (-1) dX1_findRest_38 (by decide) ?_
    refine z_icmp_ne C 46 dX1_findRest_39 (by decide) (fun c13 => ?_) (fun c13 => ?_)
    · replace hf := ite_f c13 hf
      refine z_iconst C (-1) dX1_findRest_46 (by decide) ?_
      cases hf
      exact z_iret C rfl dX1_findRest_47
    · replace hf := ite_t c13 hf
      refine z_iload_n C 1 2 dX1_findRest_42 rfl rfl ?_
      refine z_goto C 47 dX1_findRest_43 (by decide) ?_
      cases hf
      exact z_iret C rfl dX1_findRest_47
end
