theorem dX4_isSoup_0 : decode cX4_isSoup 0 = .ok (.aload_n 0, 1) := by decide +kernel
theorem dX4_isSoup_1 : decode cX4_isSoup 1 = .ok (.getfield 25, 3) := by decide +kernel
theorem dX4_isSoup_4 : decode cX4_isSoup 4 = .ok (.iload_n 1, 1) := by decide +kernel
theorem dX4_isSoup_5 : decode cX4_isSoup 5 = .ok (.iushr, 1) := by decide +kernel
theorem dX4_isSoup_6 : decode cX4_isSoup 6 = .ok (.iconst 1, 1) := by decide +kernel
theorem dX4_isSoup_7 : decode cX4_isSoup 7 = .ok (.iand, 1) := by decide +kernel
theorem dX4_isSoup_8 : decode cX4_isSoup 8 = .ok (.ifCond .eq 7, 3) := by decide +kernel
theorem dX4_isSoup_11 : decode cX4_isSoup 11 = .ok (.iconst 1, 1) := by decide +kernel
theorem dX4_isSoup_12 : decode cX4_isSoup 12 = .ok (.goto 4, 3) := by decide +kernel
theorem dX4_isSoup_15 : decode cX4_isSoup 15 = .ok (.iconst 0, 1) := by decide +kernel
theorem dX4_isSoup_16 : decode cX4_isSoup 16 = .ok (.ireturn, 1) := by decide +kernel
theorem dX4_divisor_0 : decode cX4_divisor 0 = .ok (.aload_n 0, 1) := by decide +kernel
theorem dX4_divisor_1 : decode cX4_divisor 1 = .ok (.getfield 28, 3) := by decide +kernel
theorem dX4_divisor_4 : decode cX4_divisor 4 = .ok (.iconst 1, 1) := by decide +kernel
theorem dX4_divisor_5 : decode cX4_divisor 5 = .ok (.if_icmp .ne 11, 3) := by decide +kernel
theorem dX4_divisor_8 : decode cX4_divisor 8 = .ok (.iconst 2, 1) := by decide +kernel
theorem dX4_divisor_9 : decode cX4_divisor 9 = .ok (.iload_n 1, 1) := by decide +kernel
theorem dX4_divisor_10 : decode cX4_divisor 10 = .ok (.imul, 1) := by decide +kernel
theorem dX4_divisor_11 : decode cX4_divisor 11 = .ok (.iconst 1, 1) := by decide +kernel
theorem dX4_divisor_12 : decode cX4_divisor 12 = .ok (.iadd, 1) := by decide +kernel
theorem dX4_divisor_13 : decode cX4_divisor 13 = .ok (.goto 6, 3) := by decide +kernel
theorem dX4_divisor_16 : decode cX4_divisor 16 = .ok (.iload_n 1, 1) := by decide +kernel
theorem dX4_divisor_17 : decode cX4_divisor 17 = .ok (.iconst 1, 1) := by decide +kernel
theorem dX4_divisor_18 : decode cX4_divisor 18 = .ok (.iadd, 1) := by decide +kernel
theorem dX4_divisor_19 : decode cX4_divisor 19 = .ok (.ireturn, 1) := by decide +kernel
theorem dX4_nextParty_0 : decode cX4_nextParty 0 = .ok (.iconst 0, 1) := by decide +kernel
theorem dX4_nextParty_1 : decode cX4_nextParty 1 = .ok (.istore_n 3, 1) := by decide +kernel
theorem dX4_nextParty_2 : decode cX4_nextParty 2 = .ok (.iconst 1, 1) := by decide +kernel
theorem dX4_nextParty_3 : decode cX4_nextParty 3 = .ok (.istore 4, 2) := by decide +kernel
theorem dX4_nextParty_5 : decode cX4_nextParty 5 = .ok (.iload 4, 2) := by decide +kernel
theorem dX4_nextParty_7 : decode cX4_nextParty 7 = .ok (.iconst 4, 1) := by decide +kernel
theorem dX4_nextParty_8 : decode cX4_nextParty 8 = .ok (.if_icmp .ge 39, 3) := by decide +kernel
theorem dX4_nextParty_11 : decode cX4_nextParty 11 = .ok (.aload_n 1, 1) := by decide +kernel
theorem dX4_nextParty_12 : decode cX4_nextParty 12 = .ok (.iload 4, 2) := by decide +kernel
theorem dX4_nextParty_14 : decode cX4_nextParty 14 = .ok (.iaload, 1) := by decide +kernel
theorem dX4_nextParty_15 : decode cX4_nextParty 15 = .ok (.aload_n 0, 1) := by decide +kernel
theorem dX4_nextParty_16 : decode cX4_nextParty 16 = .ok (.aload_n 2, 1) := by decide +kernel
theorem dX4_nextParty_17 : decode cX4_nextParty 17 = .ok (.iload_n 3, 1) := by decide +kernel
theorem dX4_nextParty_18 : decode cX4_nextParty 18 = .ok (.iaload, 1) := by decide +kernel
theorem dX4_nextParty_19 : decode cX4_nextParty 19 = .ok (.invokevirtual 39, 3) := by decide +kernel
theorem dX4_nextParty_22 : decode cX4_nextParty 22 = .ok (.imul, 1) := by decide +kernel
theorem dX4_nextParty_23 : decode cX4_nextParty 23 = .ok (.aload_n 1, 1) := by decide +kernel
theorem dX4_nextParty_24 : decode cX4_nextParty 24 = .ok (.iload_n 3, 1) := by decide +kernel
theorem dX4_nextParty_25 : decode cX4_nextParty 25 = .ok (.iaload, 1) := by decide +kernel
theorem dX4_nextParty_26 : decode cX4_nextParty 26 = .ok (.aload_n 0, 1) := by decide +kernel
theorem dX4_nextParty_27 : decode cX4_nextParty 27 = .ok (.aload_n 2, 1) := by decide +kernel
theorem dX4_nextParty_28 : decode cX4_nextParty 28 = .ok (.iload 4, 2) := by decide +kernel
theorem dX4_nextParty_30 : decode cX4_nextParty 30 = .ok (.iaload, 1) := by decide +kernel
theorem dX4_nextParty_31 : decode cX4_nextParty 31 = .ok (.invokevirtual 39, 3) := by decide +kernel
theorem dX4_nextParty_34 : decode cX4_nextParty 34 = .ok (.imul, 1) := by decide +kernel
theorem dX4_nextParty_35 : decode cX4_nextParty 35 = .ok (.if_icmp .le 6, 3) := by decide +kernel
theorem dX4_nextParty_38 : decode cX4_nextParty 38 = .ok (.iload 4, 2) := by decide +kernel
theorem dX4_nextParty_40 : decode cX4_nextParty 40 = .ok (.istore_n 3, 1) := by decide +kernel
theorem dX4_nextParty_41 : decode cX4_nextParty 41 = .ok (.iinc 4 1, 3) := by decide +kernel
theorem dX4_nextParty_44 : decode cX4_nextParty 44 = .ok (.goto (-39), 3) := by decide +kernel
theorem dX4_nextParty_47 : decode cX4_nextParty 47 = .ok (.iload_n 3, 1) := by decide +kernel
theorem dX4_nextParty_48 : decode cX4_nextParty 48 = .ok (.ireturn, 1) := by decide +kernel
theorem dX4_shareByRemainders_0 : decode cX4_shareByRemainders 0 = .ok (.iload_n 3, 1) := by decide +kernel
theorem dX4_shareByRemainders_1 : decode cX4_shareByRemainders 1 = .ok (.iconst 1, 1) := by decide +kernel
theorem dX4_shareByRemainders_2 : decode cX4_shareByRemainders 2 = .ok (.if_icmp .ge 4, 3) := by decide +kernel
theorem dX4_shareByRemainders_5 : decode cX4_shareByRemainders 5 = .ok (.return_, 1) := by decide +kernel
theorem dX4_shareByRemainders_6 : decode cX4_shareByRemainders 6 = .ok (.aload_n 0, 1) := by decide +kernel
theorem dX4_shareByRemainders_7 : decode cX4_shareByRemainders 7 = .ok (.getfield 15, 3) := by decide +kernel
theorem dX4_shareByRemainders_10 : decode cX4_shareByRemainders 10 = .ok (.istore 4, 2) := by decide +kernel
theorem dX4_shareByRemainders_12 : decode cX4_shareByRemainders 12 = .ok (.iconst 0, 1) := by decide +kernel
theorem dX4_shareByRemainders_13 : decode cX4_shareByRemainders 13 = .ok (.istore 5, 2) := by decide +kernel
theorem dX4_shareByRemainders_15 : decode cX4_shareByRemainders 15 = .ok (.iload 5, 2) := by decide +kernel
theorem dX4_shareByRemainders_17 : decode cX4_shareByRemainders 17 = .ok (.iconst 4, 1) := by decide +kernel
theorem dX4_shareByRemainders_18 : decode cX4_shareByRemainders 18 = .ok (.if_icmp .ge 33, 3) := by decide +kernel
theorem dX4_shareByRemainders_21 : decode cX4_shareByRemainders 21 = .ok (.aload_n 2, 1) := by decide +kernel
theorem dX4_shareByRemainders_22 : decode cX4_shareByRemainders 22 = .ok (.iload 5, 2) := by decide +kernel
theorem dX4_shareByRemainders_24 : decode cX4_shareByRemainders 24 = .ok (.aload_n 1, 1) := by decide +kernel
theorem dX4_shareByRemainders_25 : decode cX4_shareByRemainders 25 = .ok (.iload 5, 2) := by decide +kernel
theorem dX4_shareByRemainders_27 : decode cX4_shareByRemainders 27 = .ok (.iaload, 1) := by decide +kernel
theorem dX4_shareByRemainders_28 : decode cX4_shareByRemainders 28 = .ok (.aload_n 0, 1) := by decide +kernel
theorem dX4_shareByRemainders_29 : decode cX4_shareByRemainders 29 = .ok (.getfield 15, 3) := by decide +kernel
theorem dX4_shareByRemainders_32 : decode cX4_shareByRemainders 32 = .ok (.imul, 1) := by decide +kernel
theorem dX4_shareByRemainders_33 : decode cX4_shareByRemainders 33 = .ok (.iload_n 3, 1) := by decide +kernel
theorem dX4_shareByRemainders_34 : decode cX4_shareByRemainders 34 = .ok (.idiv, 1) := by decide +kernel
theorem dX4_shareByRemainders_35 : decode cX4_shareByRemainders 35 = .ok (.iastore, 1) := by decide +kernel
theorem dX4_shareByRemainders_36 : decode cX4_shareByRemainders 36 = .ok (.iload 4, 2) := by decide +kernel
theorem dX4_shareByRemainders_38 : decode cX4_shareByRemainders 38 = .ok (.aload_n 2, 1) := by decide +kernel
theorem dX4_shareByRemainders_39 : decode cX4_shareByRemainders 39 = .ok (.iload 5, 2) := by decide +kernel
theorem dX4_shareByRemainders_41 : decode cX4_shareByRemainders 41 = .ok (.iaload, 1) := by decide +kernel
theorem dX4_shareByRemainders_42 : decode cX4_shareByRemainders 42 = .ok (.isub, 1) := by decide +kernel
theorem dX4_shareByRemainders_43 : decode cX4_shareByRemainders 43 = .ok (.istore 4, 2) := by decide +kernel
theorem dX4_shareByRemainders_45 : decode cX4_shareByRemainders 45 = .ok (.iinc 5 1, 3) := by decide +kernel
theorem dX4_shareByRemainders_48 : decode cX4_shareByRemainders 48 = .ok (.goto (-33), 3) := by decide +kernel
theorem dX4_shareByRemainders_51 : decode cX4_shareByRemainders 51 = .ok (.iconst 0, 1) := by decide +kernel
theorem dX4_shareByRemainders_52 : decode cX4_shareByRemainders 52 = .ok (.istore 5, 2) := by decide +kernel
theorem dX4_shareByRemainders_54 : decode cX4_shareByRemainders 54 = .ok (.iconst 0, 1) := by decide +kernel
theorem dX4_shareByRemainders_55 : decode cX4_shareByRemainders 55 = .ok (.istore 6, 2) := by decide +kernel
theorem dX4_shareByRemainders_57 : decode cX4_shareByRemainders 57 = .ok (.iload 6, 2) := by decide +kernel
theorem dX4_shareByRemainders_59 : decode cX4_shareByRemainders 59 = .ok (.iload 4, 2) := by decide +kernel
theorem dX4_shareByRemainders_61 : decode cX4_shareByRemainders 61 = .ok (.if_icmp .ge 92, 3) := by decide +kernel
theorem dX4_shareByRemainders_64 : decode cX4_shareByRemainders 64 = .ok (.iconst (-1), 1) := by decide +kernel
theorem dX4_shareByRemainders_65 : decode cX4_shareByRemainders 65 = .ok (.istore 7, 2) := by decide +kernel
theorem dX4_shareByRemainders_67 : decode cX4_shareByRemainders 67 = .ok (.iconst (-1), 1) := by decide +kernel
theorem dX4_shareByRemainders_68 : decode cX4_shareByRemainders 68 = .ok (.istore 8, 2) := by decide +kernel
theorem dX4_shareByRemainders_70 : decode cX4_shareByRemainders 70 = .ok (.iconst 0, 1) := by decide +kernel
theorem dX4_shareByRemainders_71 : decode cX4_shareByRemainders 71 = .ok (.istore 9, 2) := by decide +kernel
theorem dX4_shareByRemainders_73 : decode cX4_shareByRemainders 73 = .ok (.iload 9, 2) := by decide +kernel
theorem dX4_shareByRemainders_75 : decode cX4_shareByRemainders 75 = .ok (.iconst 4, 1) := by decide +kernel
theorem dX4_shareByRemainders_76 : decode cX4_shareByRemainders 76 = .ok (.if_icmp .ge 47, 3) := by decide +kernel
theorem dX4_shareByRemainders_79 : decode cX4_shareByRemainders 79 = .ok (.aload_n 1, 1) := by decide +kernel
theorem dX4_shareByRemainders_80 : decode cX4_shareByRemainders 80 = .ok (.iload 9, 2) := by decide +kernel
theorem dX4_shareByRemainders_82 : decode cX4_shareByRemainders 82 = .ok (.iaload, 1) := by decide +kernel
theorem dX4_shareByRemainders_83 : decode cX4_shareByRemainders 83 = .ok (.aload_n 0, 1) := by decide +kernel
theorem dX4_shareByRemainders_84 : decode cX4_shareByRemainders 84 = .ok (.getfield 15, 3) := by decide +kernel
theorem dX4_shareByRemainders_87 : decode cX4_shareByRemainders 87 = .ok (.imul, 1) := by decide +kernel
theorem dX4_shareByRemainders_88 : decode cX4_shareByRemainders 88 = .ok (.iload_n 3, 1) := by decide +kernel
theorem dX4_shareByRemainders_89 : decode cX4_shareByRemainders 89 = .ok (.irem, 1) := by decide +kernel
theorem dX4_shareByRemainders_90 : decode cX4_shareByRemainders 90 = .ok (.istore 10, 2) := by decide +kernel
theorem dX4_shareByRemainders_92 : decode cX4_shareByRemainders 92 = .ok (.iload 5, 2) := by decide +kernel
theorem dX4_shareByRemainders_94 : decode cX4_shareByRemainders 94 = .ok (.iload 9, 2) := by decide +kernel
theorem dX4_shareByRemainders_96 : decode cX4_shareByRemainders 96 = .ok (.ishr, 1) := by decide +kernel
theorem dX4_shareByRemainders_97 : decode cX4_shareByRemainders 97 = .ok (.iconst 1, 1) := by decide +kernel
theorem dX4_shareByRemainders_98 : decode cX4_shareByRemainders 98 = .ok (.iand, 1) := by decide +kernel
theorem dX4_shareByRemainders_99 : decode cX4_shareByRemainders 99 = .ok (.ifCond .ne 18, 3) := by decide +kernel
theorem dX4_shareByRemainders_102 : decode cX4_shareByRemainders 102 = .ok (.iload 10, 2) := by decide +kernel
theorem dX4_shareByRemainders_104 : decode cX4_shareByRemainders 104 = .ok (.iload 8, 2) := by decide +kernel
theorem dX4_shareByRemainders_106 : decode cX4_shareByRemainders 106 = .ok (.if_icmp .le 11, 3) := by decide +kernel
theorem dX4_shareByRemainders_109 : decode cX4_shareByRemainders 109 = .ok (.iload 10, 2) := by decide +kernel
theorem dX4_shareByRemainders_111 : decode cX4_shareByRemainders 111 = .ok (.istore 8, 2) := by decide +kernel
theorem dX4_shareByRemainders_113 : decode cX4_shareByRemainders 113 = .ok (.iload 9, 2) := by decide +kernel
theorem dX4_shareByRemainders_115 : decode cX4_shareByRemainders 115 = .ok (.istore 7, 2) := by decide +kernel
theorem dX4_shareByRemainders_117 : decode cX4_shareByRemainders 117 = .ok (.iinc 9 1, 3) := by decide +kernel
theorem dX4_shareByRemainders_120 : decode cX4_shareByRemainders 120 = .ok (.goto (-47), 3) := by decide +kernel
theorem dX4_shareByRemainders_123 : decode cX4_shareByRemainders 123 = .ok (.iload 7, 2) := by decide +kernel
theorem dX4_shareByRemainders_125 : decode cX4_shareByRemainders 125 = .ok (.iconst (-1), 1) := by decide +kernel
theorem dX4_shareByRemainders_126 : decode cX4_shareByRemainders 126 = .ok (.if_icmp .ne 4, 3) := by decide +kernel
theorem dX4_shareByRemainders_129 : decode cX4_shareByRemainders 129 = .ok (.return_, 1) := by decide +kernel
theorem dX4_shareByRemainders_130 : decode cX4_shareByRemainders 130 = .ok (.aload_n 2, 1) := by decide +kernel
theorem dX4_shareByRemainders_131 : decode cX4_shareByRemainders 131 = .ok (.iload 7, 2) := by decide +kernel
theorem dX4_shareByRemainders_133 : decode cX4_shareByRemainders 133 = .ok (.dup2, 1) := by decide +kernel
theorem dX4_shareByRemainders_134 : decode cX4_shareByRemainders 134 = .ok (.iaload, 1) := by decide +kernel
theorem dX4_shareByRemainders_135 : decode cX4_shareByRemainders 135 = .ok (.iconst 1, 1) := by decide +kernel
theorem dX4_shareByRemainders_136 : decode cX4_shareByRemainders 136 = .ok (.iadd, 1) := by decide +kernel
theorem dX4_shareByRemainders_137 : decode cX4_shareByRemainders 137 = .ok (.iastore, 1) := by decide +kernel
theorem dX4_shareByRemainders_138 : decode cX4_shareByRemainders 138 = .ok (.iload 5, 2) := by decide +kernel
theorem dX4_shareByRemainders_140 : decode cX4_shareByRemainders 140 = .ok (.iconst 1, 1) := by decide +kernel
theorem dX4_shareByRemainders_141 : decode cX4_shareByRemainders 141 = .ok (.iload 7, 2) := by decide +kernel
theorem dX4_shareByRemainders_143 : decode cX4_shareByRemainders 143 = .ok (.ishl, 1) := by decide +kernel
theorem dX4_shareByRemainders_144 : decode cX4_shareByRemainders 144 = .ok (.ior, 1) := by decide +kernel
theorem dX4_shareByRemainders_145 : decode cX4_shareByRemainders 145 = .ok (.istore 5, 2) := by decide +kernel
theorem dX4_shareByRemainders_147 : decode cX4_shareByRemainders 147 = .ok (.iinc 6 1, 3) := by decide +kernel
theorem dX4_shareByRemainders_150 : decode cX4_shareByRemainders 150 = .ok (.goto (-93), 3) := by decide +kernel
theorem dX4_shareByRemainders_153 : decode cX4_shareByRemainders 153 = .ok (.return_, 1) := by decide +kernel
theorem dX4_share_0 : decode cX4_share 0 = .ok (.iconst 0, 1) := by decide +kernel
theorem dX4_share_1 : decode cX4_share 1 = .ok (.istore_n 3, 1) := by decide +kernel
theorem dX4_share_2 : decode cX4_share 2 = .ok (.iconst 0, 1) := by decide +kernel
theorem dX4_share_3 : decode cX4_share 3 = .ok (.istore 4, 2) := by decide +kernel
theorem dX4_share_5 : decode cX4_share 5 = .ok (.iload 4, 2) := by decide +kernel
theorem dX4_share_7 : decode cX4_share 7 = .ok (.iconst 4, 1) := by decide +kernel
theorem dX4_share_8 : decode cX4_share 8 = .ok (.if_icmp .ge 21, 3) := by decide +kernel
theorem dX4_share_11 : decode cX4_share 11 = .ok (.iload_n 3, 1) := by decide +kernel
theorem dX4_share_12 : decode cX4_share 12 = .ok (.aload_n 1, 1) := by decide +kernel
theorem dX4_share_13 : decode cX4_share 13 = .ok (.iload 4, 2) := by decide +kernel
theorem dX4_share_15 : decode cX4_share 15 = .ok (.iaload, 1) := by decide +kernel
theorem dX4_share_16 : decode cX4_share 16 = .ok (.iadd, 1) := by decide +kernel
theorem dX4_share_17 : decode cX4_share 17 = .ok (.istore_n 3, 1) := by decide +kernel
theorem dX4_share_18 : decode cX4_share 18 = .ok (.aload_n 2, 1) := by decide +kernel
theorem dX4_share_19 : decode cX4_share 19 = .ok (.iload 4, 2) := by decide +kernel
theorem dX4_share_21 : decode cX4_share 21 = .ok (.iconst 0, 1) := by decide +kernel
theorem dX4_share_22 : decode cX4_share 22 = .ok (.iastore, 1) := by decide +kernel
theorem dX4_share_23 : decode cX4_share 23 = .ok (.iinc 4 1, 3) := by decide +kernel
theorem dX4_share_26 : decode cX4_share 26 = .ok (.goto (-21), 3) := by decide +kernel
theorem dX4_share_29 : decode cX4_share 29 = .ok (.iload_n 3, 1) := by decide +kernel
theorem dX4_share_30 : decode cX4_share 30 = .ok (.iconst 1, 1) := by decide +kernel
theorem dX4_share_31 : decode cX4_share 31 = .ok (.if_icmp .ge 4, 3) := by decide +kernel
theorem dX4_share_34 : decode cX4_share 34 = .ok (.return_, 1) := by decide +kernel
theorem dX4_share_35 : decode cX4_share 35 = .ok (.aload_n 0, 1) := by decide +kernel
theorem dX4_share_36 : decode cX4_share 36 = .ok (.getfield 28, 3) := by decide +kernel
theorem dX4_share_39 : decode cX4_share 39 = .ok (.iconst 2, 1) := by decide +kernel
theorem dX4_share_40 : decode cX4_share 40 = .ok (.if_icmp .ne 11, 3) := by decide +kernel
theorem dX4_share_43 : decode cX4_share 43 = .ok (.aload_n 0, 1) := by decide +kernel
theorem dX4_share_44 : decode cX4_share 44 = .ok (.aload_n 1, 1) := by decide +kernel
theorem dX4_share_45 : decode cX4_share 45 = .ok (.aload_n 2, 1) := by decide +kernel
theorem dX4_share_46 : decode cX4_share 46 = .ok (.iload_n 3, 1) := by decide +kernel
theorem dX4_share_47 : decode cX4_share 47 = .ok (.invokevirtual 31, 3) := by decide +kernel
theorem dX4_share_50 : decode cX4_share 50 = .ok (.return_, 1) := by decide +kernel
theorem dX4_share_51 : decode cX4_share 51 = .ok (.iconst 0, 1) := by decide +kernel
theorem dX4_share_52 : decode cX4_share 52 = .ok (.istore 4, 2) := by decide +kernel
theorem dX4_share_54 : decode cX4_share 54 = .ok (.iload 4, 2) := by decide +kernel
theorem dX4_share_56 : decode cX4_share 56 = .ok (.aload_n 0, 1) := by decide +kernel
theorem dX4_share_57 : decode cX4_share 57 = .ok (.getfield 15, 3) := by decide +kernel
theorem dX4_share_60 : decode cX4_share 60 = .ok (.if_icmp .ge 21, 3) := by decide +kernel
theorem dX4_share_63 : decode cX4_share 63 = .ok (.aload_n 2, 1) := by decide +kernel
theorem dX4_share_64 : decode cX4_share 64 = .ok (.aload_n 0, 1) := by decide +kernel
theorem dX4_share_65 : decode cX4_share 65 = .ok (.aload_n 1, 1) := by decide +kernel
theorem dX4_share_66 : decode cX4_share 66 = .ok (.aload_n 2, 1) := by decide +kernel
theorem dX4_share_67 : decode cX4_share 67 = .ok (.invokevirtual 35, 3) := by decide +kernel
theorem dX4_share_70 : decode cX4_share 70 = .ok (.dup2, 1) := by decide +kernel
theorem dX4_share_71 : decode cX4_share 71 = .ok (.iaload, 1) := by decide +kernel
theorem dX4_share_72 : decode cX4_share 72 = .ok (.iconst 1, 1) := by decide +kernel
theorem dX4_share_73 : decode cX4_share 73 = .ok (.iadd, 1) := by decide +kernel
theorem dX4_share_74 : decode cX4_share 74 = .ok (.iastore, 1) := by decide +kernel
theorem dX4_share_75 : decode cX4_share 75 = .ok (.iinc 4 1, 3) := by decide +kernel
theorem dX4_share_78 : decode cX4_share 78 = .ok (.goto (-24), 3) := by decide +kernel
theorem dX4_share_81 : decode cX4_share 81 = .ok (.return_, 1) := by decide +kernel
theorem dX2_copyFrom_0 : decode cX2_copyFrom 0 = .ok (.aload_n 0, 1) := by decide +kernel
theorem dX2_copyFrom_1 : decode cX2_copyFrom 1 = .ok (.aload_n 1, 1) := by decide +kernel
theorem dX2_copyFrom_2 : decode cX2_copyFrom 2 = .ok (.getfield 21, 3) := by decide +kernel
theorem dX2_copyFrom_5 : decode cX2_copyFrom 5 = .ok (.putfield 21, 3) := by decide +kernel
theorem dX2_copyFrom_8 : decode cX2_copyFrom 8 = .ok (.aload_n 1, 1) := by decide +kernel
theorem dX2_copyFrom_9 : decode cX2_copyFrom 9 = .ok (.getfield 9, 3) := by decide +kernel
theorem dX2_copyFrom_12 : decode cX2_copyFrom 12 = .ok (.iconst 0, 1) := by decide +kernel
theorem dX2_copyFrom_13 : decode cX2_copyFrom 13 = .ok (.aload_n 0, 1) := by decide +kernel
theorem dX2_copyFrom_14 : decode cX2_copyFrom 14 = .ok (.getfield 9, 3) := by decide +kernel
theorem dX2_copyFrom_17 : decode cX2_copyFrom 17 = .ok (.iconst 0, 1) := by decide +kernel
theorem dX2_copyFrom_18 : decode cX2_copyFrom 18 = .ok (.bipush 40, 2) := by decide +kernel
theorem dX2_copyFrom_20 : decode cX2_copyFrom 20 = .ok (.invokestatic 25, 3) := by decide +kernel
theorem dX2_copyFrom_23 : decode cX2_copyFrom 23 = .ok (.aload_n 1, 1) := by decide +kernel
theorem dX2_copyFrom_24 : decode cX2_copyFrom 24 = .ok (.getfield 15, 3) := by decide +kernel
theorem dX2_copyFrom_27 : decode cX2_copyFrom 27 = .ok (.iconst 0, 1) := by decide +kernel
theorem dX2_copyFrom_28 : decode cX2_copyFrom 28 = .ok (.aload_n 0, 1) := by decide +kernel
theorem dX2_copyFrom_29 : decode cX2_copyFrom 29 = .ok (.getfield 15, 3) := by decide +kernel
theorem dX2_copyFrom_32 : decode cX2_copyFrom 32 = .ok (.iconst 0, 1) := by decide +kernel
theorem dX2_copyFrom_33 : decode cX2_copyFrom 33 = .ok (.bipush 40, 2) := by decide +kernel
theorem dX2_copyFrom_35 : decode cX2_copyFrom 35 = .ok (.invokestatic 25, 3) := by decide +kernel
theorem dX2_copyFrom_38 : decode cX2_copyFrom 38 = .ok (.aload_n 1, 1) := by decide +kernel
theorem dX2_copyFrom_39 : decode cX2_copyFrom 39 = .ok (.getfield 18, 3) := by decide +kernel
theorem dX2_copyFrom_42 : decode cX2_copyFrom 42 = .ok (.iconst 0, 1) := by decide +kernel
theorem dX2_copyFrom_43 : decode cX2_copyFrom 43 = .ok (.aload_n 0, 1) := by decide +kernel
theorem dX2_copyFrom_44 : decode cX2_copyFrom 44 = .ok (.getfield 18, 3) := by decide +kernel
theorem dX2_copyFrom_47 : decode cX2_copyFrom 47 = .ok (.iconst 0, 1) := by decide +kernel
theorem dX2_copyFrom_48 : decode cX2_copyFrom 48 = .ok (.bipush 40, 2) := by decide +kernel
theorem dX2_copyFrom_50 : decode cX2_copyFrom 50 = .ok (.invokestatic 25, 3) := by decide +kernel
theorem dX2_copyFrom_53 : decode cX2_copyFrom 53 = .ok (.return_, 1) := by decide +kernel
theorem dX2_add_0 : decode cX2_add 0 = .ok (.aload_n 0, 1) := by decide +kernel
theorem dX2_add_1 : decode cX2_add 1 = .ok (.getfield 21, 3) := by decide +kernel
theorem dX2_add_4 : decode cX2_add 4 = .ok (.bipush 40, 2) := by decide +kernel
theorem dX2_add_6 : decode cX2_add 6 = .ok (.if_icmp .lt 4, 3) := by decide +kernel
theorem dX2_add_9 : decode cX2_add 9 = .ok (.return_, 1) := by decide +kernel
theorem dX2_add_10 : decode cX2_add 10 = .ok (.aload_n 0, 1) := by decide +kernel
theorem dX2_add_11 : decode cX2_add 11 = .ok (.getfield 9, 3) := by decide +kernel
theorem dX2_add_14 : decode cX2_add 14 = .ok (.aload_n 0, 1) := by decide +kernel
theorem dX2_add_15 : decode cX2_add 15 = .ok (.getfield 21, 3) := by decide +kernel
theorem dX2_add_18 : decode cX2_add 18 = .ok (.iload_n 1, 1) := by decide +kernel
theorem dX2_add_19 : decode cX2_add 19 = .ok (.iastore, 1) := by decide +kernel
theorem dX2_add_20 : decode cX2_add 20 = .ok (.aload_n 0, 1) := by decide +kernel
theorem dX2_add_21 : decode cX2_add 21 = .ok (.getfield 15, 3) := by decide +kernel
theorem dX2_add_24 : decode cX2_add 24 = .ok (.aload_n 0, 1) := by decide +kernel
theorem dX2_add_25 : decode cX2_add 25 = .ok (.getfield 21, 3) := by decide +kernel
theorem dX2_add_28 : decode cX2_add 28 = .ok (.iload_n 1, 1) := by decide +kernel
theorem dX2_add_29 : decode cX2_add 29 = .ok (.iconst 4, 1) := by decide +kernel
theorem dX2_add_30 : decode cX2_add 30 = .ok (.if_icmp .ne 7, 3) := by decide +kernel
theorem dX2_add_33 : decode cX2_add 33 = .ok (.iconst (-1), 1) := by decide +kernel
theorem dX2_add_34 : decode cX2_add 34 = .ok (.goto 6, 3) := by decide +kernel
theorem dX2_add_37 : decode cX2_add 37 = .ok (.aload_n 2, 1) := by decide +kernel
theorem dX2_add_38 : decode cX2_add 38 = .ok (.iconst 0, 1) := by decide +kernel
theorem dX2_add_39 : decode cX2_add 39 = .ok (.iaload, 1) := by decide +kernel
theorem dX2_add_40 : decode cX2_add 40 = .ok (.iastore, 1) := by decide +kernel
theorem dX2_add_41 : decode cX2_add 41 = .ok (.aload_n 0, 1) := by decide +kernel
theorem dX2_add_42 : decode cX2_add 42 = .ok (.getfield 18, 3) := by decide +kernel
theorem dX2_add_45 : decode cX2_add 45 = .ok (.aload_n 0, 1) := by decide +kernel
theorem dX2_add_46 : decode cX2_add 46 = .ok (.getfield 21, 3) := by decide +kernel
theorem dX2_add_49 : decode cX2_add 49 = .ok (.iload_n 1, 1) := by decide +kernel
theorem dX2_add_50 : decode cX2_add 50 = .ok (.ifCond .eq 8, 3) := by decide +kernel
theorem dX2_add_53 : decode cX2_add 53 = .ok (.iload_n 1, 1) := by decide +kernel
theorem dX2_add_54 : decode cX2_add 54 = .ok (.iconst 1, 1) := by decide +kernel
theorem dX2_add_55 : decode cX2_add 55 = .ok (.if_icmp .ne 9, 3) := by decide +kernel
theorem dX2_add_58 : decode cX2_add 58 = .ok (.aload_n 2, 1) := by decide +kernel
theorem dX2_add_59 : decode cX2_add 59 = .ok (.iconst 1, 1) := by decide +kernel
theorem dX2_add_60 : decode cX2_add 60 = .ok (.iaload, 1) := by decide +kernel
theorem dX2_add_61 : decode cX2_add 61 = .ok (.goto 4, 3) := by decide +kernel
theorem dX2_add_64 : decode cX2_add 64 = .ok (.iconst (-1), 1) := by decide +kernel
theorem dX2_add_65 : decode cX2_add 65 = .ok (.iastore, 1) := by decide +kernel
theorem dX2_add_66 : decode cX2_add 66 = .ok (.aload_n 0, 1) := by decide +kernel
theorem dX2_add_67 : decode cX2_add 67 = .ok (.dup, 1) := by decide +kernel
theorem dX2_add_68 : decode cX2_add 68 = .ok (.getfield 21, 3) := by decide +kernel
theorem dX2_add_71 : decode cX2_add 71 = .ok (.iconst 1, 1) := by decide +kernel
theorem dX2_add_72 : decode cX2_add 72 = .ok (.iadd, 1) := by decide +kernel
theorem dX2_add_73 : decode cX2_add 73 = .ok (.putfield 21, 3) := by decide +kernel
theorem dX2_add_76 : decode cX2_add 76 = .ok (.return_, 1) := by decide +kernel
theorem dX4_clear_0 : decode cX4_clear 0 = .ok (.aload_n 0, 1) := by decide +kernel
theorem dX4_clear_1 : decode cX4_clear 1 = .ok (.iconst 0, 1) := by decide +kernel
theorem dX4_clear_2 : decode cX4_clear 2 = .ok (.putfield 22, 3) := by decide +kernel
theorem dX4_clear_5 : decode cX4_clear 5 = .ok (.aload_n 0, 1) := by decide +kernel
theorem dX4_clear_6 : decode cX4_clear 6 = .ok (.iconst 1, 1) := by decide +kernel
theorem dX4_clear_7 : decode cX4_clear 7 = .ok (.putfield 9, 3) := by decide +kernel
theorem dX4_clear_10 : decode cX4_clear 10 = .ok (.aload_n 0, 1) := by decide +kernel
theorem dX4_clear_11 : decode cX4_clear 11 = .ok (.iconst 0, 1) := by decide +kernel
theorem dX4_clear_12 : decode cX4_clear 12 = .ok (.putfield 25, 3) := by decide +kernel
theorem dX4_clear_15 : decode cX4_clear 15 = .ok (.aload_n 0, 1) := by decide +kernel
theorem dX4_clear_16 : decode cX4_clear 16 = .ok (.iconst 5, 1) := by decide +kernel
theorem dX4_clear_17 : decode cX4_clear 17 = .ok (.putfield 15, 3) := by decide +kernel
theorem dX4_clear_20 : decode cX4_clear 20 = .ok (.aload_n 0, 1) := by decide +kernel
theorem dX4_clear_21 : decode cX4_clear 21 = .ok (.iconst 0, 1) := by decide +kernel
theorem dX4_clear_22 : decode cX4_clear 22 = .ok (.putfield 28, 3) := by decide +kernel
theorem dX4_clear_25 : decode cX4_clear 25 = .ok (.aload_n 0, 1) := by decide +kernel
theorem dX4_clear_26 : decode cX4_clear 26 = .ok (.iconst 1, 1) := by decide +kernel
theorem dX4_clear_27 : decode cX4_clear 27 = .ok (.putfield 19, 3) := by decide +kernel
theorem dX4_clear_30 : decode cX4_clear 30 = .ok (.return_, 1) := by decide +kernel
theorem dX4_copyFrom_0 : decode cX4_copyFrom 0 = .ok (.aload_n 0, 1) := by decide +kernel
theorem dX4_copyFrom_1 : decode cX4_copyFrom 1 = .ok (.aload_n 1, 1) := by decide +kernel
theorem dX4_copyFrom_2 : decode cX4_copyFrom 2 = .ok (.getfield 22, 3) := by decide +kernel
theorem dX4_copyFrom_5 : decode cX4_copyFrom 5 = .ok (.putfield 22, 3) := by decide +kernel
theorem dX4_copyFrom_8 : decode cX4_copyFrom 8 = .ok (.aload_n 0, 1) := by decide +kernel
theorem dX4_copyFrom_9 : decode cX4_copyFrom 9 = .ok (.aload_n 1, 1) := by decide +kernel
theorem dX4_copyFrom_10 : decode cX4_copyFrom 10 = .ok (.getfield 9, 3) := by decide +kernel
theorem dX4_copyFrom_13 : decode cX4_copyFrom 13 = .ok (.putfield 9, 3) := by decide +kernel
theorem dX4_copyFrom_16 : decode cX4_copyFrom 16 = .ok (.aload_n 0, 1) := by decide +kernel
theorem dX4_copyFrom_17 : decode cX4_copyFrom 17 = .ok (.aload_n 1, 1) := by decide +kernel
theorem dX4_copyFrom_18 : decode cX4_copyFrom 18 = .ok (.getfield 25, 3) := by decide +kernel
theorem dX4_copyFrom_21 : decode cX4_copyFrom 21 = .ok (.putfield 25, 3) := by decide +kernel
theorem dX4_copyFrom_24 : decode cX4_copyFrom 24 = .ok (.aload_n 0, 1) := by decide +kernel
theorem dX4_copyFrom_25 : decode cX4_copyFrom 25 = .ok (.aload_n 1, 1) := by decide +kernel
theorem dX4_copyFrom_26 : decode cX4_copyFrom 26 = .ok (.getfield 15, 3) := by decide +kernel
theorem dX4_copyFrom_29 : decode cX4_copyFrom 29 = .ok (.putfield 15, 3) := by decide +kernel
theorem dX4_copyFrom_32 : decode cX4_copyFrom 32 = .ok (.aload_n 0, 1) := by decide +kernel
theorem dX4_copyFrom_33 : decode cX4_copyFrom 33 = .ok (.aload_n 1, 1) := by decide +kernel
theorem dX4_copyFrom_34 : decode cX4_copyFrom 34 = .ok (.getfield 28, 3) := by decide +kernel
theorem dX4_copyFrom_37 : decode cX4_copyFrom 37 = .ok (.putfield 28, 3) := by decide +kernel
theorem dX4_copyFrom_40 : decode cX4_copyFrom 40 = .ok (.aload_n 0, 1) := by decide +kernel
theorem dX4_copyFrom_41 : decode cX4_copyFrom 41 = .ok (.aload_n 1, 1) := by decide +kernel
theorem dX4_copyFrom_42 : decode cX4_copyFrom 42 = .ok (.getfield 19, 3) := by decide +kernel
theorem dX4_copyFrom_45 : decode cX4_copyFrom 45 = .ok (.putfield 19, 3) := by decide +kernel
theorem dX4_copyFrom_48 : decode cX4_copyFrom 48 = .ok (.return_, 1) := by decide +kernel
theorem dX4_tell_0 : decode cX4_tell 0 = .ok (.iload_n 1, 1) := by decide +kernel
theorem dX4_tell_1 : decode cX4_tell 1 = .ok (.ifCond .ne 8, 3) := by decide +kernel
theorem dX4_tell_4 : decode cX4_tell 4 = .ok (.aload_n 0, 1) := by decide +kernel
theorem dX4_tell_5 : decode cX4_tell 5 = .ok (.getfield 22, 3) := by decide +kernel
theorem dX4_tell_8 : decode cX4_tell 8 = .ok (.ireturn, 1) := by decide +kernel
theorem dX4_tell_9 : decode cX4_tell 9 = .ok (.iload_n 1, 1) := by decide +kernel
theorem dX4_tell_10 : decode cX4_tell 10 = .ok (.iconst 1, 1) := by decide +kernel
theorem dX4_tell_11 : decode cX4_tell 11 = .ok (.if_icmp .ne 16, 3) := by decide +kernel
theorem dX4_tell_14 : decode cX4_tell 14 = .ok (.aload_n 0, 1) := by decide +kernel
theorem dX4_tell_15 : decode cX4_tell 15 = .ok (.getfield 9, 3) := by decide +kernel
theorem dX4_tell_18 : decode cX4_tell 18 = .ok (.ifCond .eq 7, 3) := by decide +kernel
theorem dX4_tell_21 : decode cX4_tell 21 = .ok (.iconst 1, 1) := by decide +kernel
theorem dX4_tell_22 : decode cX4_tell 22 = .ok (.goto 4, 3) := by decide +kernel
theorem dX4_tell_25 : decode cX4_tell 25 = .ok (.iconst 0, 1) := by decide +kernel
theorem dX4_tell_26 : decode cX4_tell 26 = .ok (.ireturn, 1) := by decide +kernel
theorem dX4_tell_27 : decode cX4_tell 27 = .ok (.iload_n 1, 1) := by decide +kernel
theorem dX4_tell_28 : decode cX4_tell 28 = .ok (.iconst 2, 1) := by decide +kernel
theorem dX4_tell_29 : decode cX4_tell 29 = .ok (.if_icmp .ne 8, 3) := by decide +kernel
theorem dX4_tell_32 : decode cX4_tell 32 = .ok (.aload_n 0, 1) := by decide +kernel
theorem dX4_tell_33 : decode cX4_tell 33 = .ok (.getfield 25, 3) := by decide +kernel
theorem dX4_tell_36 : decode cX4_tell 36 = .ok (.ireturn, 1) := by decide +kernel
theorem dX4_tell_37 : decode cX4_tell 37 = .ok (.iload_n 1, 1) := by decide +kernel
theorem dX4_tell_38 : decode cX4_tell 38 = .ok (.iconst 3, 1) := by decide +kernel
theorem dX4_tell_39 : decode cX4_tell 39 = .ok (.if_icmp .ne 8, 3) := by decide +kernel
theorem dX4_tell_42 : decode cX4_tell 42 = .ok (.aload_n 0, 1) := by decide +kernel
theorem dX4_tell_43 : decode cX4_tell 43 = .ok (.getfield 15, 3) := by decide +kernel
theorem dX4_tell_46 : decode cX4_tell 46 = .ok (.ireturn, 1) := by decide +kernel
theorem dX4_tell_47 : decode cX4_tell 47 = .ok (.iload_n 1, 1) := by decide +kernel
theorem dX4_tell_48 : decode cX4_tell 48 = .ok (.iconst 4, 1) := by decide +kernel
theorem dX4_tell_49 : decode cX4_tell 49 = .ok (.if_icmp .ne 8, 3) := by decide +kernel
theorem dX4_tell_52 : decode cX4_tell 52 = .ok (.aload_n 0, 1) := by decide +kernel
theorem dX4_tell_53 : decode cX4_tell 53 = .ok (.getfield 28, 3) := by decide +kernel
theorem dX4_tell_56 : decode cX4_tell 56 = .ok (.ireturn, 1) := by decide +kernel
theorem dX4_tell_57 : decode cX4_tell 57 = .ok (.iload_n 1, 1) := by decide +kernel
theorem dX4_tell_58 : decode cX4_tell 58 = .ok (.iconst 5, 1) := by decide +kernel
theorem dX4_tell_59 : decode cX4_tell 59 = .ok (.if_icmp .ne 10, 3) := by decide +kernel
theorem dX4_tell_62 : decode cX4_tell 62 = .ok (.aload_n 0, 1) := by decide +kernel
theorem dX4_tell_63 : decode cX4_tell 63 = .ok (.getfield 19, 3) := by decide +kernel
theorem dX4_tell_66 : decode cX4_tell 66 = .ok (.goto 4, 3) := by decide +kernel
theorem dX4_tell_69 : decode cX4_tell 69 = .ok (.iconst (-1), 1) := by decide +kernel
theorem dX4_tell_70 : decode cX4_tell 70 = .ok (.ireturn, 1) := by decide +kernel
theorem dX8_clear_0 : decode cX8_clear 0 = .ok (.aload_n 0, 1) := by decide +kernel
theorem dX8_clear_1 : decode cX8_clear 1 = .ok (.iconst 0, 1) := by decide +kernel
theorem dX8_clear_2 : decode cX8_clear 2 = .ok (.putfield 21, 3) := by decide +kernel
theorem dX8_clear_5 : decode cX8_clear 5 = .ok (.aload_n 0, 1) := by decide +kernel
theorem dX8_clear_6 : decode cX8_clear 6 = .ok (.getfield 9, 3) := by decide +kernel
theorem dX8_clear_9 : decode cX8_clear 9 = .ok (.iconst (-1), 1) := by decide +kernel
theorem dX8_clear_10 : decode cX8_clear 10 = .ok (.invokestatic 15, 3) := by decide +kernel
theorem dX8_clear_13 : decode cX8_clear 13 = .ok (.return_, 1) := by decide +kernel
theorem dX8_copyFrom_0 : decode cX8_copyFrom 0 = .ok (.aload_n 0, 1) := by decide +kernel
theorem dX8_copyFrom_1 : decode cX8_copyFrom 1 = .ok (.aload_n 1, 1) := by decide +kernel
theorem dX8_copyFrom_2 : decode cX8_copyFrom 2 = .ok (.getfield 21, 3) := by decide +kernel
theorem dX8_copyFrom_5 : decode cX8_copyFrom 5 = .ok (.putfield 21, 3) := by decide +kernel
theorem dX8_copyFrom_8 : decode cX8_copyFrom 8 = .ok (.aload_n 1, 1) := by decide +kernel
theorem dX8_copyFrom_9 : decode cX8_copyFrom 9 = .ok (.getfield 9, 3) := by decide +kernel
theorem dX8_copyFrom_12 : decode cX8_copyFrom 12 = .ok (.iconst 0, 1) := by decide +kernel
theorem dX8_copyFrom_13 : decode cX8_copyFrom 13 = .ok (.aload_n 0, 1) := by decide +kernel
theorem dX8_copyFrom_14 : decode cX8_copyFrom 14 = .ok (.getfield 9, 3) := by decide +kernel
theorem dX8_copyFrom_17 : decode cX8_copyFrom 17 = .ok (.iconst 0, 1) := by decide +kernel
theorem dX8_copyFrom_18 : decode cX8_copyFrom 18 = .ok (.bipush 8, 2) := by decide +kernel
theorem dX8_copyFrom_20 : decode cX8_copyFrom 20 = .ok (.invokestatic 25, 3) := by decide +kernel
theorem dX8_copyFrom_23 : decode cX8_copyFrom 23 = .ok (.return_, 1) := by decide +kernel
section
variable {p : Program} {l : Launch} {e : Env} {s : State} {m : MethodId} {args : Array Value} {below : List Frame} {meth : Method} {c : Code} {G : GG} {K : SK}
set_option maxHeartbeats 4000000 in
set_option maxRecDepth 100000 in
theorem tX4_isSoup (l : Launch) (G : GG) {K : SK} (hL : Lay K) (M : MM) (a0 : Nat) (h0 : Lw K a0) (x1 : Int32) : Ct l yX4_isSoup cX4_isSoup 2 (some .boolean) 0 0 0 G K M [.ref (G.1 + a0), .int x1] (some (.int (fX4_isSoup M a0 x1))) K M := by
  generalize hf : fX4_isSoup M a0 x1 = pp
  refine z_enter (lv := [(0, .ref (G.1 + a0)), (1, .int x1)]) (by decide +kernel) (Nat.le_of_ble_eq_true rfl) rfl ?_
  intro p e s m args below meth c C hnm hs0
  replace C : CX p s m args meth c cX4_isSoup 2 (some .boolean) RX4 G := C
  unfold fX4_isSoup at hf
  refine z_aload_n C 0 0 dX4_isSoup_0 rfl rfl ?_
  refine z_getI C ok_X4 (Lw_o h0) 2 (by decide) rfl q_fl_X4_25 dX4_isSoup_1 ?_
  refine z_iload_n C 1 1 dX4_isSoup_4 rfl rfl ?_
  refine z_iushr C dX4_isSoup_5 ?_
  refine z_iconst C 1 dX4_isSoup_6 (by decide) ?_
  refine z_iand C dX4_isSoup_7 ?_
  refine z_if_eq C 15 dX4_isSoup_8 (by decide) (fun c1 => ?_) (fun c1 => ?_)
  · replace hf := ite_t c1 hf
    refine z_iconst C 0 dX4_isSoup_15 (by decide) ?_
    cases hf
    exact z_zret C rfl nb0 dX4_isSoup_16
  · replace hf := ite_f c1 hf
    refine z_iconst C 1 dX4_isSoup_11 (by decide) ?_
    refine z_goto C 16 dX4_isSoup_12 (by decide) ?_
    cases hf
    exact z_zret C rfl nb1 dX4_isSoup_16
set_option maxHeartbeats 4000000 in
set_option maxRecDepth 100000 in
theorem tX4_divisor (l : Launch) (G : GG) {K : SK} (hL : Lay K) (M : MM) (a0 : Nat) (h0 : Lw K a0) (x1 : Int32) : Ct l yX4_divisor cX4_divisor 2 (some .int) 0 0 0 G K M [.ref (G.1 + a0), .int x1] (some (.int (fX4_divisor M a0 x1))) K M := by
  generalize hf : fX4_divisor M a0 x1 = pp
  refine z_enter (lv := [(0, .ref (G.1 + a0)), (1, .int x1)]) (by decide +kernel) (Nat.le_of_ble_eq_true rfl) rfl ?_
  intro p e s m args below meth c C hnm hs0
  replace C : CX p s m args meth c cX4_divisor 2 (some .int) RX4 G := C
  unfold fX4_divisor at hf
  refine z_aload_n C 0 0 dX4_divisor_0 rfl rfl ?_
  refine z_getI C ok_X4 (Lw_o h0) 4 (by decide) rfl q_fl_X4_28 dX4_divisor_1 ?_
  refine z_iconst C 1 dX4_divisor_4 (by decide) ?_
  refine z_icmp_ne C 16 dX4_divisor_5 (by decide) (fun c1 => ?_) (fun c1 => ?_)
  · replace hf := ite_f c1 hf
    refine z_iload_n C 1 1 dX4_divisor_16 rfl rfl ?_
    refine z_iconst C 1 dX4_divisor_17 (by decide) ?_
    refine z_iadd C dX4_divisor_18 ?_
    cases hf
    exact z_iret C rfl dX4_divisor_19
  · replace hf := ite_t c1 hf
    refine z_iconst C 2 dX4_divisor_8 (by decide) ?_
    refine z_iload_n C 1 1 dX4_divisor_9 rfl rfl ?_
    refine z_imul C dX4_divisor_10 ?_
    refine z_iconst C 1 dX4_divisor_11 (by decide) ?_
    refine z_iadd C dX4_divisor_12 ?_
    refine z_goto C 19 dX4_divisor_13 (by decide) ?_
    cases hf
    exact z_iret C rfl dX4_divisor_19
set_option maxHeartbeats 4000000 in
set_option maxRecDepth 100000 in
theorem wX4_nextParty_l5 (C : CX p s m args meth c cX4_nextParty 5 (some .int) RX4 G) (hs0 : s.heap.size = G.1 + K.1) (hL : Lay K) (M : MM) (a0 : Nat) (h0 : Lw K a0)  (pp : Int32)  : ∀ (n : Nat) (y1 : Int32) (y2 : Int32) (hf : fX4_nextParty_l5 M a0 n y1 y2 = some pp), Z p l e (rmo 1 0 0) s m args below meth c 5 G (MQ below (QC G (some (.int pp)) K M) args s 0 0 (AG G)) K 0 0 M 5 [(0, .ref (G.1 + a0)), (1, .ref (G.1 + 71)), (2, .ref (G.1 + 72)), (3, .int y1), (4, .int y2)] [] := by
  intro n
  induction n with
  | zero => intro y1 y2 hf; exact nomatch (show (none : Option Int32) = some pp from hf)
  | succ n ih =>
    intro y1 y2 hf
    rw [fX4_nextParty_l5.eq_2] at hf
    refine z_iload C 4 dX4_nextParty_5 rfl ?_
    refine z_iconst C 4 dX4_nextParty_7 (by decide) ?_
    refine z_icmp_ge C 47 dX4_nextParty_8 (by decide) (fun c3 => ?_) (fun c3 => ?_)
    · replace hf := ite_t c3 hf
      refine z_iload_n C 3 3 dX4_nextParty_47 rfl rfl ?_
      cases hf
      exact z_iret C rfl dX4_nextParty_48
    · replace hf := ite_f c3 hf
      refine z_aload_n C 1 1 dX4_nextParty_11 rfl rfl ?_
      refine z_iload C 4 dX4_nextParty_12 rfl ?_
      replace hf := gd_out hf
      obtain ⟨g4, hf⟩ := hf
      refine z_iald C (lay_c71 hL) (inb_in g4) dX4_nextParty_14 ?_
      refine z_aload_n C 0 0 dX4_nextParty_15 rfl rfl ?_
      refine z_aload_n C 2 2 dX4_nextParty_16 rfl rfl ?_
      refine z_iload_n C 3 3 dX4_nextParty_17 rfl rfl ?_
      replace hf := gd_out hf
      obtain ⟨g5, hf⟩ := hf
      refine z_iald C (lay_c72 hL) (inb_in g5) dX4_nextParty_18 ?_
      refine z_cV1 C [.int (gI M 71 (ix y2))] (tX4_divisor l G hL M a0 h0 (gI M 72 (ix y1))) lk_X4_divisor ok_X4 (Lw_o h0) q_ml_X4_39 rfl ⟨Nat.le_of_ble_eq_true rfl, Nat.le_of_ble_eq_true rfl⟩ rfl (Nat.le_of_ble_eq_true rfl) ⟨Nat.le_refl _, Nat.le_refl _⟩ dX4_nextParty_19 ?_
      refine z_imul C dX4_nextParty_22 ?_
      refine z_aload_n C 1 1 dX4_nextParty_23 rfl rfl ?_
      refine z_iload_n C 3 3 dX4_nextParty_24 rfl rfl ?_
      replace hf := gd_out hf
      obtain ⟨g6, hf⟩ := hf
      refine z_iald C (lay_c71 hL) (inb_in g6) dX4_nextParty_25 ?_
      refine z_aload_n C 0 0 dX4_nextParty_26 rfl rfl ?_
      refine z_aload_n C 2 2 dX4_nextParty_27 rfl rfl ?_
      refine z_iload C 4 dX4_nextParty_28 rfl ?_
      replace hf := gd_out hf
      obtain ⟨g7, hf⟩ := hf
      refine z_iald C (lay_c72 hL) (inb_in g7) dX4_nextParty_30 ?_
      refine z_cV1 C [.int (gI M 71 (ix y1)), .int ((gI M 71 (ix y2)) * (fX4_divisor M a0 (gI M 72 (ix y1))))] (tX4_divisor l G hL M a0 h0 (gI M 72 (ix y2))) lk_X4_divisor ok_X4 (Lw_o h0) q_ml_X4_39 rfl ⟨Nat.le_of_ble_eq_true rfl, Nat.le_of_ble_eq_true rfl⟩ rfl (Nat.le_of_ble_eq_true rfl) ⟨Nat.le_refl _, Nat.le_refl _⟩ dX4_nextParty_31 ?_
      refine z_imul C dX4_nextParty_34 ?_
      refine z_icmp_le C 41 dX4_nextParty_35 (by decide) (fun c8 => ?_) (fun c8 => ?_)
      · replace hf := ite_t c8 hf
        refine z_iinc C 4 (y2 + 1) [(4, .int (y2 + 1)), (0, .ref (G.1 + a0)), (1, .ref (G.1 + 71)), (2, .ref (G.1 + 72)), (3, .int y1)] dX4_nextParty_41 rfl rfl (by decide) rfl rfl ?_
        refine z_goto C 5 dX4_nextParty_44 (by decide) ?_
        refine z_lv (lv2 := [(0, .ref (G.1 + a0)), (1, .ref (G.1 + 71)), (2, .ref (G.1 + 72)), (3, .int y1), (4, .int (y2 + 1))]) [1, 2, 3, 4, 0] rfl ?_
        exact ih y1 (y2 + 1)  hf
      · replace hf := ite_f c8 hf
        refine z_iload C 4 dX4_nextParty_38 rfl ?_
        refine z_istore_n C [(3, .int y2), (0, .ref (G.1 + a0)), (1, .ref (G.1 + 71)), (2, .ref (G.1 + 72)), (4, .int y2)] dX4_nextParty_40 rfl (by decide) rfl rfl ?_
        refine z_iinc C 4 (y2 + 1) [(4, .int (y2 + 1)), (3, .int y2), (0, .ref (G.1 + a0)), (1, .ref (G.1 + 71)), (2, .ref (G.1 + 72))] dX4_nextParty_41 rfl rfl (by decide) rfl rfl ?_
        refine z_goto C 5 dX4_nextParty_44 (by decide) ?_
        refine z_lv (lv2 := [(0, .ref (G.1 + a0)), (1, .ref (G.1 + 71)), (2, .ref (G.1 + 72)), (3, .int y2), (4, .int (y2 + 1))]) [2, 3, 4, 1, 0] rfl ?_
        exact ih y2 (y2 + 1)  hf
set_option maxHeartbeats 4000000 in
set_option maxRecDepth 100000 in
theorem tX4_nextParty (l : Launch) (G : GG) {K : SK} (hL : Lay K) (M : MM) (a0 : Nat) (h0 : Lw K a0) (pp : Int32) (hf : fX4_nextParty M a0 = some pp) : Ct l yX4_nextParty cX4_nextParty 5 (some .int) 1 0 0 G K M [.ref (G.1 + a0), .ref (G.1 + 71), .ref (G.1 + 72)] (some (.int pp)) K M := by
  refine z_enter (lv := [(0, .ref (G.1 + a0)), (1, .ref (G.1 + 71)), (2, .ref (G.1 + 72))]) (by decide +kernel) (Nat.le_of_ble_eq_true rfl) rfl ?_
  intro p e s m args below meth c C hnm hs0
  replace C : CX p s m args meth c cX4_nextParty 5 (some .int) RX4 G := C
  unfold fX4_nextParty at hf
  refine z_iconst C 0 dX4_nextParty_0 (by decide) ?_
  refine z_istore_n C [(3, .int 0), (0, .ref (G.1 + a0)), (1, .ref (G.1 + 71)), (2, .ref (G.1 + 72))] dX4_nextParty_1 rfl (by decide) rfl rfl ?_
  refine z_iconst C 1 dX4_nextParty_2 (by decide) ?_
  refine z_istore C [(4, .int 1), (3, .int 0), (0, .ref (G.1 + a0)), (1, .ref (G.1 + 71)), (2, .ref (G.1 + 72))] dX4_nextParty_3 (by decide) rfl rfl ?_
  refine z_lv (lv2 := [(0, .ref (G.1 + a0)), (1, .ref (G.1 + 71)), (2, .ref (G.1 + 72)), (3, .int 0), (4, .int 1)]) [2, 3, 4, 1, 0] rfl ?_
  exact wX4_nextParty_l5 C hs0 hL M a0 h0 pp FU 0 1 hf
set_option maxHeartbeats 4000000 in
set_option maxRecDepth 100000 in
theorem wX4_shareByRemainders_l15 (C : CX p s m args meth c cX4_shareByRemainders 11 none RX4 G) (hs0 : s.heap.size = G.1 + K.1) (hL : Lay K) (a0 : Nat) (h0 : Lw K a0) (k51 : MM → Int32 → Int32 → Option MM) (pp : MM) (hk51 : ∀ (M9 : MM) (y10 : Int32) (y11 : Int32), k51 M9 y10 y11 = some pp → Z p l e (rmo 0 0 0) s m args below meth c 11 G (MQ below (QC G none K pp) args s 0 0 (AG G)) K 0 0 M9 51 [(0, .ref (G.1 + a0)), (1, .ref (G.1 + 71)), (2, .ref (G.1 + 72)), (3, .int y10), (4, .int y11)] []) : ∀ (n : Nat) (M4 : MM) (y5 : Int32) (y6 : Int32) (y7 : Int32) (hf : fX4_shareByRemainders_l15 a0 k51 n M4 y5 y6 y7 = some pp), Z p l e (rmo 0 0 0) s m args below meth c 11 G (MQ below (QC G none K pp) args s 0 0 (AG G)) K 0 0 M4 15 [(0, .ref (G.1 + a0)), (1, .ref (G.1 + 71)), (2, .ref (G.1 + 72)), (3, .int y5), (4, .int y6), (5, .int y7)] [] := by
  intro n
  induction n with
  | zero => intro M4 y5 y6 y7 hf; exact nomatch (show (none : Option MM) = some pp from hf)
  | succ n ih =>
    intro M4 y5 y6 y7 hf
    rw [fX4_shareByRemainders_l15.eq_2] at hf
    refine z_iload C 5 dX4_shareByRemainders_15 rfl ?_
    refine z_iconst C 4 dX4_shareByRemainders_17 (by decide) ?_
    refine z_icmp_ge C 51 dX4_shareByRemainders_18 (by decide) (fun c8 => ?_) (fun c8 => ?_)
    · replace hf := ite_t c8 hf
      refine z_lv (lv2 := [(0, .ref (G.1 + a0)), (1, .ref (G.1 + 71)), (2, .ref (G.1 + 72)), (3, .int y5), (4, .int y6)]) [0, 1, 2, 3, 4] rfl ?_
      exact hk51 M4 y5 y6  hf
    · replace hf := ite_f c8 hf
      refine z_aload_n C 2 2 dX4_shareByRemainders_21 rfl rfl ?_
      refine z_iload C 5 dX4_shareByRemainders_22 rfl ?_
      refine z_aload_n C 1 1 dX4_shareByRemainders_24 rfl rfl ?_
      refine z_iload C 5 dX4_shareByRemainders_25 rfl ?_
      replace hf := gd_out hf
      obtain ⟨g12, hf⟩ := hf
      refine z_iald C (lay_c71 hL) (inb_in g12) dX4_shareByRemainders_27 ?_
      refine z_aload_n C 0 0 dX4_shareByRemainders_28 rfl rfl ?_
      refine z_getI C ok_X4 (Lw_o h0) 3 (by decide) rfl q_fl_X4_15 dX4_shareByRemainders_29 ?_
      refine z_imul C dX4_shareByRemainders_32 ?_
      refine z_iload_n C 3 3 dX4_shareByRemainders_33 rfl rfl ?_
      replace hf := gd_out hf
      obtain ⟨g13, hf⟩ := hf
      refine z_idiv C (nz_ne g13) dX4_shareByRemainders_34 ?_
      replace hf := gd_out hf
      obtain ⟨g14, hf⟩ := hf
      refine z_iast C (lay_c72 hL) (inb_in g14) dX4_shareByRemainders_35 ?_
      refine z_M (fun M15 e16 => ?_)
      replace hf := bnd_out e16 hf
      refine z_iload C 4 dX4_shareByRemainders_36 rfl ?_
      refine z_aload_n C 2 2 dX4_shareByRemainders_38 rfl rfl ?_
      refine z_iload C 5 dX4_shareByRemainders_39 rfl ?_
      replace hf := gd_out hf
      obtain ⟨g17, hf⟩ := hf
      refine z_iald C (lay_c72 hL) (inb_in g17) dX4_shareByRemainders_41 ?_
      refine z_isub C dX4_shareByRemainders_42 ?_
      refine z_topi (fun v18 e19 => ?_)
      replace hf := bnd_out e19 hf
      refine z_istore C [(4, .int v18), (0, .ref (G.1 + a0)), (1, .ref (G.1 + 71)), (2, .ref (G.1 + 72)), (3, .int y5), (5, .int y7)] dX4_shareByRemainders_43 (by decide) rfl rfl ?_
      refine z_iinc C 5 (y7 + 1) [(5, .int (y7 + 1)), (4, .int v18), (0, .ref (G.1 + a0)), (1, .ref (G.1 + 71)), (2, .ref (G.1 + 72)), (3, .int y5)] dX4_shareByRemainders_45 rfl rfl (by decide) rfl rfl ?_
      refine z_goto C 15 dX4_shareByRemainders_48 (by decide) ?_
      refine z_lv (lv2 := [(0, .ref (G.1 + a0)), (1, .ref (G.1 + 71)), (2, .ref (G.1 + 72)), (3, .int y5), (4, .int v18), (5, .int (y7 + 1))]) [2, 3, 4, 5, 1, 0] rfl ?_
      exact ih M15 y5 v18 (y7 + 1)  hf
set_option maxHeartbeats 4000000 in
set_option maxRecDepth 100000 in
theorem wX4_shareByRemainders_l73 (C : CX p s m args meth c cX4_shareByRemainders 11 none RX4 G) (hs0 : s.heap.size = G.1 + K.1) (hL : Lay K) (a0 : Nat) (h0 : Lw K a0) (k123 : MM → Int32 → Int32 → Int32 → Int32 → Int32 → Option MM) (pp : MM) (hk123 : ∀ (M38 : MM) (y39 : Int32) (y40 : Int32) (y41 : Int32) (y42 : Int32) (y43 : Int32), k123 M38 y39 y40 y41 y42 y43 = some pp → Z p l e (rmo 0 0 0) s m args below meth c 11 G (MQ below (QC G none K pp) args s 0 0 (AG G)) K 0 0 M38 123 [(0, .ref (G.1 + a0)), (1, .ref (G.1 + 71)), (2, .ref (G.1 + 72)), (3, .int y39), (4, .int y40), (5, .int y41), (6, .int y42), (7, .int y43)] []) : ∀ (n : Nat) (M29 : MM) (y30 : Int32) (y31 : Int32) (y32 : Int32) (y33 : Int32) (y34 : Int32) (y35 : Int32) (y36 : Int32) (hf : fX4_shareByRemainders_l73 a0 k123 n M29 y30 y31 y32 y33 y34 y35 y36 = some pp), Z p l e (rmo 0 0 0) s m args below meth c 11 G (MQ below (QC G none K pp) args s 0 0 (AG G)) K 0 0 M29 73 [(0, .ref (G.1 + a0)), (1, .ref (G.1 + 71)), (2, .ref (G.1 + 72)), (3, .int y30), (4, .int y31), (5, .int y32), (6, .int y33), (7, .int y34), (8, .int y35), (9, .int y36)] [] := by
  intro n
  induction n with
  | zero => intro M29 y30 y31 y32 y33 y34 y35 y36 hf; exact nomatch (show (none : Option MM) = some pp from hf)
  | succ n ih =>
    intro M29 y30 y31 y32 y33 y34 y35 y36 hf
    rw [fX4_shareByRemainders_l73.eq_2] at hf
    refine z_iload C 9 dX4_shareByRemainders_73 rfl ?_
    refine z_iconst C 4 dX4_shareByRemainders_75 (by decide) ?_
    refine z_icmp_ge C 123 dX4_shareByRemainders_76 (by decide) (fun c37 => ?_) (fun c37 => ?_)
    · replace hf := ite_t c37 hf
      refine z_lv (lv2 := [(0, .ref (G.1 + a0)), (1, .ref (G.1 + 71)), (2, .ref (G.1 + 72)), (3, .int y30), (4, .int y31), (5, .int y32), (6, .int y33), (7, .int y34)]) [0, 1, 2, 3, 4, 5, 6, 7] rfl ?_
      exact hk123 M29 y30 y31 y32 y33 y34  hf
    · replace hf := ite_f c37 hf
      refine z_aload_n C 1 1 dX4_shareByRemainders_79 rfl rfl ?_
      refine z_iload C 9 dX4_shareByRemainders_80 rfl ?_
      replace hf := gd_out hf
      obtain ⟨g44, hf⟩ := hf
      refine z_iald C (lay_c71 hL) (inb_in g44) dX4_shareByRemainders_82 ?_
      refine z_aload_n C 0 0 dX4_shareByRemainders_83 rfl rfl ?_
      refine z_getI C ok_X4 (Lw_o h0) 3 (by decide) rfl q_fl_X4_15 dX4_shareByRemainders_84 ?_
      refine z_imul C dX4_shareByRemainders_87 ?_
      refine z_iload_n C 3 3 dX4_shareByRemainders_88 rfl rfl ?_
      replace hf := gd_out hf
      obtain ⟨g45, hf⟩ := hf
      refine z_irem C (nz_ne g45) dX4_shareByRemainders_89 ?_
      refine z_topi (fun v46 e47 => ?_)
      replace hf := bnd_out e47 hf
      refine z_istore C [(10, .int v46), (0, .ref (G.1 + a0)), (1, .ref (G.1 + 71)), (2, .ref (G.1 + 72)), (3, .int y30), (4, .int y31), (5, .int y32), (6, .int y33), (7, .int y34), (8, .int y35), (9, .int y36)] dX4_shareByRemainders_90 (by decide) rfl rfl ?_
      refine z_iload C 6 dX4_shareByRemainders_92 rfl ?_
      refine z_iload C 10 dX4_shareByRemainders_94 rfl ?_
      refine z_ishr C dX4_shareByRemainders_96 ?_
      refine z_iconst C 1 dX4_shareByRemainders_97 (by decide) ?_
      refine z_iand C dX4_shareByRemainders_98 ?_
      refine z_if_ne C 117 dX4_shareByRemainders_99 (by decide) (fun c48 => ?_) (fun c48 => ?_)
      · replace hf := ite_f c48 hf
        refine z_iinc C 10 (y36 + 1) [(9, .int (y36 + 1)), (10, .int v46), (0, .ref (G.1 + a0)), (1, .ref (G.1 + 71)), (2, .ref (G.1 + 72)), (3, .int y30), (4, .int y31), (5, .int y32), (6, .int y33), (7, .int y34), (8, .int y35)] dX4_shareByRemainders_117 rfl rfl (by decide) rfl rfl ?_
        refine z_goto C 73 dX4_shareByRemainders_120 (by decide) ?_
        refine z_lv (lv2 := [(0, .ref (G.1 + a0)), (1, .ref (G.1 + 71)), (2, .ref (G.1 + 72)), (3, .int y30), (4, .int y31), (5, .int y32), (6, .int y33), (7, .int y34), (8, .int y35), (9, .int (y36 + 1))]) [2, 3, 4, 5, 6, 7, 8, 9, 10, 0] rfl ?_
        exact ih M29 y30 y31 y32 y33 y34 y35 (y36 + 1)  hf
      · replace hf := ite_t c48 hf
        refine z_iload C 0 dX4_shareByRemainders_102 rfl ?_
        refine z_iload C 9 dX4_shareByRemainders_104 rfl ?_
        refine z_icmp_le C 117 dX4_shareByRemainders_106 (by decide) (fun c49 => ?_) (fun c49 => ?_)
        · replace hf := ite_t c49 hf
          refine z_iinc C 10 (y36 + 1) [(9, .int (y36 + 1)), (10, .int v46), (0, .ref (G.1 + a0)), (1, .ref (G.1 + 71)), (2, .ref (G.1 + 72)), (3, .int y30), (4, .int y31), (5, .int y32), (6, .int y33), (7, .int y34), (8, .int y35)] dX4_shareByRemainders_117 rfl rfl (by decide) rfl rfl ?_
          refine z_goto C 73 dX4_shareByRemainders_120 (by decide) ?_
          refine z_lv (lv2 := [(0, .ref (G.1 + a0)), (1, .ref (G.1 + 71)), (2, .ref (G.1 + 72)), (3, .int y30), (4, .int y31), (5, .int y32), (6, .int y33), (7, .int y34), (8, .int y35), (9, .int (y36 + 1))]) [2, 3, 4, 5, 6, 7, 8, 9, 10, 0] rfl ?_
          exact ih M29 y30 y31 y32 y33 y34 y35 (y36 + 1)  hf
        · replace hf := ite_f c49 hf
          refine z_iload C 0 dX4_shareByRemainders_109 rfl ?_
          refine z_istore C [(8, .int v46), (10, .int v46), (0, .ref (G.1 + a0)), (1, .ref (G.1 + 71)), (2, .ref (G.1 + 72)), (3, .int y30), (4, .int y31), (5, .int y32), (6, .int y33), (7, .int y34), (9, .int y36)] dX4_shareByRemainders_111 (by decide) rfl rfl ?_
          refine z_iload C 10 dX4_shareByRemainders_113 rfl ?_
          refine z_istore C [(7, .int y36), (8, .int v46), (10, .int v46), (0, .ref (G.1 + a0)), (1, .ref (G.1 + 71)), (2, .ref (G.1 + 72)), (3, .int y30), (4, .int y31), (5, .int y32), (6, .int y33), (9, .int y36)] dX4_shareByRemainders_115 (by decide) rfl rfl ?_
          refine z_iinc C 10 (y36 + 1) [(9, .int (y36 + 1)), (7, .int y36), (8, .int v46), (10, .int v46), (0, .ref (G.1 + a0)), (1, .ref (G.1 + 71)), (2, .ref (G.1 + 72)), (3, .int y30), (4, .int y31), (5, .int y32), (6, .int y33)] dX4_shareByRemainders_117 rfl rfl (by decide) rfl rfl ?_
          refine z_goto C 73 dX4_shareByRemainders_120 (by decide) ?_
          refine z_lv (lv2 := [(0, .ref (G.1 + a0)), (1, .ref (G.1 + 71)), (2, .ref (G.1 + 72)), (3, .int y30), (4, .int y31), (5, .int y32), (6, .int y33), (7, .int y36), (8, .int v46), (9, .int (y36 + 1))]) [4, 5, 6, 7, 8, 9, 10, 1, 2, 0] rfl ?_
          exact ih M29 y30 y31 y32 y33 y36 v46 (y36 + 1)  hf
set_option maxHeartbeats 4000000 in
set_option maxRecDepth 100000 in
theorem wX4_shareByRemainders_l57 (C : CX p s m args meth c cX4_shareByRemainders 11 none RX4 G) (hs0 : s.heap.size = G.1 + K.1) (hL : Lay K) (a0 : Nat) (h0 : Lw K a0)  (pp : MM)  : ∀ (n : Nat) (M23 : MM) (y24 : Int32) (y25 : Int32) (y26 : Int32) (y27 : Int32) (hf : fX4_shareByRemainders_l57 a0 n M23 y24 y25 y26 y27 = some pp), Z p l e (rmo 0 0 0) s m args below meth c 11 G (MQ below (QC G none K pp) args s 0 0 (AG G)) K 0 0 M23 57 [(0, .ref (G.1 + a0)), (1, .ref (G.1 + 71)), (2, .ref (G.1 + 72)), (3, .int y24), (4, .int y25), (5, .int y26), (6, .int y27)] [] := by
  intro n
  induction n with
  | zero => intro M23 y24 y25 y26 y27 hf; exact nomatch (show (none : Option MM) = some pp from hf)
  | succ n ih =>
    intro M23 y24 y25 y26 y27 hf
    rw [fX4_shareByRemainders_l57.eq_2] at hf
    refine z_iload C 6 dX4_shareByRemainders_57 rfl ?_
    refine z_iload C 4 dX4_shareByRemainders_59 rfl ?_
    refine z_icmp_ge C 153 dX4_shareByRemainders_61 (by decide) (fun c28 => ?_) (fun c28 => ?_)
    · replace hf := ite_t c28 hf
      cases hf
      exact z_vret C rfl dX4_shareByRemainders_153
    · replace hf := ite_f c28 hf
      refine z_iconst C (-1) dX4_shareByRemainders_64 (by decide) ?_
      refine z_istore C [(7, .int (-1)), (0, .ref (G.1 + a0)), (1, .ref (G.1 + 71)), (2, .ref (G.1 + 72)), (3, .int y24), (4, .int y25), (5, .int y26), (6, .int y27)] dX4_shareByRemainders_65 (by decide) rfl rfl ?_
      refine z_iconst C (-1) dX4_shareByRemainders_67 (by decide) ?_
      refine z_istore C [(8, .int (-1)), (7, .int (-1)), (0, .ref (G.1 + a0)), (1, .ref (G.1 + 71)), (2, .ref (G.1 + 72)), (3, .int y24), (4, .int y25), (5, .int y26), (6, .int y27)] dX4_shareByRemainders_68 (by decide) rfl rfl ?_
      refine z_iconst C 0 dX4_shareByRemainders_70 (by decide) ?_
      refine z_istore C [(9, .int 0), (8, .int (-1)), (7, .int (-1)), (0, .ref (G.1 + a0)), (1, .ref (G.1 + 71)), (2, .ref (G.1 + 72)), (3, .int y24), (4, .int y25), (5, .int y26), (6, .int y27)] dX4_shareByRemainders_71 (by decide) rfl rfl ?_
      refine z_lv (lv2 := [(0, .ref (G.1 + a0)), (1, .ref (G.1 + 71)), (2, .ref (G.1 + 72)), (3, .int y24), (4, .int y25), (5, .int y26), (6, .int y27), (7, .int (-1)), (8, .int (-1)), (9, .int 0)]) [3, 4, 5, 6, 7, 8, 9, 2, 1, 0] rfl ?_
      refine wX4_shareByRemainders_l73 C hs0 hL a0 h0 _ pp ?_ FU M23 y24 y25 y26 y27 (-1) (-1) 0 hf
      · intro M50 y51 y52 y53 y54 y55 hf
        refine z_iload C 7 dX4_shareByRemainders_123 rfl ?_
        refine z_iconst C (-1) dX4_shareByRemainders_125 (by decide) ?_
        refine z_icmp_ne C 130 dX4_shareByRemainders_126 (by decide) (fun c56 => ?_) (fun c56 => ?_)
        · replace hf := ite_f c56 hf
          refine z_aload_n C 2 2 dX4_shareByRemainders_130 rfl rfl ?_
          refine z_iload C 7 dX4_shareByRemainders_131 rfl ?_
          refine z_dup2 C rfl rfl dX4_shareByRemainders_133 ?_
          replace hf := gd_out hf
          obtain ⟨g57, hf⟩ := hf
          refine z_iald C (lay_c72 hL) (inb_in g57) dX4_shareByRemainders_134 ?_
          refine z_iconst C 1 dX4_shareByRemainders_135 (by decide) ?_
          refine z_iadd C dX4_shareByRemainders_136 ?_
          replace hf := gd_out hf
          obtain ⟨g58, hf⟩ := hf
          refine z_iast C (lay_c72 hL) (inb_in g58) dX4_shareByRemainders_137 ?_
          refine z_M (fun M59 e60 => ?_)
          replace hf := bnd_out e60 hf
          refine z_iload C 5 dX4_shareByRemainders_138 rfl ?_
          refine z_iconst C 1 dX4_shareByRemainders_140 (by decide) ?_
          refine z_iload C 7 dX4_shareByRemainders_141 rfl ?_
          refine z_ishl C dX4_shareByRemainders_143 ?_
          refine z_ior C dX4_shareByRemainders_144 ?_
          refine z_topi (fun v61 e62 => ?_)
          replace hf := bnd_out e62 hf
          refine z_istore C [(5, .int v61), (0, .ref (G.1 + a0)), (1, .ref (G.1 + 71)), (2, .ref (G.1 + 72)), (3, .int y51), (4, .int y52), (6, .int y54), (7, .int y55)] dX4_shareByRemainders_145 (by decide) rfl rfl ?_
          refine z_iinc C 6 (y54 + 1) [(6, .int (y54 + 1)), (5, .int v61), (0, .ref (G.1 + a0)), (1, .ref (G.1 + 71)), (2, .ref (G.1 + 72)), (3, .int y51), (4, .int y52), (7, .int y55)] dX4_shareByRemainders_147 rfl rfl (by decide) rfl rfl ?_
          refine z_goto C 57 dX4_shareByRemainders_150 (by decide) ?_
          refine z_lv (lv2 := [(0, .ref (G.1 + a0)), (1, .ref (G.1 + 71)), (2, .ref (G.1 + 72)), (3, .int y51), (4, .int y52), (5, .int v61), (6, .int (y54 + 1))]) [2, 3, 4, 5, 6, 1, 0] rfl ?_
          exact ih M59 y51 y52 v61 (y54 + 1)  hf
        · replace hf := ite_t c56 hf
          cases hf
          exact z_vret C rfl dX4_shareByRemainders_129
set_option maxHeartbeats 4000000 in
set_option maxRecDepth 100000 in
theorem tX4_shareByRemainders (l : Launch) (G : GG) {K : SK} (hL : Lay K) (M : MM) (a0 : Nat) (h0 : Lw K a0) (x3 : Int32) (pp : MM) (hf : fX4_shareByRemainders M a0 x3 = some pp) : Ct l yX4_shareByRemainders cX4_shareByRemainders 11 none 0 0 0 G K M [.ref (G.1 + a0), .ref (G.1 + 71), .ref (G.1 + 72), .int x3] none K pp := by
  refine z_enter (lv := [(0, .ref (G.1 + a0)), (1, .ref (G.1 + 71)), (2, .ref (G.1 + 72)), (3, .int x3)]) (by decide +kernel) (Nat.le_of_ble_eq_true rfl) rfl ?_
  intro p e s m args below meth c C hnm hs0
  replace C : CX p s m args meth c cX4_shareByRemainders 11 none RX4 G := C
  unfold fX4_shareByRemainders at hf
  refine z_iload_n C 3 3 dX4_shareByRemainders_0 rfl rfl ?_
  refine z_iconst C 1 dX4_shareByRemainders_1 (by decide) ?_
  refine z_icmp_ge C 6 dX4_shareByRemainders_2 (by decide) (fun c1 => ?_) (fun c1 => ?_)
  · replace hf := ite_t c1 hf
    refine z_aload_n C 0 0 dX4_shareByRemainders_6 rfl rfl ?_
    refine z_getI C ok_X4 (Lw_o h0) 3 (by decide) rfl q_fl_X4_15 dX4_shareByRemainders_7 ?_
    refine z_topi (fun v2 e3 => ?_)
    replace hf := bnd_out e3 hf
    refine z_istore C [(4, .int v2), (0, .ref (G.1 + a0)), (1, .ref (G.1 + 71)), (2, .ref (G.1 + 72)), (3, .int x3)] dX4_shareByRemainders_10 (by decide) rfl rfl ?_
    refine z_iconst C 0 dX4_shareByRemainders_12 (by decide) ?_
    refine z_istore C [(5, .int 0), (4, .int v2), (0, .ref (G.1 + a0)), (1, .ref (G.1 + 71)), (2, .ref (G.1 + 72)), (3, .int x3)] dX4_shareByRemainders_13 (by decide) rfl rfl ?_
    refine z_lv (lv2 := [(0, .ref (G.1 + a0)), (1, .ref (G.1 + 71)), (2, .ref (G.1 + 72)), (3, .int x3), (4, .int v2), (5, .int 0)]) [2, 3, 4, 5, 1, 0] rfl ?_
    refine wX4_shareByRemainders_l15 C hs0 hL a0 h0 _ pp ?_ FU M x3 v2 0 hf
    · intro M20 y21 y22 hf
      refine z_iconst C 0 dX4_shareByRemainders_51 (by decide) ?_
      refine z_istore C [(5, .int 0), (0, .ref (G.1 + a0)), (1, .ref (G.1 + 71)), (2, .ref (G.1 + 72)), (3, .int y21), (4, .int y22)] dX4_shareByRemainders_52 (by decide) rfl rfl ?_
      refine z_iconst C 0 dX4_shareByRemainders_54 (by decide) ?_
      refine z_istore C [(6, .int 0), (5, .int 0), (0, .ref (G.1 + a0)), (1, .ref (G.1 + 71)), (2, .ref (G.1 + 72)), (3, .int y21), (4, .int y22)] dX4_shareByRemainders_55 (by decide) rfl rfl ?_
      refine z_lv (lv2 := [(0, .ref (G.1 + a0)), (1, .ref (G.1 + 71)), (2, .ref (G.1 + 72)), (3, .int y21), (4, .int y22), (5, .int 0), (6, .int 0)]) [2, 3, 4, 5, 6, 1, 0] rfl ?_
      exact wX4_shareByRemainders_l57 C hs0 hL a0 h0 pp FU M20 y21 y22 0 0 hf
  · replace hf := ite_f c1 hf
    cases hf
    exact z_vret C rfl dX4_shareByRemainders_5
set_option maxHeartbeats 4000000 in
set_option maxRecDepth 100000 in
theorem wX4_share_l5 (C : CX p s m args meth c cX4_share 5 none RX4 G) (hs0 : s.heap.size = G.1 + K.1) (hL : Lay K) (a0 : Nat) (h0 : Lw K a0) (k29 : MM → Int32 → Option MM) (pp : MM) (hk29 : ∀ (M5 : MM) (y6 : Int32), k29 M5 y6 = some pp → Z p l e (rmo 2 0 0) s m args below meth c 5 G (MQ below (QC G none K pp) args s 0 0 (AG G)) K 0 0 M5 29 [(0, .ref (G.1 + a0)), (1, .ref (G.1 + 71)), (2, .ref (G.1 + 72)), (3, .int y6)] []) : ∀ (n : Nat) (M1 : MM) (y2 : Int32) (y3 : Int32) (hf : fX4_share_l5 a0 k29 n M1 y2 y3 = some pp), Z p l e (rmo 2 0 0) s m args below meth c 5 G (MQ below (QC G none K pp) args s 0 0 (AG G)) K 0 0 M1 5 [(0, .ref (G.1 + a0)), (1, .ref (G.1 + 71)), (2, .ref (G.1 + 72)), (3, .int y2), (4, .int y3)] [] := by
  intro n
  induction n with
  | zero => intro M1 y2 y3 hf; exact nomatch (show (none : Option MM) = some pp from hf)
  | succ n ih =>
    intro M1 y2 y3 hf
    rw [fX4_share_l5.eq_2] at hf
    refine z_iload C 4 dX4_share_5 rfl ?_
    refine z_iconst C 4 dX4_share_7 (by decide) ?_
    refine z_icmp_ge C 29 dX4_share_8 (by decide) (fun c4 => ?_) (fun c4 => ?_)
    · replace hf := ite_t c4 hf
      refine z_lv (lv2 := [(0, .ref (G.1 + a0)), (1, .ref (G.1 + 71)), (2, .ref (G.1 + 72)), (3, .int y2)]) [0, 1, 2, 3] rfl ?_
      exact hk29 M1 y2  hf
    · replace hf := ite_f c4 hf
      refine z_iload_n C 3 3 dX4_share_11 rfl rfl ?_
      refine z_aload_n C 1 1 dX4_share_12 rfl rfl ?_
      refine z_iload C 4 dX4_share_13 rfl ?_
      replace hf := gd_out hf
      obtain ⟨g7, hf⟩ := hf
      refine z_iald C (lay_c71 hL) (inb_in g7) dX4_share_15 ?_
      refine z_iadd C dX4_share_16 ?_
      refine z_topi (fun v8 e9 => ?_)
      replace hf := bnd_out e9 hf
      refine z_istore_n C [(3, .int v8), (0, .ref (G.1 + a0)), (1, .ref (G.1 + 71)), (2, .ref (G.1 + 72)), (4, .int y3)] dX4_share_17 rfl (by decide) rfl rfl ?_
      refine z_aload_n C 3 2 dX4_share_18 rfl rfl ?_
      refine z_iload C 4 dX4_share_19 rfl ?_
      refine z_iconst C 0 dX4_share_21 (by decide) ?_
      replace hf := gd_out hf
      obtain ⟨g10, hf⟩ := hf
      refine z_iast C (lay_c72 hL) (inb_in g10) dX4_share_22 ?_
      refine z_M (fun M11 e12 => ?_)
      replace hf := bnd_out e12 hf
      refine z_iinc C 4 (y3 + 1) [(4, .int (y3 + 1)), (3, .int v8), (0, .ref (G.1 + a0)), (1, .ref (G.1 + 71)), (2, .ref (G.1 + 72))] dX4_share_23 rfl rfl (by decide) rfl rfl ?_
      refine z_goto C 5 dX4_share_26 (by decide) ?_
      refine z_lv (lv2 := [(0, .ref (G.1 + a0)), (1, .ref (G.1 + 71)), (2, .ref (G.1 + 72)), (3, .int v8), (4, .int (y3 + 1))]) [2, 3, 4, 1, 0] rfl ?_
      exact ih M11 v8 (y3 + 1)  hf
set_option maxHeartbeats 4000000 in
set_option maxRecDepth 100000 in
theorem wX4_share_l54 (C : CX p s m args meth c cX4_share 5 none RX4 G) (hs0 : s.heap.size = G.1 + K.1) (hL : Lay K) (a0 : Nat) (h0 : Lw K a0)  (pp : MM)  : ∀ (n : Nat) (M17 : MM) (y18 : Int32) (hf : fX4_share_l54 a0 n M17 y18 = some pp), Z p l e (rmo 2 0 0) s m args below meth c 5 G (MQ below (QC G none K pp) args s 0 0 (AG G)) K 0 0 M17 54 [(0, .ref (G.1 + a0)), (1, .ref (G.1 + 71)), (2, .ref (G.1 + 72)), (4, .int y18)] [] := by
  intro n
  induction n with
  | zero => intro M17 y18 hf; exact nomatch (show (none : Option MM) = some pp from hf)
  | succ n ih =>
    intro M17 y18 hf
    rw [fX4_share_l54.eq_2] at hf
    refine z_iload C 3 dX4_share_54 rfl ?_
    refine z_aload_n C 0 0 dX4_share_56 rfl rfl ?_
    refine z_getI C ok_X4 (Lw_o h0) 3 (by decide) rfl q_fl_X4_15 dX4_share_57 ?_
    refine z_icmp_ge C 81 dX4_share_60 (by decide) (fun c19 => ?_) (fun c19 => ?_)
    · replace hf := ite_t c19 hf
      cases hf
      exact z_vret C rfl dX4_share_81
    · replace hf := ite_f c19 hf
      refine z_aload_n C 2 2 dX4_share_63 rfl rfl ?_
      refine z_aload_n C 0 0 dX4_share_64 rfl rfl ?_
      refine z_aload_n C 1 1 dX4_share_65 rfl rfl ?_
      refine z_aload_n C 2 2 dX4_share_66 rfl rfl ?_
      replace hf := bd_out hf
      obtain ⟨p20, e21, hf⟩ := hf
      refine z_cV1 C [.ref (G.1 + 72)] (tX4_nextParty l G hL M17 a0 h0 _ e21) lk_X4_nextParty ok_X4 (Lw_o h0) q_ml_X4_35 rfl ⟨Nat.le_of_ble_eq_true rfl, Nat.le_of_ble_eq_true rfl⟩ rfl (Nat.le_of_ble_eq_true rfl) ⟨Nat.le_refl _, Nat.le_refl _⟩ dX4_share_67 ?_
      refine z_dup2 C rfl rfl dX4_share_70 ?_
      replace hf := gd_out hf
      obtain ⟨g22, hf⟩ := hf
      refine z_iald C (lay_c72 hL) (inb_in g22) dX4_share_71 ?_
      refine z_iconst C 1 dX4_share_72 (by decide) ?_
      refine z_iadd C dX4_share_73 ?_
      replace hf := gd_out hf
      obtain ⟨g23, hf⟩ := hf
      refine z_iast C (lay_c72 hL) (inb_in g23) dX4_share_74 ?_
      refine z_M (fun M24 e25 => ?_)
      replace hf := bnd_out e25 hf
      refine z_iinc C 3 (y18 + 1) [(4, .int (y18 + 1)), (0, .ref (G.1 + a0)), (1, .ref (G.1 + 71)), (2, .ref (G.1 + 72))] dX4_share_75 rfl rfl (by decide) rfl rfl ?_
      refine z_goto C 54 dX4_share_78 (by decide) ?_
      refine z_lv (lv2 := [(0, .ref (G.1 + a0)), (1, .ref (G.1 + 71)), (2, .ref (G.1 + 72)), (4, .int (y18 + 1))]) [1, 2, 3, 0] rfl ?_
      exact ih M24 (y18 + 1)  hf
set_option maxHeartbeats 4000000 in
set_option maxRecDepth 100000 in
theorem tX4_share (l : Launch) (G : GG) {K : SK} (hL : Lay K) (M : MM) (a0 : Nat) (h0 : Lw K a0) (pp : MM) (hf : fX4_share M a0 = some pp) : Ct l yX4_share cX4_share 5 none 2 0 0 G K M [.ref (G.1 + a0), .ref (G.1 + 71), .ref (G.1 + 72)] none K pp := by
  refine z_enter (lv := [(0, .ref (G.1 + a0)), (1, .ref (G.1 + 71)), (2, .ref (G.1 + 72))]) (by decide +kernel) (Nat.le_of_ble_eq_true rfl) rfl ?_
  intro p e s m args below meth c C hnm hs0
  replace C : CX p s m args meth c cX4_share 5 none RX4 G := C
  unfold fX4_share at hf
  refine z_iconst C 0 dX4_share_0 (by decide) ?_
  refine z_istore_n C [(3, .int 0), (0, .ref (G.1 + a0)), (1, .ref (G.1 + 71)), (2, .ref (G.1 + 72))] dX4_share_1 rfl (by decide) rfl rfl ?_
  refine z_iconst C 0 dX4_share_2 (by decide) ?_
  refine z_istore C [(4, .int 0), (3, .int 0), (0, .ref (G.1 + a0)), (1, .ref (G.1 + 71)), (2, .ref (G.1 + 72))] dX4_share_3 (by decide) rfl rfl ?_
  refine z_lv (lv2 := [(0, .ref (G.1 + a0)), (1, .ref (G.1 + 71)), (2, .ref (G.1 + 72)), (3, .int 0), (4, .int 0)]) [2, 3, 4, 1, 0] rfl ?_
  refine wX4_share_l5 C hs0 hL a0 h0 _ pp ?_ FU M 0 0 hf
  · intro M13 y14 hf
    refine z_iload_n C 3 3 dX4_share_29 rfl rfl ?_
    refine z_iconst C 1 dX4_share_30 (by decide) ?_
    refine z_icmp_ge C 35 dX4_share_31 (by decide) (fun c15 => ?_) (fun c15 => ?_)
    · replace hf := ite_t c15 hf
      refine z_aload_n C 0 0 dX4_share_35 rfl rfl ?_
      refine z_getI C ok_X4 (Lw_o h0) 4 (by decide) rfl q_fl_X4_28 dX4_share_36 ?_
      refine z_iconst C 2 dX4_share_39 (by decide) ?_
      refine z_icmp_ne C 51 dX4_share_40 (by decide) (fun c16 => ?_) (fun c16 => ?_)
      · replace hf := ite_f c16 hf
        refine z_iconst C 0 dX4_share_51 (by decide) ?_
        refine z_istore C [(4, .int 0), (0, .ref (G.1 + a0)), (1, .ref (G.1 + 71)), (2, .ref (G.1 + 72)), (3, .int y14)] dX4_share_52 (by decide) rfl rfl ?_
        refine z_lv (lv2 := [(0, .ref (G.1 + a0)), (1, .ref (G.1 + 71)), (2, .ref (G.1 + 72)), (4, .int 0)]) [1, 2, 3, 0] rfl ?_
        exact wX4_share_l54 C hs0 hL a0 h0 pp FU M13 0 hf
      · replace hf := ite_t c16 hf
        refine z_aload_n C 0 0 dX4_share_43 rfl rfl ?_
        refine z_aload_n C 1 1 dX4_share_44 rfl rfl ?_
        refine z_aload_n C 2 2 dX4_share_45 rfl rfl ?_
        refine z_iload_n C 3 3 dX4_share_46 rfl rfl ?_
        replace hf := bd_out hf
        obtain ⟨p26, e27, hf⟩ := hf
        refine z_cV0 C [] (tX4_shareByRemainders l G hL M13 a0 h0 y14 _ e27) lk_X4_shareByRemainders ok_X4 (Lw_o h0) q_ml_X4_31 rfl ⟨Nat.le_of_ble_eq_true rfl, Nat.le_of_ble_eq_true rfl⟩ rfl (Nat.le_of_ble_eq_true rfl) ⟨Nat.le_refl _, Nat.le_refl _⟩ dX4_share_47 ?_
        cases hf
        exact z_vret C rfl dX4_share_50
    · replace hf := ite_f c15 hf
      cases hf
      exact z_vret C rfl dX4_share_34
set_option maxHeartbeats 4000000 in
set_option maxRecDepth 100000 in
theorem tX2_copyFrom (l : Launch) (G : GG) {K : SK} (hL : Lay K) (M : MM) (a0 : Nat) (h0 : Ev K a0) (a1 : Nat) (h1 : Ev K a1) (pp : MM) (hf : fX2_copyFrom M a0 a1 = some pp) : Ct l yX2_copyFrom cX2_copyFrom 2 none 1 0 0 G K M [.ref (G.1 + a0), .ref (G.1 + a1)] none K pp := by
  refine z_enter (lv := [(0, .ref (G.1 + a0)), (1, .ref (G.1 + a1))]) (by decide +kernel) (Nat.le_of_ble_eq_true rfl) rfl ?_
  intro p e s m args below meth c C hnm hs0
  replace C : CX p s m args meth c cX2_copyFrom 2 none RX2 G := C
  unfold fX2_copyFrom at hf
  refine z_aload_n C 0 0 dX2_copyFrom_0 rfl rfl ?_
  refine z_aload_n C 1 1 dX2_copyFrom_1 rfl rfl ?_
  refine z_getI C ok_X2 (Ev_o h1) 0 (by decide) rfl q_fl_X2_21 dX2_copyFrom_2 ?_
  refine z_putI C ok_X2 (Ev_o h0) 0 (by decide) rfl rfl rfl rfl q_fl_X2_21 dX2_copyFrom_5 ?_
  refine z_M (fun M1 e2 => ?_)
  replace hf := bnd_out e2 hf
  refine z_aload_n C 1 1 dX2_copyFrom_8 rfl rfl ?_
  refine z_getR C ok_X2 (Ev_o h1) 1 (a1 + 1) (by decide) rfl (Ev_r1 h1) q_fl_X2_9 dX2_copyFrom_9 ?_
  refine z_iconst C 0 dX2_copyFrom_12 (by decide) ?_
  refine z_aload_n C 0 0 dX2_copyFrom_13 rfl rfl ?_
  refine z_getR C ok_X2 (Ev_o h0) 1 (a0 + 1) (by decide) rfl (Ev_r1 h0) q_fl_X2_9 dX2_copyFrom_14 ?_
  refine z_iconst C 0 dX2_copyFrom_17 (by decide) ?_
  refine z_bipush C 40 dX2_copyFrom_18 (by decide) ?_
  refine z_copyi C hs0 q_ml_X2_25 q_acn q_acs q_sys (Ev_c1 h1) (Ev_c1 h0) (by decide) (by decide) (by decide) (by decide) (by decide) (fun _ _ => rfl) (Nat.le_of_ble_eq_true rfl) (Nat.le_of_ble_eq_true rfl) dX2_copyFrom_20 ?_
  refine z_M (fun M3 e4 => ?_)
  replace hf := bnd_out e4 hf
  refine z_aload_n C 1 1 dX2_copyFrom_23 rfl rfl ?_
  refine z_getR C ok_X2 (Ev_o h1) 2 (a1 + 2) (by decide) rfl (Ev_r2 h1) q_fl_X2_15 dX2_copyFrom_24 ?_
  refine z_iconst C 0 dX2_copyFrom_27 (by decide) ?_
  refine z_aload_n C 0 0 dX2_copyFrom_28 rfl rfl ?_
  refine z_getR C ok_X2 (Ev_o h0) 2 (a0 + 2) (by decide) rfl (Ev_r2 h0) q_fl_X2_15 dX2_copyFrom_29 ?_
  refine z_iconst C 0 dX2_copyFrom_32 (by decide) ?_
  refine z_bipush C 40 dX2_copyFrom_33 (by decide) ?_
  refine z_copyi C hs0 q_ml_X2_25 q_acn q_acs q_sys (Ev_c2 h1) (Ev_c2 h0) (by decide) (by decide) (by decide) (by decide) (by decide) (fun _ _ => rfl) (Nat.le_of_ble_eq_true rfl) (Nat.le_of_ble_eq_true rfl) dX2_copyFrom_35 ?_
  refine z_M (fun M5 e6 => ?_)
  replace hf := bnd_out e6 hf
  refine z_aload_n C 1 1 dX2_copyFrom_38 rfl rfl ?_
  refine z_getR C ok_X2 (Ev_o h1) 3 (a1 + 3) (by decide) rfl (Ev_r3 h1) q_fl_X2_18 dX2_copyFrom_39 ?_
  refine z_iconst C 0 dX2_copyFrom_42 (by decide) ?_
  refine z_aload_n C 0 0 dX2_copyFrom_43 rfl rfl ?_
  refine z_getR C ok_X2 (Ev_o h0) 3 (a0 + 3) (by decide) rfl (Ev_r3 h0) q_fl_X2_18 dX2_copyFrom_44 ?_
  refine z_iconst C 0 dX2_copyFrom_47 (by decide) ?_
  refine z_bipush C 40 dX2_copyFrom_48 (by decide) ?_
  refine z_copyi C hs0 q_ml_X2_25 q_acn q_acs q_sys (Ev_c3 h1) (Ev_c3 h0) (by decide) (by decide) (by decide) (by decide) (by decide) (fun _ _ => rfl) (Nat.le_of_ble_eq_true rfl) (Nat.le_of_ble_eq_true rfl) dX2_copyFrom_50 ?_
  refine z_M (fun M7 e8 => ?_)
  replace hf := bnd_out e8 hf
  cases hf
  exact z_vret C rfl dX2_copyFrom_53
set_option maxHeartbeats 4000000 in
set_option maxRecDepth 100000 in
theorem wX2_add_j65 (C : CX p s m args meth c cX2_add 3 none RX2 G) (hs0 : s.heap.size = G.1 + K.1) (hL : Lay K)   (pp : MM)  (M16 : MM) (y17 : Int32) (y18 : Int32) (hf : fX2_add_j65 M16 y17 y18 = some pp) : Z p l e (rmo 0 0 0) s m args below meth c 3 G (MQ below (QC G none K pp) args s 0 0 (AG G)) K 0 0 M16 65 [(0, .ref (G.1 + 52))] [.int y18, .int y17, .ref (G.1 + 55)] := by
  unfold fX2_add_j65 at hf
  replace hf := gd_out hf
  obtain ⟨g19, hf⟩ := hf
  refine z_iast C (lay_c55 hL) (inb_in g19) dX2_add_65 ?_
  refine z_M (fun M20 e21 => ?_)
  replace hf := bnd_out e21 hf
  refine z_aload_n C 0 0 dX2_add_66 rfl rfl ?_
  refine z_dup C rfl dX2_add_67 ?_
  refine z_getI C ok_X2 (lay_c52 hL) 0 (by decide) rfl q_fl_X2_21 dX2_add_68 ?_
  refine z_iconst C 1 dX2_add_71 (by decide) ?_
  refine z_iadd C dX2_add_72 ?_
  refine z_putI C ok_X2 (lay_c52 hL) 0 (by decide) rfl rfl rfl rfl q_fl_X2_21 dX2_add_73 ?_
  refine z_M (fun M22 e23 => ?_)
  replace hf := bnd_out e23 hf
  cases hf
  exact z_vret C rfl dX2_add_76
set_option maxHeartbeats 4000000 in
set_option maxRecDepth 100000 in
theorem wX2_add_j58 (C : CX p s m args meth c cX2_add 3 none RX2 G) (hs0 : s.heap.size = G.1 + K.1) (hL : Lay K)   (pp : MM)  (M14 : MM) (y15 : Int32) (hf : fX2_add_j58 M14 y15 = some pp) : Z p l e (rmo 0 0 0) s m args below meth c 3 G (MQ below (QC G none K pp) args s 0 0 (AG G)) K 0 0 M14 58 [(0, .ref (G.1 + 52)), (2, .ref (G.1 + 58))] [.int y15, .ref (G.1 + 55)] := by
  unfold fX2_add_j58 at hf
  refine z_aload_n C 1 2 dX2_add_58 rfl rfl ?_
  refine z_iconst C 1 dX2_add_59 (by decide) ?_
  refine z_iald C (lay_c58 hL) (inb_in (by decide)) dX2_add_60 ?_
  refine z_goto C 65 dX2_add_61 (by decide) ?_
  refine z_lv (lv2 := [(0, .ref (G.1 + 52))]) [0] rfl ?_
  exact wX2_add_j65 C hs0 hL pp M14 y15 (gI M14 58 (ix 1)) hf
set_option maxHeartbeats 4000000 in
set_option maxRecDepth 100000 in
theorem wX2_add_j40 (C : CX p s m args meth c cX2_add 3 none RX2 G) (hs0 : s.heap.size = G.1 + K.1) (hL : Lay K)   (pp : MM)  (M6 : MM) (y7 : Int32) (y8 : Int32) (y9 : Int32) (hf : fX2_add_j40 M6 y7 y8 y9 = some pp) : Z p l e (rmo 0 0 0) s m args below meth c 3 G (MQ below (QC G none K pp) args s 0 0 (AG G)) K 0 0 M6 40 [(0, .ref (G.1 + 52)), (1, .int y7), (2, .ref (G.1 + 58))] [.int y9, .int y8, .ref (G.1 + 54)] := by
  unfold fX2_add_j40 at hf
  replace hf := gd_out hf
  obtain ⟨g10, hf⟩ := hf
  refine z_iast C (lay_c54 hL) (inb_in g10) dX2_add_40 ?_
  refine z_M (fun M11 e12 => ?_)
  replace hf := bnd_out e12 hf
  refine z_aload_n C 0 0 dX2_add_41 rfl rfl ?_
  refine z_getR C ok_X2 (lay_c52 hL) 3 (55) (by decide) rfl (lay_r52_3 hL) q_fl_X2_18 dX2_add_42 ?_
  refine z_aload_n C 0 0 dX2_add_45 rfl rfl ?_
  refine z_getI C ok_X2 (lay_c52 hL) 0 (by decide) rfl q_fl_X2_21 dX2_add_46 ?_
  refine z_iload_n C 1 1 dX2_add_49 rfl rfl ?_
  refine z_if_eq C 58 dX2_add_50 (by decide) (fun c13 => ?_) (fun c13 => ?_)
  · replace hf := ite_t c13 hf
    refine z_lv (lv2 := [(0, .ref (G.1 + 52)), (2, .ref (G.1 + 58))]) [0, 2] rfl ?_
    exact wX2_add_j58 C hs0 hL pp M11 (gI M11 52 0) hf
  · replace hf := ite_f c13 hf
    refine z_iload_n C 1 1 dX2_add_53 rfl rfl ?_
    refine z_iconst C 1 dX2_add_54 (by decide) ?_
    refine z_icmp_ne C 64 dX2_add_55 (by decide) (fun c24 => ?_) (fun c24 => ?_)
    · replace hf := ite_f c24 hf
      refine z_iconst C (-1) dX2_add_64 (by decide) ?_
      refine z_lv (lv2 := [(0, .ref (G.1 + 52))]) [0] rfl ?_
      exact wX2_add_j65 C hs0 hL pp M11 (gI M11 52 0) (-1) hf
    · replace hf := ite_t c24 hf
      refine z_lv (lv2 := [(0, .ref (G.1 + 52)), (2, .ref (G.1 + 58))]) [0, 2] rfl ?_
      exact wX2_add_j58 C hs0 hL pp M11 (gI M11 52 0) hf
set_option maxHeartbeats 4000000 in
set_option maxRecDepth 100000 in
theorem tX2_add (l : Launch) (G : GG) {K : SK} (hL : Lay K) (M : MM) (x1 : Int32) (pp : MM) (hf : fX2_add M x1 = some pp) : Ct l yX2_add cX2_add 3 none 0 0 0 G K M [.ref (G.1 + 52), .int x1, .ref (G.1 + 58)] none K pp := by
  refine z_enter (lv := [(0, .ref (G.1 + 52)), (1, .int x1), (2, .ref (G.1 + 58))]) (by decide +kernel) (Nat.le_of_ble_eq_true rfl) rfl ?_
  intro p e s m args below meth c C hnm hs0
  replace C : CX p s m args meth c cX2_add 3 none RX2 G := C
  unfold fX2_add at hf
  refine z_aload_n C 0 0 dX2_add_0 rfl rfl ?_
  refine z_getI C ok_X2 (lay_c52 hL) 0 (by decide) rfl q_fl_X2_21 dX2_add_1 ?_
  refine z_bipush C 40 dX2_add_4 (by decide) ?_
  refine z_icmp_lt C 10 dX2_add_6 (by decide) (fun c1 => ?_) (fun c1 => ?_)
  · replace hf := ite_t c1 hf
    refine z_aload_n C 0 0 dX2_add_10 rfl rfl ?_
    refine z_getR C ok_X2 (lay_c52 hL) 1 (53) (by decide) rfl (lay_r52_1 hL) q_fl_X2_9 dX2_add_11 ?_
    refine z_aload_n C 0 0 dX2_add_14 rfl rfl ?_
    refine z_getI C ok_X2 (lay_c52 hL) 0 (by decide) rfl q_fl_X2_21 dX2_add_15 ?_
    refine z_iload_n C 1 1 dX2_add_18 rfl rfl ?_
    replace hf := gd_out hf
    obtain ⟨g2, hf⟩ := hf
    refine z_iast C (lay_c53 hL) (inb_in g2) dX2_add_19 ?_
    refine z_M (fun M3 e4 => ?_)
    replace hf := bnd_out e4 hf
    refine z_aload_n C 0 0 dX2_add_20 rfl rfl ?_
    refine z_getR C ok_X2 (lay_c52 hL) 2 (54) (by decide) rfl (lay_r52_2 hL) q_fl_X2_15 dX2_add_21 ?_
    refine z_aload_n C 0 0 dX2_add_24 rfl rfl ?_
    refine z_getI C ok_X2 (lay_c52 hL) 0 (by decide) rfl q_fl_X2_21 dX2_add_25 ?_
    refine z_iload_n C 1 1 dX2_add_28 rfl rfl ?_
    refine z_iconst C 4 dX2_add_29 (by decide) ?_
    refine z_icmp_ne C 37 dX2_add_30 (by decide) (fun c5 => ?_) (fun c5 => ?_)
    · replace hf := ite_f c5 hf
      refine z_aload_n C 2 2 dX2_add_37 rfl rfl ?_
      refine z_iconst C 0 dX2_add_38 (by decide) ?_
      refine z_iald C (lay_c58 hL) (inb_in (by decide)) dX2_add_39 ?_
      exact wX2_add_j40 C hs0 hL pp M3 x1 (gI M3 52 0) (gI M3 58 (ix 0)) hf
    · replace hf := ite_t c5 hf
      refine z_iconst C (-1) dX2_add_33 (by decide) ?_
      refine z_goto C 40 dX2_add_34 (by decide) ?_
      exact wX2_add_j40 C hs0 hL pp M3 x1 (gI M3 52 0) (-1) hf
  · replace hf := ite_f c1 hf
    cases hf
    exact z_vret C rfl dX2_add_9
set_option maxHeartbeats 4000000 in
set_option maxRecDepth 100000 in
theorem tX4_clear (l : Launch) (G : GG) {K : SK} (hL : Lay K) (M : MM)  (pp : MM) (hf : fX4_clear M = some pp) : Ct l yX4_clear cX4_clear 1 none 0 0 0 G K M [.ref (G.1 + 51)] none K pp := by
  refine z_enter (lv := [(0, .ref (G.1 + 51))]) (by decide +kernel) (Nat.le_of_ble_eq_true rfl) rfl ?_
  intro p e s m args below meth c C hnm hs0
  replace C : CX p s m args meth c cX4_clear 1 none RX4 G := C
  unfold fX4_clear at hf
  refine z_aload_n C 0 0 dX4_clear_0 rfl rfl ?_
  refine z_iconst C 0 dX4_clear_1 (by decide) ?_
  refine z_putI C ok_X4 (lay_c51 hL) 0 (by decide) rfl rfl rfl rfl q_fl_X4_22 dX4_clear_2 ?_
  refine z_M (fun M1 e2 => ?_)
  replace hf := bnd_out e2 hf
  refine z_aload_n C 0 0 dX4_clear_5 rfl rfl ?_
  refine z_iconst C 1 dX4_clear_6 (by decide) ?_
  refine z_putI C ok_X4 (lay_c51 hL) 1 (by decide) rfl rfl (by decide) (by decide) q_fl_X4_9 dX4_clear_7 ?_
  refine z_M (fun M3 e4 => ?_)
  replace hf := bnd_out e4 hf
  refine z_aload_n C 0 0 dX4_clear_10 rfl rfl ?_
  refine z_iconst C 0 dX4_clear_11 (by decide) ?_
  refine z_putI C ok_X4 (lay_c51 hL) 2 (by decide) rfl rfl rfl rfl q_fl_X4_25 dX4_clear_12 ?_
  refine z_M (fun M5 e6 => ?_)
  replace hf := bnd_out e6 hf
  refine z_aload_n C 0 0 dX4_clear_15 rfl rfl ?_
  refine z_iconst C 5 dX4_clear_16 (by decide) ?_
  refine z_putI C ok_X4 (lay_c51 hL) 3 (by decide) rfl rfl rfl rfl q_fl_X4_15 dX4_clear_17 ?_
  refine z_M (fun M7 e8 => ?_)
  replace hf := bnd_out e8 hf
  refine z_aload_n C 0 0 dX4_clear_20 rfl rfl ?_
  refine z_iconst C 0 dX4_clear_21 (by decide) ?_
  refine z_putI C ok_X4 (lay_c51 hL) 4 (by decide) rfl rfl rfl rfl q_fl_X4_28 dX4_clear_22 ?_
  refine z_M (fun M9 e10 => ?_)
  replace hf := bnd_out e10 hf
  refine z_aload_n C 0 0 dX4_clear_25 rfl rfl ?_
  refine z_iconst C 1 dX4_clear_26 (by decide) ?_
  refine z_putI C ok_X4 (lay_c51 hL) 5 (by decide) rfl rfl rfl rfl q_fl_X4_19 dX4_clear_27 ?_
  refine z_M (fun M11 e12 => ?_)
  replace hf := bnd_out e12 hf
  cases hf
  exact z_vret C rfl dX4_clear_30
set_option maxHeartbeats 4000000 in
set_option maxRecDepth 100000 in
theorem tX4_copyFrom (l : Launch) (G : GG) {K : SK} (hL : Lay K) (M : MM) (a0 : Nat) (h0 : Lw K a0) (a1 : Nat) (h1 : Lw K a1) (pp : MM) (hf : fX4_copyFrom M a0 a1 = some pp) : Ct l yX4_copyFrom cX4_copyFrom 2 none 0 0 0 G K M [.ref (G.1 + a0), .ref (G.1 + a1)] none K pp := by
  refine z_enter (lv := [(0, .ref (G.1 + a0)), (1, .ref (G.1 + a1))]) (by decide +kernel) (Nat.le_of_ble_eq_true rfl) rfl ?_
  intro p e s m args below meth c C hnm hs0
  replace C : CX p s m args meth c cX4_copyFrom 2 none RX4 G := C
  unfold fX4_copyFrom at hf
  refine z_aload_n C 0 0 dX4_copyFrom_0 rfl rfl ?_
  refine z_aload_n C 1 1 dX4_copyFrom_1 rfl rfl ?_
  refine z_getI C ok_X4 (Lw_o h1) 0 (by decide) rfl q_fl_X4_22 dX4_copyFrom_2 ?_
  refine z_putI C ok_X4 (Lw_o h0) 0 (by decide) rfl rfl rfl rfl q_fl_X4_22 dX4_copyFrom_5 ?_
  refine z_M (fun M1 e2 => ?_)
  replace hf := bnd_out e2 hf
  refine z_aload_n C 0 0 dX4_copyFrom_8 rfl rfl ?_
  refine z_aload_n C 1 1 dX4_copyFrom_9 rfl rfl ?_
  refine z_getI C ok_X4 (Lw_o h1) 1 (by decide) rfl q_fl_X4_9 dX4_copyFrom_10 ?_
  replace hf := gd_out hf
  obtain ⟨g3, hf⟩ := hf
  refine z_putI C ok_X4 (Lw_o h0) 1 (by decide) rfl rfl (isb_n g3) (isb_f g3) q_fl_X4_9 dX4_copyFrom_13 ?_
  refine z_M (fun M4 e5 => ?_)
  replace hf := bnd_out e5 hf
  refine z_aload_n C 0 0 dX4_copyFrom_16 rfl rfl ?_
  refine z_aload_n C 1 1 dX4_copyFrom_17 rfl rfl ?_
  refine z_getI C ok_X4 (Lw_o h1) 2 (by decide) rfl q_fl_X4_25 dX4_copyFrom_18 ?_
  refine z_putI C ok_X4 (Lw_o h0) 2 (by decide) rfl rfl rfl rfl q_fl_X4_25 dX4_copyFrom_21 ?_
  refine z_M (fun M6 e7 => ?_)
  replace hf := bnd_out e7 hf
  refine z_aload_n C 0 0 dX4_copyFrom_24 rfl rfl ?_
  refine z_aload_n C 1 1 dX4_copyFrom_25 rfl rfl ?_
  refine z_getI C ok_X4 (Lw_o h1) 3 (by decide) rfl q_fl_X4_15 dX4_copyFrom_26 ?_
  refine z_putI C ok_X4 (Lw_o h0) 3 (by decide) rfl rfl rfl rfl q_fl_X4_15 dX4_copyFrom_29 ?_
  refine z_M (fun M8 e9 => ?_)
  replace hf := bnd_out e9 hf
  refine z_aload_n C 0 0 dX4_copyFrom_32 rfl rfl ?_
  refine z_aload_n C 1 1 dX4_copyFrom_33 rfl rfl ?_
  refine z_getI C ok_X4 (Lw_o h1) 4 (by decide) rfl q_fl_X4_28 dX4_copyFrom_34 ?_
  refine z_putI C ok_X4 (Lw_o h0) 4 (by decide) rfl rfl rfl rfl q_fl_X4_28 dX4_copyFrom_37 ?_
  refine z_M (fun M10 e11 => ?_)
  replace hf := bnd_out e11 hf
  refine z_aload_n C 0 0 dX4_copyFrom_40 rfl rfl ?_
  refine z_aload_n C 1 1 dX4_copyFrom_41 rfl rfl ?_
  refine z_getI C ok_X4 (Lw_o h1) 5 (by decide) rfl q_fl_X4_19 dX4_copyFrom_42 ?_
  refine z_putI C ok_X4 (Lw_o h0) 5 (by decide) rfl rfl rfl rfl q_fl_X4_19 dX4_copyFrom_45 ?_
  refine z_M (fun M12 e13 => ?_)
  replace hf := bnd_out e13 hf
  cases hf
  exact z_vret C rfl dX4_copyFrom_48
set_option maxHeartbeats 4000000 in
set_option maxRecDepth 100000 in
theorem tX4_tell (l : Launch) (G : GG) {K : SK} (hL : Lay K) (M : MM) (a0 : Nat) (h0 : Lw K a0) (x1 : Int32) : Ct l yX4_tell cX4_tell 2 (some .int) 0 0 0 G K M [.ref (G.1 + a0), .int x1] (some (.int (fX4_tell M a0 x1))) K M := by
  generalize hf : fX4_tell M a0 x1 = pp
  refine z_enter (lv := [(0, .ref (G.1 + a0)), (1, .int x1)]) (by decide +kernel) (Nat.le_of_ble_eq_true rfl) rfl ?_
  intro p e s m args below meth c C hnm hs0
  replace C : CX p s m args meth c cX4_tell 2 (some .int) RX4 G := C
  unfold fX4_tell at hf
  refine z_iload_n C 1 1 dX4_tell_0 rfl rfl ?_
  refine z_if_ne C 9 dX4_tell_1 (by decide) (fun c1 => ?_) (fun c1 => ?_)
  · replace hf := ite_f c1 hf
    refine z_iload_n C 1 1 dX4_tell_9 rfl rfl ?_
    refine z_iconst C 1 dX4_tell_10 (by decide) ?_
    refine z_icmp_ne C 27 dX4_tell_11 (by decide) (fun c2 => ?_) (fun c2 => ?_)
    · replace hf := ite_f c2 hf
      refine z_iload_n C 1 1 dX4_tell_27 rfl rfl ?_
      refine z_iconst C 2 dX4_tell_28 (by decide) ?_
      refine z_icmp_ne C 37 dX4_tell_29 (by decide) (fun c3 => ?_) (fun c3 => ?_)
      · replace hf := ite_f c3 hf
        refine z_iload_n C 1 1 dX4_tell_37 rfl rfl ?_
        refine z_iconst C 3 dX4_tell_38 (by decide) ?_
        refine z_icmp_ne C 47 dX4_tell_39 (by decide) (fun c4 => ?_) (fun c4 => ?_)
        · replace hf := ite_f c4 hf
          refine z_iload_n C 1 1 dX4_tell_47 rfl rfl ?_
          refine z_iconst C 4 dX4_tell_48 (by decide) ?_
          refine z_icmp_ne C 57 dX4_tell_49 (by decide) (fun c5 => ?_) (fun c5 => ?_)
          · replace hf := ite_f c5 hf
            refine z_iload_n C 1 1 dX4_tell_57 rfl rfl ?_
            refine z_iconst C 5 dX4_tell_58 (by decide) ?_
            refine z_icmp_ne C 69 dX4_tell_59 (by decide) (fun c6 => ?_) (fun c6 => ?_)
            · replace hf := ite_f c6 hf
              refine z_iconst C (-1) dX4_tell_69 (by decide) ?_
              cases hf
              exact z_iret C rfl dX4_tell_70
            · replace hf := ite_t c6 hf
              refine z_aload_n C 0 0 dX4_tell_62 rfl rfl ?_
              refine z_getI C ok_X4 (Lw_o h0) 5 (by decide) rfl q_fl_X4_19 dX4_tell_63 ?_
              refine z_goto C 70 dX4_tell_66 (by decide) ?_
              cases hf
              exact z_iret C rfl dX4_tell_70
          · replace hf := ite_t c5 hf
            refine z_aload_n C 0 0 dX4_tell_52 rfl rfl ?_
            refine z_getI C ok_X4 (Lw_o h0) 4 (by decide) rfl q_fl_X4_28 dX4_tell_53 ?_
            cases hf
            exact z_iret C rfl dX4_tell_56
        · replace hf := ite_t c4 hf
          refine z_aload_n C 0 0 dX4_tell_42 rfl rfl ?_
          refine z_getI C ok_X4 (Lw_o h0) 3 (by decide) rfl q_fl_X4_15 dX4_tell_43 ?_
          cases hf
          exact z_iret C rfl dX4_tell_46
      · replace hf := ite_t c3 hf
        refine z_aload_n C 0 0 dX4_tell_32 rfl rfl ?_
        refine z_getI C ok_X4 (Lw_o h0) 2 (by decide) rfl q_fl_X4_25 dX4_tell_33 ?_
        cases hf
        exact z_iret C rfl dX4_tell_36
    · replace hf := ite_t c2 hf
      refine z_aload_n C 0 0 dX4_tell_14 rfl rfl ?_
      refine z_getI C ok_X4 (Lw_o h0) 1 (by decide) rfl q_fl_X4_9 dX4_tell_15 ?_
      refine z_if_eq C 25 dX4_tell_18 (by decide) (fun c7 => ?_) (fun c7 => ?_)
      · replace hf := ite_t c7 hf
        refine z_iconst C 0 dX4_tell_25 (by decide) ?_
        cases hf
        exact z_iret C rfl dX4_tell_26
      · replace hf := ite_f c7 hf
        refine z_iconst C 1 dX4_tell_21 (by decide) ?_
        refine z_goto C 26 dX4_tell_22 (by decide) ?_
        cases hf
        exact z_iret C rfl dX4_tell_26
  · replace hf := ite_t c1 hf
    refine z_aload_n C 0 0 dX4_tell_4 rfl rfl ?_
    refine z_getI C ok_X4 (Lw_o h0) 0 (by decide) rfl q_fl_X4_22 dX4_tell_5 ?_
    cases hf
    exact z_iret C rfl dX4_tell_8
set_option maxHeartbeats 4000000 in
set_option maxRecDepth 100000 in
theorem tX8_clear (l : Launch) (G : GG) {K : SK} (hL : Lay K) (M : MM)  (pp : MM) (hf : fX8_clear M = some pp) : Ct l yX8_clear cX8_clear 1 none 1 0 0 G K M [.ref (G.1 + 56)] none K pp := by
  refine z_enter (lv := [(0, .ref (G.1 + 56))]) (by decide +kernel) (Nat.le_of_ble_eq_true rfl) rfl ?_
  intro p e s m args below meth c C hnm hs0
  replace C : CX p s m args meth c cX8_clear 1 none RX8 G := C
  unfold fX8_clear at hf
  refine z_aload_n C 0 0 dX8_clear_0 rfl rfl ?_
  refine z_iconst C 0 dX8_clear_1 (by decide) ?_
  refine z_putI C ok_X8 (lay_c56 hL) 0 (by decide) rfl rfl rfl rfl q_fl_X8_21 dX8_clear_2 ?_
  refine z_M (fun M1 e2 => ?_)
  replace hf := bnd_out e2 hf
  refine z_aload_n C 0 0 dX8_clear_5 rfl rfl ?_
  refine z_getR C ok_X8 (lay_c56 hL) 1 (57) (by decide) rfl (lay_r56_1 hL) q_fl_X8_9 dX8_clear_6 ?_
  refine z_iconst C (-1) dX8_clear_9 (by decide) ?_
  replace hf := bd_out hf
  obtain ⟨p3, e4, hf⟩ := hf
  refine z_cS0 C [] (tJ7_fill_53178 l G M1 57 8 (lay_c57 hL) (-1) _ e4) lk_J7_fill_53178 q_ml_X8_15 rfl ⟨Nat.le_of_ble_eq_true rfl, Nat.le_of_ble_eq_true rfl⟩ rfl (Nat.le_of_ble_eq_true rfl) ⟨Nat.le_refl _, Nat.le_refl _⟩ dX8_clear_10 ?_
  cases hf
  exact z_vret C rfl dX8_clear_13
set_option maxHeartbeats 4000000 in
set_option maxRecDepth 100000 in
theorem tX8_copyFrom (l : Launch) (G : GG) {K : SK} (hL : Lay K) (M : MM) (a0 : Nat) (h0 : Sg K a0) (a1 : Nat) (h1 : Sg K a1) (pp : MM) (hf : fX8_copyFrom M a0 a1 = some pp) : Ct l yX8_copyFrom cX8_copyFrom 2 none 1 0 0 G K M [.ref (G.1 + a0), .ref (G.1 + a1)] none K pp := by
  refine z_enter (lv := [(0, .ref (G.1 + a0)), (1, .ref (G.1 + a1))]) (by decide +kernel) (Nat.le_of_ble_eq_true rfl) rfl ?_
  intro p e s m args below meth c C hnm hs0
  replace C : CX p s m args meth c cX8_copyFrom 2 none RX8 G := C
  unfold fX8_copyFrom at hf
  refine z_aload_n C 0 0 dX8_copyFrom_0 rfl rfl ?_
  refine z_aload_n C 1 1 dX8_copyFrom_1 rfl rfl ?_
  refine z_getI C ok_X8 (Sg_o h1) 0 (by decide) rfl q_fl_X8_21 dX8_copyFrom_2 ?_
  refine z_putI C ok_X8 (Sg_o h0) 0 (by decide) rfl rfl rfl rfl q_fl_X8_21 dX8_copyFrom_5 ?_
  refine z_M (fun M1 e2 => ?_)
  replace hf := bnd_out e2 hf
  refine z_aload_n C 1 1 dX8_copyFrom_8 rfl rfl ?_
  refine z_getR C ok_X8 (Sg_o h1) 1 (a1 + 1) (by decide) rfl (Sg_r1 h1) q_fl_X8_9 dX8_copyFrom_9 ?_
  refine z_iconst C 0 dX8_copyFrom_12 (by decide) ?_
  refine z_aload_n C 0 0 dX8_copyFrom_13 rfl rfl ?_
  refine z_getR C ok_X8 (Sg_o h0) 1 (a0 + 1) (by decide) rfl (Sg_r1 h0) q_fl_X8_9 dX8_copyFrom_14 ?_
  refine z_iconst C 0 dX8_copyFrom_17 (by decide) ?_
  refine z_bipush C 8 dX8_copyFrom_18 (by decide) ?_
  refine z_copyi C hs0 q_ml_X8_25 q_acn q_acs q_sys (Sg_c1 h1) (Sg_c1 h0) (by decide) (by decide) (by decide) (by decide) (by decide) (fun _ _ => rfl) (Nat.le_of_ble_eq_true rfl) (Nat.le_of_ble_eq_true rfl) dX8_copyFrom_20 ?_
  refine z_M (fun M3 e4 => ?_)
  replace hf := bnd_out e4 hf
  cases hf
  exact z_vret C rfl dX8_copyFrom_23
end
