theorem dX12_looks_0 : decode cX12_looks 0 = .ok (.aload_n 0, 1) := by decide +kernel
theorem dX12_looks_1 : decode cX12_looks 1 = .ok (.iload_n 1, 1) := by decide +kernel
theorem dX12_looks_2 : decode cX12_looks 2 = .ok (.invokevirtual 225, 3) := by decide +kernel
theorem dX12_looks_5 : decode cX12_looks 5 = .ok (.ifCond .eq 30, 3) := by decide +kernel
theorem dX12_looks_8 : decode cX12_looks 8 = .ok (.aload_n 0, 1) := by decide +kernel
theorem dX12_looks_9 : decode cX12_looks 9 = .ok (.iload_n 2, 1) := by decide +kernel
theorem dX12_looks_10 : decode cX12_looks 10 = .ok (.invokevirtual 234, 3) := by decide +kernel
theorem dX12_looks_13 : decode cX12_looks 13 = .ok (.ifCond .eq 22, 3) := by decide +kernel
theorem dX12_looks_16 : decode cX12_looks 16 = .ok (.iload_n 3, 1) := by decide +kernel
theorem dX12_looks_17 : decode cX12_looks 17 = .ok (.iconst 0, 1) := by decide +kernel
theorem dX12_looks_18 : decode cX12_looks 18 = .ok (.bipush 7, 2) := by decide +kernel
theorem dX12_looks_20 : decode cX12_looks 20 = .ok (.invokestatic 141, 3) := by decide +kernel
theorem dX12_looks_23 : decode cX12_looks 23 = .ok (.ifCond .eq 12, 3) := by decide +kernel
theorem dX12_looks_26 : decode cX12_looks 26 = .ok (.aload_n 0, 1) := by decide +kernel
theorem dX12_looks_27 : decode cX12_looks 27 = .ok (.iload_n 2, 1) := by decide +kernel
theorem dX12_looks_28 : decode cX12_looks 28 = .ok (.iload_n 3, 1) := by decide +kernel
theorem dX12_looks_29 : decode cX12_looks 29 = .ok (.invokevirtual 252, 3) := by decide +kernel
theorem dX12_looks_32 : decode cX12_looks 32 = .ok (.goto 5, 3) := by decide +kernel
theorem dX12_looks_35 : decode cX12_looks 35 = .ok (.bipush (-2), 2) := by decide +kernel
theorem dX12_looks_37 : decode cX12_looks 37 = .ok (.ireturn, 1) := by decide +kernel
theorem dX12_degree_0 : decode cX12_degree 0 = .ok (.aload_n 0, 1) := by decide +kernel
theorem dX12_degree_1 : decode cX12_degree 1 = .ok (.iload_n 1, 1) := by decide +kernel
theorem dX12_degree_2 : decode cX12_degree 2 = .ok (.invokevirtual 225, 3) := by decide +kernel
theorem dX12_degree_5 : decode cX12_degree 5 = .ok (.ifCond .eq 19, 3) := by decide +kernel
theorem dX12_degree_8 : decode cX12_degree 8 = .ok (.aload_n 0, 1) := by decide +kernel
theorem dX12_degree_9 : decode cX12_degree 9 = .ok (.iload_n 2, 1) := by decide +kernel
theorem dX12_degree_10 : decode cX12_degree 10 = .ok (.invokevirtual 234, 3) := by decide +kernel
theorem dX12_degree_13 : decode cX12_degree 13 = .ok (.ifCond .eq 11, 3) := by decide +kernel
theorem dX12_degree_16 : decode cX12_degree 16 = .ok (.aload_n 0, 1) := by decide +kernel
theorem dX12_degree_17 : decode cX12_degree 17 = .ok (.iload_n 3, 1) := by decide +kernel
theorem dX12_degree_18 : decode cX12_degree 18 = .ok (.invokevirtual 228, 3) := by decide +kernel
theorem dX12_degree_21 : decode cX12_degree 21 = .ok (.ifCond .ne 6, 3) := by decide +kernel
theorem dX12_degree_24 : decode cX12_degree 24 = .ok (.bipush (-2), 2) := by decide +kernel
theorem dX12_degree_26 : decode cX12_degree 26 = .ok (.ireturn, 1) := by decide +kernel
theorem dX12_degree_27 : decode cX12_degree 27 = .ok (.aload_n 0, 1) := by decide +kernel
theorem dX12_degree_28 : decode cX12_degree 28 = .ok (.invokevirtual 258, 3) := by decide +kernel
theorem dX12_degree_31 : decode cX12_degree 31 = .ok (.aload_n 0, 1) := by decide +kernel
theorem dX12_degree_32 : decode cX12_degree 32 = .ok (.getfield 44, 3) := by decide +kernel
theorem dX12_degree_35 : decode cX12_degree 35 = .ok (.bipush 8, 2) := by decide +kernel
theorem dX12_degree_37 : decode cX12_degree 37 = .ok (.iload_n 2, 1) := by decide +kernel
theorem dX12_degree_38 : decode cX12_degree 38 = .ok (.imul, 1) := by decide +kernel
theorem dX12_degree_39 : decode cX12_degree 39 = .ok (.iload_n 3, 1) := by decide +kernel
theorem dX12_degree_40 : decode cX12_degree 40 = .ok (.iadd, 1) := by decide +kernel
theorem dX12_degree_41 : decode cX12_degree 41 = .ok (.iaload, 1) := by decide +kernel
theorem dX12_degree_42 : decode cX12_degree 42 = .ok (.bipush 99, 2) := by decide +kernel
theorem dX12_degree_44 : decode cX12_degree 44 = .ok (.if_icmp .ne 7, 3) := by decide +kernel
theorem dX12_degree_47 : decode cX12_degree 47 = .ok (.iconst (-1), 1) := by decide +kernel
theorem dX12_degree_48 : decode cX12_degree 48 = .ok (.goto 14, 3) := by decide +kernel
theorem dX12_degree_51 : decode cX12_degree 51 = .ok (.aload_n 0, 1) := by decide +kernel
theorem dX12_degree_52 : decode cX12_degree 52 = .ok (.getfield 44, 3) := by decide +kernel
theorem dX12_degree_55 : decode cX12_degree 55 = .ok (.bipush 8, 2) := by decide +kernel
theorem dX12_degree_57 : decode cX12_degree 57 = .ok (.iload_n 2, 1) := by decide +kernel
theorem dX12_degree_58 : decode cX12_degree 58 = .ok (.imul, 1) := by decide +kernel
theorem dX12_degree_59 : decode cX12_degree 59 = .ok (.iload_n 3, 1) := by decide +kernel
theorem dX12_degree_60 : decode cX12_degree 60 = .ok (.iadd, 1) := by decide +kernel
theorem dX12_degree_61 : decode cX12_degree 61 = .ok (.iaload, 1) := by decide +kernel
theorem dX12_degree_62 : decode cX12_degree 62 = .ok (.ireturn, 1) := by decide +kernel
theorem dX12_isLaw_0 : decode cX12_isLaw 0 = .ok (.aload_n 0, 1) := by decide +kernel
theorem dX12_isLaw_1 : decode cX12_isLaw 1 = .ok (.iconst 1, 1) := by decide +kernel
theorem dX12_isLaw_2 : decode cX12_isLaw 2 = .ok (.iload_n 1, 1) := by decide +kernel
theorem dX12_isLaw_3 : decode cX12_isLaw 3 = .ok (.invokevirtual 179, 3) := by decide +kernel
theorem dX12_isLaw_6 : decode cX12_isLaw 6 = .ok (.ifCond .ne 5, 3) := by decide +kernel
theorem dX12_isLaw_9 : decode cX12_isLaw 9 = .ok (.iconst 0, 1) := by decide +kernel
theorem dX12_isLaw_10 : decode cX12_isLaw 10 = .ok (.ireturn, 1) := by decide +kernel
theorem dX12_isLaw_11 : decode cX12_isLaw 11 = .ok (.aload_n 0, 1) := by decide +kernel
theorem dX12_isLaw_12 : decode cX12_isLaw 12 = .ok (.iconst 1, 1) := by decide +kernel
theorem dX12_isLaw_13 : decode cX12_isLaw 13 = .ok (.iload_n 1, 1) := by decide +kernel
theorem dX12_isLaw_14 : decode cX12_isLaw 14 = .ok (.invokestatic 204, 3) := by decide +kernel
theorem dX12_isLaw_17 : decode cX12_isLaw 17 = .ok (.putfield 261, 3) := by decide +kernel
theorem dX12_isLaw_20 : decode cX12_isLaw 20 = .ok (.aload_n 0, 1) := by decide +kernel
theorem dX12_isLaw_21 : decode cX12_isLaw 21 = .ok (.aload_n 0, 1) := by decide +kernel
theorem dX12_isLaw_22 : decode cX12_isLaw 22 = .ok (.getfield 7, 3) := by decide +kernel
theorem dX12_isLaw_25 : decode cX12_isLaw 25 = .ok (.aload_n 0, 1) := by decide +kernel
theorem dX12_isLaw_26 : decode cX12_isLaw 26 = .ok (.getfield 261, 3) := by decide +kernel
theorem dX12_isLaw_29 : decode cX12_isLaw 29 = .ok (.iconst 0, 1) := by decide +kernel
theorem dX12_isLaw_30 : decode cX12_isLaw 30 = .ok (.iadd, 1) := by decide +kernel
theorem dX12_isLaw_31 : decode cX12_isLaw 31 = .ok (.iaload, 1) := by decide +kernel
theorem dX12_isLaw_32 : decode cX12_isLaw 32 = .ok (.putfield 264, 3) := by decide +kernel
theorem dX12_isLaw_35 : decode cX12_isLaw 35 = .ok (.iconst 1, 1) := by decide +kernel
theorem dX12_isLaw_36 : decode cX12_isLaw 36 = .ok (.ireturn, 1) := by decide +kernel
theorem dX12_law_0 : decode cX12_law 0 = .ok (.aload_n 0, 1) := by decide +kernel
theorem dX12_law_1 : decode cX12_law 1 = .ok (.iload_n 1, 1) := by decide +kernel
theorem dX12_law_2 : decode cX12_law 2 = .ok (.invokevirtual 267, 3) := by decide +kernel
theorem dX12_law_5 : decode cX12_law 5 = .ok (.ifCond .eq 26, 3) := by decide +kernel
theorem dX12_law_8 : decode cX12_law 8 = .ok (.iload_n 2, 1) := by decide +kernel
theorem dX12_law_9 : decode cX12_law 9 = .ok (.iconst 0, 1) := by decide +kernel
theorem dX12_law_10 : decode cX12_law 10 = .ok (.iconst 5, 1) := by decide +kernel
theorem dX12_law_11 : decode cX12_law 11 = .ok (.invokestatic 141, 3) := by decide +kernel
theorem dX12_law_14 : decode cX12_law 14 = .ok (.ifCond .eq 17, 3) := by decide +kernel
theorem dX12_law_17 : decode cX12_law 17 = .ok (.aload_n 0, 1) := by decide +kernel
theorem dX12_law_18 : decode cX12_law 18 = .ok (.getfield 7, 3) := by decide +kernel
theorem dX12_law_21 : decode cX12_law 21 = .ok (.aload_n 0, 1) := by decide +kernel
theorem dX12_law_22 : decode cX12_law 22 = .ok (.getfield 261, 3) := by decide +kernel
theorem dX12_law_25 : decode cX12_law 25 = .ok (.iload_n 2, 1) := by decide +kernel
theorem dX12_law_26 : decode cX12_law 26 = .ok (.iadd, 1) := by decide +kernel
theorem dX12_law_27 : decode cX12_law 27 = .ok (.iaload, 1) := by decide +kernel
theorem dX12_law_28 : decode cX12_law 28 = .ok (.goto 4, 3) := by decide +kernel
theorem dX12_law_31 : decode cX12_law 31 = .ok (.iconst (-1), 1) := by decide +kernel
theorem dX12_law_32 : decode cX12_law 32 = .ok (.ireturn, 1) := by decide +kernel
theorem dX12_isSoup_0 : decode cX12_isSoup 0 = .ok (.aload_n 0, 1) := by decide +kernel
theorem dX12_isSoup_1 : decode cX12_isSoup 1 = .ok (.getfield 7, 3) := by decide +kernel
theorem dX12_isSoup_4 : decode cX12_isSoup 4 = .ok (.aload_n 0, 1) := by decide +kernel
theorem dX12_isSoup_5 : decode cX12_isSoup 5 = .ok (.getfield 261, 3) := by decide +kernel
theorem dX12_isSoup_8 : decode cX12_isSoup 8 = .ok (.iconst 2, 1) := by decide +kernel
theorem dX12_isSoup_9 : decode cX12_isSoup 9 = .ok (.iadd, 1) := by decide +kernel
theorem dX12_isSoup_10 : decode cX12_isSoup 10 = .ok (.iaload, 1) := by decide +kernel
theorem dX12_isSoup_11 : decode cX12_isSoup 11 = .ok (.aload_n 0, 1) := by decide +kernel
theorem dX12_isSoup_12 : decode cX12_isSoup 12 = .ok (.getfield 26, 3) := by decide +kernel
theorem dX12_isSoup_15 : decode cX12_isSoup 15 = .ok (.iload_n 1, 1) := by decide +kernel
theorem dX12_isSoup_16 : decode cX12_isSoup 16 = .ok (.iaload, 1) := by decide +kernel
theorem dX12_isSoup_17 : decode cX12_isSoup 17 = .ok (.ishr, 1) := by decide +kernel
theorem dX12_isSoup_18 : decode cX12_isSoup 18 = .ok (.iconst 1, 1) := by decide +kernel
theorem dX12_isSoup_19 : decode cX12_isSoup 19 = .ok (.iand, 1) := by decide +kernel
theorem dX12_isSoup_20 : decode cX12_isSoup 20 = .ok (.iconst 1, 1) := by decide +kernel
theorem dX12_isSoup_21 : decode cX12_isSoup 21 = .ok (.if_icmp .ne 7, 3) := by decide +kernel
theorem dX12_isSoup_24 : decode cX12_isSoup 24 = .ok (.iconst 1, 1) := by decide +kernel
theorem dX12_isSoup_25 : decode cX12_isSoup 25 = .ok (.goto 4, 3) := by decide +kernel
theorem dX12_isSoup_28 : decode cX12_isSoup 28 = .ok (.iconst 0, 1) := by decide +kernel
theorem dX12_isSoup_29 : decode cX12_isSoup 29 = .ok (.ireturn, 1) := by decide +kernel
theorem dX12_isNear_0 : decode cX12_isNear 0 = .ok (.aload_n 0, 1) := by decide +kernel
theorem dX12_isNear_1 : decode cX12_isNear 1 = .ok (.getfield 44, 3) := by decide +kernel
theorem dX12_isNear_4 : decode cX12_isNear 4 = .ok (.bipush 8, 2) := by decide +kernel
theorem dX12_isNear_6 : decode cX12_isNear 6 = .ok (.iload_n 1, 1) := by decide +kernel
theorem dX12_isNear_7 : decode cX12_isNear 7 = .ok (.imul, 1) := by decide +kernel
theorem dX12_isNear_8 : decode cX12_isNear 8 = .ok (.iload_n 2, 1) := by decide +kernel
theorem dX12_isNear_9 : decode cX12_isNear 9 = .ok (.iadd, 1) := by decide +kernel
theorem dX12_isNear_10 : decode cX12_isNear 10 = .ok (.iaload, 1) := by decide +kernel
theorem dX12_isNear_11 : decode cX12_isNear 11 = .ok (.aload_n 0, 1) := by decide +kernel
theorem dX12_isNear_12 : decode cX12_isNear 12 = .ok (.getfield 264, 3) := by decide +kernel
theorem dX12_isNear_15 : decode cX12_isNear 15 = .ok (.if_icmp .gt 7, 3) := by decide +kernel
theorem dX12_isNear_18 : decode cX12_isNear 18 = .ok (.iconst 1, 1) := by decide +kernel
theorem dX12_isNear_19 : decode cX12_isNear 19 = .ok (.goto 4, 3) := by decide +kernel
theorem dX12_isNear_22 : decode cX12_isNear 22 = .ok (.iconst 0, 1) := by decide +kernel
theorem dX12_isNear_23 : decode cX12_isNear 23 = .ok (.ireturn, 1) := by decide +kernel
theorem dX12_countOf_0 : decode cX12_countOf 0 = .ok (.aload_n 0, 1) := by decide +kernel
theorem dX12_countOf_1 : decode cX12_countOf 1 = .ok (.iload_n 1, 1) := by decide +kernel
theorem dX12_countOf_2 : decode cX12_countOf 2 = .ok (.invokevirtual 270, 3) := by decide +kernel
theorem dX12_countOf_5 : decode cX12_countOf 5 = .ok (.ifCond .eq 5, 3) := by decide +kernel
theorem dX12_countOf_8 : decode cX12_countOf 8 = .ok (.iconst 0, 1) := by decide +kernel
theorem dX12_countOf_9 : decode cX12_countOf 9 = .ok (.ireturn, 1) := by decide +kernel
theorem dX12_countOf_10 : decode cX12_countOf 10 = .ok (.iconst 0, 1) := by decide +kernel
theorem dX12_countOf_11 : decode cX12_countOf 11 = .ok (.istore_n 2, 1) := by decide +kernel
theorem dX12_countOf_12 : decode cX12_countOf 12 = .ok (.iconst 0, 1) := by decide +kernel
theorem dX12_countOf_13 : decode cX12_countOf 13 = .ok (.istore_n 3, 1) := by decide +kernel
theorem dX12_countOf_14 : decode cX12_countOf 14 = .ok (.iload_n 3, 1) := by decide +kernel
theorem dX12_countOf_15 : decode cX12_countOf 15 = .ok (.aload_n 0, 1) := by decide +kernel
theorem dX12_countOf_16 : decode cX12_countOf 16 = .ok (.getfield 213, 3) := by decide +kernel
theorem dX12_countOf_19 : decode cX12_countOf 19 = .ok (.if_icmp .ge 97, 3) := by decide +kernel
theorem dX12_countOf_22 : decode cX12_countOf 22 = .ok (.aload_n 0, 1) := by decide +kernel
theorem dX12_countOf_23 : decode cX12_countOf 23 = .ok (.iload_n 1, 1) := by decide +kernel
theorem dX12_countOf_24 : decode cX12_countOf 24 = .ok (.iload_n 3, 1) := by decide +kernel
theorem dX12_countOf_25 : decode cX12_countOf 25 = .ok (.invokevirtual 273, 3) := by decide +kernel
theorem dX12_countOf_28 : decode cX12_countOf 28 = .ok (.istore 4, 2) := by decide +kernel
theorem dX12_countOf_30 : decode cX12_countOf 30 = .ok (.iconst 0, 1) := by decide +kernel
theorem dX12_countOf_31 : decode cX12_countOf 31 = .ok (.istore 5, 2) := by decide +kernel
theorem dX12_countOf_33 : decode cX12_countOf 33 = .ok (.iload 5, 2) := by decide +kernel
theorem dX12_countOf_35 : decode cX12_countOf 35 = .ok (.iload_n 3, 1) := by decide +kernel
theorem dX12_countOf_36 : decode cX12_countOf 36 = .ok (.if_icmp .ge 61, 3) := by decide +kernel
theorem dX12_countOf_39 : decode cX12_countOf 39 = .ok (.aload_n 0, 1) := by decide +kernel
theorem dX12_countOf_40 : decode cX12_countOf 40 = .ok (.getfield 7, 3) := by decide +kernel
theorem dX12_countOf_43 : decode cX12_countOf 43 = .ok (.aload_n 0, 1) := by decide +kernel
theorem dX12_countOf_44 : decode cX12_countOf 44 = .ok (.getfield 261, 3) := by decide +kernel
theorem dX12_countOf_47 : decode cX12_countOf 47 = .ok (.iconst 1, 1) := by decide +kernel
theorem dX12_countOf_48 : decode cX12_countOf 48 = .ok (.iadd, 1) := by decide +kernel
theorem dX12_countOf_49 : decode cX12_countOf 49 = .ok (.iaload, 1) := by decide +kernel
theorem dX12_countOf_50 : decode cX12_countOf 50 = .ok (.ifCond .ne 47, 3) := by decide +kernel
theorem dX12_countOf_53 : decode cX12_countOf 53 = .ok (.iload 4, 2) := by decide +kernel
theorem dX12_countOf_55 : decode cX12_countOf 55 = .ok (.ifCond .eq 33, 3) := by decide +kernel
theorem dX12_countOf_58 : decode cX12_countOf 58 = .ok (.aload_n 0, 1) := by decide +kernel
theorem dX12_countOf_59 : decode cX12_countOf 59 = .ok (.iload_n 1, 1) := by decide +kernel
theorem dX12_countOf_60 : decode cX12_countOf 60 = .ok (.iload 5, 2) := by decide +kernel
theorem dX12_countOf_62 : decode cX12_countOf 62 = .ok (.invokevirtual 273, 3) := by decide +kernel
theorem dX12_countOf_65 : decode cX12_countOf 65 = .ok (.ifCond .eq 19, 3) := by decide +kernel
theorem dX12_countOf_68 : decode cX12_countOf 68 = .ok (.aload_n 0, 1) := by decide +kernel
theorem dX12_countOf_69 : decode cX12_countOf 69 = .ok (.getfield 23, 3) := by decide +kernel
theorem dX12_countOf_72 : decode cX12_countOf 72 = .ok (.iload 5, 2) := by decide +kernel
theorem dX12_countOf_74 : decode cX12_countOf 74 = .ok (.iaload, 1) := by decide +kernel
theorem dX12_countOf_75 : decode cX12_countOf 75 = .ok (.aload_n 0, 1) := by decide +kernel
theorem dX12_countOf_76 : decode cX12_countOf 76 = .ok (.getfield 23, 3) := by decide +kernel
theorem dX12_countOf_79 : decode cX12_countOf 79 = .ok (.iload_n 3, 1) := by decide +kernel
theorem dX12_countOf_80 : decode cX12_countOf 80 = .ok (.iaload, 1) := by decide +kernel
theorem dX12_countOf_81 : decode cX12_countOf 81 = .ok (.if_icmp .eq 7, 3) := by decide +kernel
theorem dX12_countOf_84 : decode cX12_countOf 84 = .ok (.iconst 1, 1) := by decide +kernel
theorem dX12_countOf_85 : decode cX12_countOf 85 = .ok (.goto 4, 3) := by decide +kernel
theorem dX12_countOf_88 : decode cX12_countOf 88 = .ok (.iconst 0, 1) := by decide +kernel
theorem dX12_countOf_89 : decode cX12_countOf 89 = .ok (.istore 4, 2) := by decide +kernel
theorem dX12_countOf_91 : decode cX12_countOf 91 = .ok (.iinc 5 1, 3) := by decide +kernel
theorem dX12_countOf_94 : decode cX12_countOf 94 = .ok (.goto (-61), 3) := by decide +kernel
theorem dX12_countOf_97 : decode cX12_countOf 97 = .ok (.iload_n 2, 1) := by decide +kernel
theorem dX12_countOf_98 : decode cX12_countOf 98 = .ok (.iload 4, 2) := by decide +kernel
theorem dX12_countOf_100 : decode cX12_countOf 100 = .ok (.ifCond .eq 7, 3) := by decide +kernel
theorem dX12_countOf_103 : decode cX12_countOf 103 = .ok (.iconst 1, 1) := by decide +kernel
theorem dX12_countOf_104 : decode cX12_countOf 104 = .ok (.goto 4, 3) := by decide +kernel
theorem dX12_countOf_107 : decode cX12_countOf 107 = .ok (.iconst 0, 1) := by decide +kernel
theorem dX12_countOf_108 : decode cX12_countOf 108 = .ok (.iadd, 1) := by decide +kernel
theorem dX12_countOf_109 : decode cX12_countOf 109 = .ok (.istore_n 2, 1) := by decide +kernel
theorem dX12_countOf_110 : decode cX12_countOf 110 = .ok (.iinc 3 1, 3) := by decide +kernel
theorem dX12_countOf_113 : decode cX12_countOf 113 = .ok (.goto (-99), 3) := by decide +kernel
theorem dX12_countOf_116 : decode cX12_countOf 116 = .ok (.iload_n 2, 1) := by decide +kernel
theorem dX12_countOf_117 : decode cX12_countOf 117 = .ok (.aload_n 0, 1) := by decide +kernel
theorem dX12_countOf_118 : decode cX12_countOf 118 = .ok (.getfield 35, 3) := by decide +kernel
theorem dX12_countOf_121 : decode cX12_countOf 121 = .ok (.iload_n 1, 1) := by decide +kernel
theorem dX12_countOf_122 : decode cX12_countOf 122 = .ok (.iaload, 1) := by decide +kernel
theorem dX12_countOf_123 : decode cX12_countOf 123 = .ok (.if_icmp .ge 7, 3) := by decide +kernel
theorem dX12_countOf_126 : decode cX12_countOf 126 = .ok (.iload_n 2, 1) := by decide +kernel
theorem dX12_countOf_127 : decode cX12_countOf 127 = .ok (.goto 9, 3) := by decide +kernel
theorem dX12_countOf_130 : decode cX12_countOf 130 = .ok (.aload_n 0, 1) := by decide +kernel
theorem dX12_countOf_131 : decode cX12_countOf 131 = .ok (.getfield 35, 3) := by decide +kernel
theorem dX12_countOf_134 : decode cX12_countOf 134 = .ok (.iload_n 1, 1) := by decide +kernel
theorem dX12_countOf_135 : decode cX12_countOf 135 = .ok (.iaload, 1) := by decide +kernel
theorem dX12_countOf_136 : decode cX12_countOf 136 = .ok (.ireturn, 1) := by decide +kernel
theorem dX12_sum_0 : decode cX12_sum 0 = .ok (.aload_n 0, 1) := by decide +kernel
theorem dX12_sum_1 : decode cX12_sum 1 = .ok (.invokevirtual 258, 3) := by decide +kernel
theorem dX12_sum_4 : decode cX12_sum 4 = .ok (.iconst 0, 1) := by decide +kernel
theorem dX12_sum_5 : decode cX12_sum 5 = .ok (.istore_n 1, 1) := by decide +kernel
theorem dX12_sum_6 : decode cX12_sum 6 = .ok (.iconst 0, 1) := by decide +kernel
theorem dX12_sum_7 : decode cX12_sum 7 = .ok (.istore_n 2, 1) := by decide +kernel
theorem dX12_sum_8 : decode cX12_sum 8 = .ok (.iload_n 2, 1) := by decide +kernel
theorem dX12_sum_9 : decode cX12_sum 9 = .ok (.aload_n 0, 1) := by decide +kernel
theorem dX12_sum_10 : decode cX12_sum 10 = .ok (.getfield 216, 3) := by decide +kernel
theorem dX12_sum_13 : decode cX12_sum 13 = .ok (.if_icmp .ge 17, 3) := by decide +kernel
theorem dX12_sum_16 : decode cX12_sum 16 = .ok (.iload_n 1, 1) := by decide +kernel
theorem dX12_sum_17 : decode cX12_sum 17 = .ok (.aload_n 0, 1) := by decide +kernel
theorem dX12_sum_18 : decode cX12_sum 18 = .ok (.iload_n 2, 1) := by decide +kernel
theorem dX12_sum_19 : decode cX12_sum 19 = .ok (.invokevirtual 276, 3) := by decide +kernel
theorem dX12_sum_22 : decode cX12_sum 22 = .ok (.iadd, 1) := by decide +kernel
theorem dX12_sum_23 : decode cX12_sum 23 = .ok (.istore_n 1, 1) := by decide +kernel
theorem dX12_sum_24 : decode cX12_sum 24 = .ok (.iinc 2 1, 3) := by decide +kernel
theorem dX12_sum_27 : decode cX12_sum 27 = .ok (.goto (-19), 3) := by decide +kernel
theorem dX12_sum_30 : decode cX12_sum 30 = .ok (.iload_n 1, 1) := by decide +kernel
theorem dX12_sum_31 : decode cX12_sum 31 = .ok (.ireturn, 1) := by decide +kernel
theorem dX12_areTold_0 : decode cX12_areTold 0 = .ok (.aload_n 0, 1) := by decide +kernel
theorem dX12_areTold_1 : decode cX12_areTold 1 = .ok (.iload_n 1, 1) := by decide +kernel
theorem dX12_areTold_2 : decode cX12_areTold 2 = .ok (.invokevirtual 225, 3) := by decide +kernel
theorem dX12_areTold_5 : decode cX12_areTold 5 = .ok (.ifCond .eq 15, 3) := by decide +kernel
theorem dX12_areTold_8 : decode cX12_areTold 8 = .ok (.aload_n 0, 1) := by decide +kernel
theorem dX12_areTold_9 : decode cX12_areTold 9 = .ok (.iload_n 2, 1) := by decide +kernel
theorem dX12_areTold_10 : decode cX12_areTold 10 = .ok (.invokevirtual 267, 3) := by decide +kernel
theorem dX12_areTold_13 : decode cX12_areTold 13 = .ok (.ifCond .eq 7, 3) := by decide +kernel
theorem dX12_areTold_16 : decode cX12_areTold 16 = .ok (.iconst 1, 1) := by decide +kernel
theorem dX12_areTold_17 : decode cX12_areTold 17 = .ok (.goto 4, 3) := by decide +kernel
theorem dX12_areTold_20 : decode cX12_areTold 20 = .ok (.iconst 0, 1) := by decide +kernel
theorem dX12_areTold_21 : decode cX12_areTold 21 = .ok (.ireturn, 1) := by decide +kernel
theorem dX12_counted_0 : decode cX12_counted 0 = .ok (.aload_n 0, 1) := by decide +kernel
theorem dX12_counted_1 : decode cX12_counted 1 = .ok (.iload_n 1, 1) := by decide +kernel
theorem dX12_counted_2 : decode cX12_counted 2 = .ok (.iload_n 2, 1) := by decide +kernel
theorem dX12_counted_3 : decode cX12_counted 3 = .ok (.invokevirtual 279, 3) := by decide +kernel
theorem dX12_counted_6 : decode cX12_counted 6 = .ok (.ifCond .eq 16, 3) := by decide +kernel
theorem dX12_counted_9 : decode cX12_counted 9 = .ok (.iload_n 3, 1) := by decide +kernel
theorem dX12_counted_10 : decode cX12_counted 10 = .ok (.iconst (-1), 1) := by decide +kernel
theorem dX12_counted_11 : decode cX12_counted 11 = .ok (.if_icmp .eq 13, 3) := by decide +kernel
theorem dX12_counted_14 : decode cX12_counted 14 = .ok (.aload_n 0, 1) := by decide +kernel
theorem dX12_counted_15 : decode cX12_counted 15 = .ok (.iload_n 3, 1) := by decide +kernel
theorem dX12_counted_16 : decode cX12_counted 16 = .ok (.invokevirtual 234, 3) := by decide +kernel
theorem dX12_counted_19 : decode cX12_counted 19 = .ok (.ifCond .ne 5, 3) := by decide +kernel
theorem dX12_counted_22 : decode cX12_counted 22 = .ok (.iconst (-1), 1) := by decide +kernel
theorem dX12_counted_23 : decode cX12_counted 23 = .ok (.ireturn, 1) := by decide +kernel
theorem dX12_counted_24 : decode cX12_counted 24 = .ok (.aload_n 0, 1) := by decide +kernel
theorem dX12_counted_25 : decode cX12_counted 25 = .ok (.invokevirtual 282, 3) := by decide +kernel
theorem dX12_counted_28 : decode cX12_counted 28 = .ok (.istore 4, 2) := by decide +kernel
theorem dX12_counted_30 : decode cX12_counted 30 = .ok (.iload_n 3, 1) := by decide +kernel
theorem dX12_counted_31 : decode cX12_counted 31 = .ok (.iconst (-1), 1) := by decide +kernel
theorem dX12_counted_32 : decode cX12_counted 32 = .ok (.if_icmp .ne 8, 3) := by decide +kernel
theorem dX12_counted_35 : decode cX12_counted 35 = .ok (.iload 4, 2) := by decide +kernel
theorem dX12_counted_37 : decode cX12_counted 37 = .ok (.goto 8, 3) := by decide +kernel
theorem dX12_counted_40 : decode cX12_counted 40 = .ok (.aload_n 0, 1) := by decide +kernel
theorem dX12_counted_41 : decode cX12_counted 41 = .ok (.iload_n 3, 1) := by decide +kernel
theorem dX12_counted_42 : decode cX12_counted 42 = .ok (.invokevirtual 276, 3) := by decide +kernel
theorem dX12_counted_45 : decode cX12_counted 45 = .ok (.ireturn, 1) := by decide +kernel
theorem dX12_takesTotals_0 : decode cX12_takesTotals 0 = .ok (.aload_n 0, 1) := by decide +kernel
theorem dX12_takesTotals_1 : decode cX12_takesTotals 1 = .ok (.invokevirtual 258, 3) := by decide +kernel
theorem dX12_takesTotals_4 : decode cX12_takesTotals 4 = .ok (.iconst 0, 1) := by decide +kernel
theorem dX12_takesTotals_5 : decode cX12_takesTotals 5 = .ok (.istore_n 1, 1) := by decide +kernel
theorem dX12_takesTotals_6 : decode cX12_takesTotals 6 = .ok (.iload_n 1, 1) := by decide +kernel
theorem dX12_takesTotals_7 : decode cX12_takesTotals 7 = .ok (.iconst 4, 1) := by decide +kernel
theorem dX12_takesTotals_8 : decode cX12_takesTotals 8 = .ok (.if_icmp .ge 16, 3) := by decide +kernel
theorem dX12_takesTotals_11 : decode cX12_takesTotals 11 = .ok (.aload_n 0, 1) := by decide +kernel
theorem dX12_takesTotals_12 : decode cX12_takesTotals 12 = .ok (.getfield 50, 3) := by decide +kernel
theorem dX12_takesTotals_15 : decode cX12_takesTotals 15 = .ok (.iload_n 1, 1) := by decide +kernel
theorem dX12_takesTotals_16 : decode cX12_takesTotals 16 = .ok (.iconst 0, 1) := by decide +kernel
theorem dX12_takesTotals_17 : decode cX12_takesTotals 17 = .ok (.iastore, 1) := by decide +kernel
theorem dX12_takesTotals_18 : decode cX12_takesTotals 18 = .ok (.iinc 1 1, 3) := by decide +kernel
theorem dX12_takesTotals_21 : decode cX12_takesTotals 21 = .ok (.goto (-15), 3) := by decide +kernel
theorem dX12_takesTotals_24 : decode cX12_takesTotals 24 = .ok (.iconst 0, 1) := by decide +kernel
theorem dX12_takesTotals_25 : decode cX12_takesTotals 25 = .ok (.istore_n 1, 1) := by decide +kernel
theorem dX12_takesTotals_26 : decode cX12_takesTotals 26 = .ok (.iload_n 1, 1) := by decide +kernel
theorem dX12_takesTotals_27 : decode cX12_takesTotals 27 = .ok (.aload_n 0, 1) := by decide +kernel
theorem dX12_takesTotals_28 : decode cX12_takesTotals 28 = .ok (.getfield 216, 3) := by decide +kernel
theorem dX12_takesTotals_31 : decode cX12_takesTotals 31 = .ok (.if_icmp .ge 28, 3) := by decide +kernel
theorem dX12_takesTotals_34 : decode cX12_takesTotals 34 = .ok (.aload_n 0, 1) := by decide +kernel
theorem dX12_takesTotals_35 : decode cX12_takesTotals 35 = .ok (.getfield 50, 3) := by decide +kernel
theorem dX12_takesTotals_38 : decode cX12_takesTotals 38 = .ok (.aload_n 0, 1) := by decide +kernel
theorem dX12_takesTotals_39 : decode cX12_takesTotals 39 = .ok (.getfield 38, 3) := by decide +kernel
theorem dX12_takesTotals_42 : decode cX12_takesTotals 42 = .ok (.iload_n 1, 1) := by decide +kernel
theorem dX12_takesTotals_43 : decode cX12_takesTotals 43 = .ok (.iaload, 1) := by decide +kernel
theorem dX12_takesTotals_44 : decode cX12_takesTotals 44 = .ok (.dup2, 1) := by decide +kernel
theorem dX12_takesTotals_45 : decode cX12_takesTotals 45 = .ok (.iaload, 1) := by decide +kernel
theorem dX12_takesTotals_46 : decode cX12_takesTotals 46 = .ok (.aload_n 0, 1) := by decide +kernel
theorem dX12_takesTotals_47 : decode cX12_takesTotals 47 = .ok (.iload_n 1, 1) := by decide +kernel
theorem dX12_takesTotals_48 : decode cX12_takesTotals 48 = .ok (.invokevirtual 276, 3) := by decide +kernel
theorem dX12_takesTotals_51 : decode cX12_takesTotals 51 = .ok (.iadd, 1) := by decide +kernel
theorem dX12_takesTotals_52 : decode cX12_takesTotals 52 = .ok (.iastore, 1) := by decide +kernel
theorem dX12_takesTotals_53 : decode cX12_takesTotals 53 = .ok (.iinc 1 1, 3) := by decide +kernel
theorem dX12_takesTotals_56 : decode cX12_takesTotals 56 = .ok (.goto (-30), 3) := by decide +kernel
theorem dX12_takesTotals_59 : decode cX12_takesTotals 59 = .ok (.return_, 1) := by decide +kernel
theorem dX12_by_0 : decode cX12_by 0 = .ok (.aload_n 0, 1) := by decide +kernel
theorem dX12_by_1 : decode cX12_by 1 = .ok (.getfield 7, 3) := by decide +kernel
theorem dX12_by_4 : decode cX12_by 4 = .ok (.aload_n 0, 1) := by decide +kernel
theorem dX12_by_5 : decode cX12_by 5 = .ok (.getfield 261, 3) := by decide +kernel
theorem dX12_by_8 : decode cX12_by 8 = .ok (.iconst 4, 1) := by decide +kernel
theorem dX12_by_9 : decode cX12_by 9 = .ok (.iadd, 1) := by decide +kernel
theorem dX12_by_10 : decode cX12_by 10 = .ok (.iaload, 1) := by decide +kernel
theorem dX12_by_11 : decode cX12_by 11 = .ok (.ifCond .ne 14, 3) := by decide +kernel
theorem dX12_by_14 : decode cX12_by 14 = .ok (.aload_n 0, 1) := by decide +kernel
theorem dX12_by_15 : decode cX12_by 15 = .ok (.getfield 53, 3) := by decide +kernel
theorem dX12_by_18 : decode cX12_by 18 = .ok (.iload_n 1, 1) := by decide +kernel
theorem dX12_by_19 : decode cX12_by 19 = .ok (.iaload, 1) := by decide +kernel
theorem dX12_by_20 : decode cX12_by 20 = .ok (.iconst 1, 1) := by decide +kernel
theorem dX12_by_21 : decode cX12_by 21 = .ok (.iadd, 1) := by decide +kernel
theorem dX12_by_22 : decode cX12_by 22 = .ok (.goto 13, 3) := by decide +kernel
theorem dX12_by_25 : decode cX12_by 25 = .ok (.iconst 2, 1) := by decide +kernel
theorem dX12_by_26 : decode cX12_by 26 = .ok (.aload_n 0, 1) := by decide +kernel
theorem dX12_by_27 : decode cX12_by 27 = .ok (.getfield 53, 3) := by decide +kernel
theorem dX12_by_30 : decode cX12_by 30 = .ok (.iload_n 1, 1) := by decide +kernel
theorem dX12_by_31 : decode cX12_by 31 = .ok (.iaload, 1) := by decide +kernel
theorem dX12_by_32 : decode cX12_by 32 = .ok (.imul, 1) := by decide +kernel
theorem dX12_by_33 : decode cX12_by 33 = .ok (.iconst 1, 1) := by decide +kernel
theorem dX12_by_34 : decode cX12_by 34 = .ok (.iadd, 1) := by decide +kernel
theorem dX12_by_35 : decode cX12_by 35 = .ok (.ireturn, 1) := by decide +kernel
theorem dX12_gives_0 : decode cX12_gives 0 = .ok (.aload_n 0, 1) := by decide +kernel
theorem dX12_gives_1 : decode cX12_gives 1 = .ok (.invokevirtual 285, 3) := by decide +kernel
theorem dX12_gives_4 : decode cX12_gives 4 = .ok (.iconst 0, 1) := by decide +kernel
theorem dX12_gives_5 : decode cX12_gives 5 = .ok (.istore_n 1, 1) := by decide +kernel
theorem dX12_gives_6 : decode cX12_gives 6 = .ok (.iconst 0, 1) := by decide +kernel
theorem dX12_gives_7 : decode cX12_gives 7 = .ok (.istore_n 2, 1) := by decide +kernel
theorem dX12_gives_8 : decode cX12_gives 8 = .ok (.iload_n 2, 1) := by decide +kernel
theorem dX12_gives_9 : decode cX12_gives 9 = .ok (.iconst 4, 1) := by decide +kernel
theorem dX12_gives_10 : decode cX12_gives 10 = .ok (.if_icmp .ge 25, 3) := by decide +kernel
theorem dX12_gives_13 : decode cX12_gives 13 = .ok (.iload_n 1, 1) := by decide +kernel
theorem dX12_gives_14 : decode cX12_gives 14 = .ok (.aload_n 0, 1) := by decide +kernel
theorem dX12_gives_15 : decode cX12_gives 15 = .ok (.getfield 50, 3) := by decide +kernel
theorem dX12_gives_18 : decode cX12_gives 18 = .ok (.iload_n 2, 1) := by decide +kernel
theorem dX12_gives_19 : decode cX12_gives 19 = .ok (.iaload, 1) := by decide +kernel
theorem dX12_gives_20 : decode cX12_gives 20 = .ok (.iadd, 1) := by decide +kernel
theorem dX12_gives_21 : decode cX12_gives 21 = .ok (.istore_n 1, 1) := by decide +kernel
theorem dX12_gives_22 : decode cX12_gives 22 = .ok (.aload_n 0, 1) := by decide +kernel
theorem dX12_gives_23 : decode cX12_gives 23 = .ok (.getfield 53, 3) := by decide +kernel
theorem dX12_gives_26 : decode cX12_gives 26 = .ok (.iload_n 2, 1) := by decide +kernel
theorem dX12_gives_27 : decode cX12_gives 27 = .ok (.iconst 0, 1) := by decide +kernel
theorem dX12_gives_28 : decode cX12_gives 28 = .ok (.iastore, 1) := by decide +kernel
theorem dX12_gives_29 : decode cX12_gives 29 = .ok (.iinc 2 1, 3) := by decide +kernel
theorem dX12_gives_32 : decode cX12_gives 32 = .ok (.goto (-24), 3) := by decide +kernel
theorem dX12_gives_35 : decode cX12_gives 35 = .ok (.iload_n 1, 1) := by decide +kernel
theorem dX12_gives_36 : decode cX12_gives 36 = .ok (.ifCond .ne 4, 3) := by decide +kernel
theorem dX12_gives_39 : decode cX12_gives 39 = .ok (.return_, 1) := by decide +kernel
theorem dX12_gives_40 : decode cX12_gives 40 = .ok (.aload_n 0, 1) := by decide +kernel
theorem dX12_gives_41 : decode cX12_gives 41 = .ok (.getfield 7, 3) := by decide +kernel
theorem dX12_gives_44 : decode cX12_gives 44 = .ok (.aload_n 0, 1) := by decide +kernel
theorem dX12_gives_45 : decode cX12_gives 45 = .ok (.getfield 261, 3) := by decide +kernel
theorem dX12_gives_48 : decode cX12_gives 48 = .ok (.iconst 3, 1) := by decide +kernel
theorem dX12_gives_49 : decode cX12_gives 49 = .ok (.iadd, 1) := by decide +kernel
theorem dX12_gives_50 : decode cX12_gives 50 = .ok (.iaload, 1) := by decide +kernel
theorem dX12_gives_51 : decode cX12_gives 51 = .ok (.istore_n 2, 1) := by decide +kernel
theorem dX12_gives_52 : decode cX12_gives 52 = .ok (.aload_n 0, 1) := by decide +kernel
theorem dX12_gives_53 : decode cX12_gives 53 = .ok (.getfield 7, 3) := by decide +kernel
theorem dX12_gives_56 : decode cX12_gives 56 = .ok (.aload_n 0, 1) := by decide +kernel
theorem dX12_gives_57 : decode cX12_gives 57 = .ok (.getfield 261, 3) := by decide +kernel
theorem dX12_gives_60 : decode cX12_gives 60 = .ok (.iconst 4, 1) := by decide +kernel
theorem dX12_gives_61 : decode cX12_gives 61 = .ok (.iadd, 1) := by decide +kernel
theorem dX12_gives_62 : decode cX12_gives 62 = .ok (.iaload, 1) := by decide +kernel
theorem dX12_gives_63 : decode cX12_gives 63 = .ok (.iconst 2, 1) := by decide +kernel
theorem dX12_gives_64 : decode cX12_gives 64 = .ok (.if_icmp .ne 7, 3) := by decide +kernel
theorem dX12_gives_67 : decode cX12_gives 67 = .ok (.iconst 1, 1) := by decide +kernel
theorem dX12_gives_68 : decode cX12_gives 68 = .ok (.goto 4, 3) := by decide +kernel
theorem dX12_gives_71 : decode cX12_gives 71 = .ok (.iconst 0, 1) := by decide +kernel
theorem dX12_gives_72 : decode cX12_gives 72 = .ok (.istore_n 3, 1) := by decide +kernel
theorem dX12_gives_73 : decode cX12_gives 73 = .ok (.iconst 0, 1) := by decide +kernel
theorem dX12_gives_74 : decode cX12_gives 74 = .ok (.istore 4, 2) := by decide +kernel
theorem dX12_gives_76 : decode cX12_gives 76 = .ok (.iload 4, 2) := by decide +kernel
theorem dX12_gives_78 : decode cX12_gives 78 = .ok (.iconst 4, 1) := by decide +kernel
theorem dX12_gives_79 : decode cX12_gives 79 = .ok (.if_icmp .ge 79, 3) := by decide +kernel
theorem dX12_gives_82 : decode cX12_gives 82 = .ok (.iload_n 3, 1) := by decide +kernel
theorem dX12_gives_83 : decode cX12_gives 83 = .ok (.ifCond .eq 75, 3) := by decide +kernel
theorem dX12_gives_86 : decode cX12_gives 86 = .ok (.aload_n 0, 1) := by decide +kernel
theorem dX12_gives_87 : decode cX12_gives 87 = .ok (.getfield 53, 3) := by decide +kernel
theorem dX12_gives_90 : decode cX12_gives 90 = .ok (.iload 4, 2) := by decide +kernel
theorem dX12_gives_92 : decode cX12_gives 92 = .ok (.aload_n 0, 1) := by decide +kernel
theorem dX12_gives_93 : decode cX12_gives 93 = .ok (.getfield 50, 3) := by decide +kernel
theorem dX12_gives_96 : decode cX12_gives 96 = .ok (.iload 4, 2) := by decide +kernel
theorem dX12_gives_98 : decode cX12_gives 98 = .ok (.iaload, 1) := by decide +kernel
theorem dX12_gives_99 : decode cX12_gives 99 = .ok (.aload_n 0, 1) := by decide +kernel
theorem dX12_gives_100 : decode cX12_gives 100 = .ok (.getfield 7, 3) := by decide +kernel
theorem dX12_gives_103 : decode cX12_gives 103 = .ok (.aload_n 0, 1) := by decide +kernel
theorem dX12_gives_104 : decode cX12_gives 104 = .ok (.getfield 261, 3) := by decide +kernel
theorem dX12_gives_107 : decode cX12_gives 107 = .ok (.iconst 3, 1) := by decide +kernel
theorem dX12_gives_108 : decode cX12_gives 108 = .ok (.iadd, 1) := by decide +kernel
theorem dX12_gives_109 : decode cX12_gives 109 = .ok (.iaload, 1) := by decide +kernel
theorem dX12_gives_110 : decode cX12_gives 110 = .ok (.imul, 1) := by decide +kernel
theorem dX12_gives_111 : decode cX12_gives 111 = .ok (.iload_n 1, 1) := by decide +kernel
theorem dX12_gives_112 : decode cX12_gives 112 = .ok (.idiv, 1) := by decide +kernel
theorem dX12_gives_113 : decode cX12_gives 113 = .ok (.iastore, 1) := by decide +kernel
theorem dX12_gives_114 : decode cX12_gives 114 = .ok (.aload_n 0, 1) := by decide +kernel
theorem dX12_gives_115 : decode cX12_gives 115 = .ok (.getfield 56, 3) := by decide +kernel
theorem dX12_gives_118 : decode cX12_gives 118 = .ok (.iload 4, 2) := by decide +kernel
theorem dX12_gives_120 : decode cX12_gives 120 = .ok (.aload_n 0, 1) := by decide +kernel
theorem dX12_gives_121 : decode cX12_gives 121 = .ok (.getfield 50, 3) := by decide +kernel
theorem dX12_gives_124 : decode cX12_gives 124 = .ok (.iload 4, 2) := by decide +kernel
theorem dX12_gives_126 : decode cX12_gives 126 = .ok (.iaload, 1) := by decide +kernel
theorem dX12_gives_127 : decode cX12_gives 127 = .ok (.aload_n 0, 1) := by decide +kernel
theorem dX12_gives_128 : decode cX12_gives 128 = .ok (.getfield 7, 3) := by decide +kernel
theorem dX12_gives_131 : decode cX12_gives 131 = .ok (.aload_n 0, 1) := by decide +kernel
theorem dX12_gives_132 : decode cX12_gives 132 = .ok (.getfield 261, 3) := by decide +kernel
theorem dX12_gives_135 : decode cX12_gives 135 = .ok (.iconst 3, 1) := by decide +kernel
theorem dX12_gives_136 : decode cX12_gives 136 = .ok (.iadd, 1) := by decide +kernel
theorem dX12_gives_137 : decode cX12_gives 137 = .ok (.iaload, 1) := by decide +kernel
theorem dX12_gives_138 : decode cX12_gives 138 = .ok (.imul, 1) := by decide +kernel
theorem dX12_gives_139 : decode cX12_gives 139 = .ok (.iload_n 1, 1) := by decide +kernel
theorem dX12_gives_140 : decode cX12_gives 140 = .ok (.irem, 1) := by decide +kernel
theorem dX12_gives_141 : decode cX12_gives 141 = .ok (.iastore, 1) := by decide +kernel
theorem dX12_gives_142 : decode cX12_gives 142 = .ok (.iload_n 2, 1) := by decide +kernel
theorem dX12_gives_143 : decode cX12_gives 143 = .ok (.aload_n 0, 1) := by decide +kernel
theorem dX12_gives_144 : decode cX12_gives 144 = .ok (.getfield 53, 3) := by decide +kernel
theorem dX12_gives_147 : decode cX12_gives 147 = .ok (.iload 4, 2) := by decide +kernel
theorem dX12_gives_149 : decode cX12_gives 149 = .ok (.iaload, 1) := by decide +kernel
theorem dX12_gives_150 : decode cX12_gives 150 = .ok (.isub, 1) := by decide +kernel
theorem dX12_gives_151 : decode cX12_gives 151 = .ok (.istore_n 2, 1) := by decide +kernel
theorem dX12_gives_152 : decode cX12_gives 152 = .ok (.iinc 4 1, 3) := by decide +kernel
theorem dX12_gives_155 : decode cX12_gives 155 = .ok (.goto (-79), 3) := by decide +kernel
theorem dX12_gives_158 : decode cX12_gives 158 = .ok (.iload_n 2, 1) := by decide +kernel
theorem dX12_gives_159 : decode cX12_gives 159 = .ok (.ifCond .le 105, 3) := by decide +kernel
theorem dX12_gives_162 : decode cX12_gives 162 = .ok (.iconst 0, 1) := by decide +kernel
theorem dX12_gives_163 : decode cX12_gives 163 = .ok (.istore 4, 2) := by decide +kernel
theorem dX12_gives_165 : decode cX12_gives 165 = .ok (.iconst 1, 1) := by decide +kernel
theorem dX12_gives_166 : decode cX12_gives 166 = .ok (.istore 5, 2) := by decide +kernel
theorem dX12_gives_168 : decode cX12_gives 168 = .ok (.iload 5, 2) := by decide +kernel
theorem dX12_gives_170 : decode cX12_gives 170 = .ok (.iconst 4, 1) := by decide +kernel
theorem dX12_gives_171 : decode cX12_gives 171 = .ok (.if_icmp .ge 68, 3) := by decide +kernel
theorem dX12_gives_174 : decode cX12_gives 174 = .ok (.iload_n 3, 1) := by decide +kernel
theorem dX12_gives_175 : decode cX12_gives 175 = .ok (.ifCond .eq 23, 3) := by decide +kernel
theorem dX12_gives_178 : decode cX12_gives 178 = .ok (.aload_n 0, 1) := by decide +kernel
theorem dX12_gives_179 : decode cX12_gives 179 = .ok (.getfield 56, 3) := by decide +kernel
theorem dX12_gives_182 : decode cX12_gives 182 = .ok (.iload 5, 2) := by decide +kernel
theorem dX12_gives_184 : decode cX12_gives 184 = .ok (.iaload, 1) := by decide +kernel
theorem dX12_gives_185 : decode cX12_gives 185 = .ok (.aload_n 0, 1) := by decide +kernel
theorem dX12_gives_186 : decode cX12_gives 186 = .ok (.getfield 56, 3) := by decide +kernel
theorem dX12_gives_189 : decode cX12_gives 189 = .ok (.iload 4, 2) := by decide +kernel
theorem dX12_gives_191 : decode cX12_gives 191 = .ok (.iaload, 1) := by decide +kernel
theorem dX12_gives_192 : decode cX12_gives 192 = .ok (.if_icmp .le 41, 3) := by decide +kernel
theorem dX12_gives_195 : decode cX12_gives 195 = .ok (.goto 34, 3) := by decide +kernel
theorem dX12_gives_198 : decode cX12_gives 198 = .ok (.aload_n 0, 1) := by decide +kernel
theorem dX12_gives_199 : decode cX12_gives 199 = .ok (.getfield 50, 3) := by decide +kernel
theorem dX12_gives_202 : decode cX12_gives 202 = .ok (.iload 5, 2) := by decide +kernel
theorem dX12_gives_204 : decode cX12_gives 204 = .ok (.iaload, 1) := by decide +kernel
theorem dX12_gives_205 : decode cX12_gives 205 = .ok (.aload_n 0, 1) := by decide +kernel
theorem dX12_gives_206 : decode cX12_gives 206 = .ok (.iload 4, 2) := by decide +kernel
theorem dX12_gives_208 : decode cX12_gives 208 = .ok (.invokevirtual 288, 3) := by decide +kernel
theorem dX12_gives_211 : decode cX12_gives 211 = .ok (.imul, 1) := by decide +kernel
theorem dX12_gives_212 : decode cX12_gives 212 = .ok (.aload_n 0, 1) := by decide +kernel
theorem dX12_gives_213 : decode cX12_gives 213 = .ok (.getfield 50, 3) := by decide +kernel
theorem dX12_gives_216 : decode cX12_gives 216 = .ok (.iload 4, 2) := by decide +kernel
theorem dX12_gives_218 : decode cX12_gives 218 = .ok (.iaload, 1) := by decide +kernel
theorem dX12_gives_219 : decode cX12_gives 219 = .ok (.aload_n 0, 1) := by decide +kernel
theorem dX12_gives_220 : decode cX12_gives 220 = .ok (.iload 5, 2) := by decide +kernel
theorem dX12_gives_222 : decode cX12_gives 222 = .ok (.invokevirtual 288, 3) := by decide +kernel
theorem dX12_gives_225 : decode cX12_gives 225 = .ok (.imul, 1) := by decide +kernel
theorem dX12_gives_226 : decode cX12_gives 226 = .ok (.if_icmp .le 7, 3) := by decide +kernel
theorem dX12_gives_229 : decode cX12_gives 229 = .ok (.iload 5, 2) := by decide +kernel
theorem dX12_gives_231 : decode cX12_gives 231 = .ok (.istore 4, 2) := by decide +kernel
theorem dX12_gives_233 : decode cX12_gives 233 = .ok (.iinc 5 1, 3) := by decide +kernel
theorem dX12_gives_236 : decode cX12_gives 236 = .ok (.goto (-68), 3) := by decide +kernel
theorem dX12_gives_239 : decode cX12_gives 239 = .ok (.aload_n 0, 1) := by decide +kernel
theorem dX12_gives_240 : decode cX12_gives 240 = .ok (.getfield 53, 3) := by decide +kernel
theorem dX12_gives_243 : decode cX12_gives 243 = .ok (.iload 4, 2) := by decide +kernel
theorem dX12_gives_245 : decode cX12_gives 245 = .ok (.dup2, 1) := by decide +kernel
theorem dX12_gives_246 : decode cX12_gives 246 = .ok (.iaload, 1) := by decide +kernel
theorem dX12_gives_247 : decode cX12_gives 247 = .ok (.iconst 1, 1) := by decide +kernel
theorem dX12_gives_248 : decode cX12_gives 248 = .ok (.iadd, 1) := by decide +kernel
theorem dX12_gives_249 : decode cX12_gives 249 = .ok (.iastore, 1) := by decide +kernel
theorem dX12_gives_250 : decode cX12_gives 250 = .ok (.aload_n 0, 1) := by decide +kernel
theorem dX12_gives_251 : decode cX12_gives 251 = .ok (.getfield 56, 3) := by decide +kernel
theorem dX12_gives_254 : decode cX12_gives 254 = .ok (.iload 4, 2) := by decide +kernel
theorem dX12_gives_256 : decode cX12_gives 256 = .ok (.iconst (-1), 1) := by decide +kernel
theorem dX12_gives_257 : decode cX12_gives 257 = .ok (.iastore, 1) := by decide +kernel
theorem dX12_gives_258 : decode cX12_gives 258 = .ok (.iinc 2 (-1), 3) := by decide +kernel
theorem dX12_gives_261 : decode cX12_gives 261 = .ok (.goto (-103), 3) := by decide +kernel
theorem dX12_gives_264 : decode cX12_gives 264 = .ok (.return_, 1) := by decide +kernel
theorem dX12_party_0 : decode cX12_party 0 = .ok (.aload_n 0, 1) := by decide +kernel
theorem dX12_party_1 : decode cX12_party 1 = .ok (.iload_n 1, 1) := by decide +kernel
theorem dX12_party_2 : decode cX12_party 2 = .ok (.iload_n 2, 1) := by decide +kernel
theorem dX12_party_3 : decode cX12_party 3 = .ok (.invokevirtual 279, 3) := by decide +kernel
theorem dX12_party_6 : decode cX12_party 6 = .ok (.ifCond .eq 12, 3) := by decide +kernel
theorem dX12_party_9 : decode cX12_party 9 = .ok (.iload_n 3, 1) := by decide +kernel
theorem dX12_party_10 : decode cX12_party 10 = .ok (.iconst 0, 1) := by decide +kernel
theorem dX12_party_11 : decode cX12_party 11 = .ok (.iconst 3, 1) := by decide +kernel
theorem dX12_party_12 : decode cX12_party 12 = .ok (.invokestatic 141, 3) := by decide +kernel
theorem dX12_party_15 : decode cX12_party 15 = .ok (.ifCond .ne 5, 3) := by decide +kernel
theorem dX12_party_18 : decode cX12_party 18 = .ok (.iconst (-1), 1) := by decide +kernel
theorem dX12_party_19 : decode cX12_party 19 = .ok (.ireturn, 1) := by decide +kernel
theorem dX12_party_20 : decode cX12_party 20 = .ok (.aload_n 0, 1) := by decide +kernel
theorem dX12_party_21 : decode cX12_party 21 = .ok (.invokevirtual 291, 3) := by decide +kernel
theorem dX12_party_24 : decode cX12_party 24 = .ok (.iload 4, 2) := by decide +kernel
theorem dX12_party_26 : decode cX12_party 26 = .ok (.ifCond .eq 12, 3) := by decide +kernel
theorem dX12_party_29 : decode cX12_party 29 = .ok (.aload_n 0, 1) := by decide +kernel
theorem dX12_party_30 : decode cX12_party 30 = .ok (.getfield 53, 3) := by decide +kernel
theorem dX12_party_33 : decode cX12_party 33 = .ok (.iload_n 3, 1) := by decide +kernel
theorem dX12_party_34 : decode cX12_party 34 = .ok (.iaload, 1) := by decide +kernel
theorem dX12_party_35 : decode cX12_party 35 = .ok (.goto 9, 3) := by decide +kernel
theorem dX12_party_38 : decode cX12_party 38 = .ok (.aload_n 0, 1) := by decide +kernel
theorem dX12_party_39 : decode cX12_party 39 = .ok (.getfield 50, 3) := by decide +kernel
theorem dX12_party_42 : decode cX12_party 42 = .ok (.iload_n 3, 1) := by decide +kernel
theorem dX12_party_43 : decode cX12_party 43 = .ok (.iaload, 1) := by decide +kernel
theorem dX12_party_44 : decode cX12_party 44 = .ok (.ireturn, 1) := by decide +kernel
theorem dX12_isEvening_0 : decode cX12_isEvening 0 = .ok (.aload_n 0, 1) := by decide +kernel
theorem dX12_isEvening_1 : decode cX12_isEvening 1 = .ok (.iconst 2, 1) := by decide +kernel
theorem dX12_isEvening_2 : decode cX12_isEvening 2 = .ok (.iload_n 1, 1) := by decide +kernel
theorem dX12_isEvening_3 : decode cX12_isEvening 3 = .ok (.invokevirtual 179, 3) := by decide +kernel
theorem dX12_isEvening_6 : decode cX12_isEvening 6 = .ok (.ifCond .ne 5, 3) := by decide +kernel
theorem dX12_isEvening_9 : decode cX12_isEvening 9 = .ok (.iconst 0, 1) := by decide +kernel
theorem dX12_isEvening_10 : decode cX12_isEvening 10 = .ok (.ireturn, 1) := by decide +kernel
theorem dX12_isEvening_11 : decode cX12_isEvening 11 = .ok (.aload_n 0, 1) := by decide +kernel
theorem dX12_isEvening_12 : decode cX12_isEvening 12 = .ok (.iconst 2, 1) := by decide +kernel
theorem dX12_isEvening_13 : decode cX12_isEvening 13 = .ok (.iload_n 1, 1) := by decide +kernel
theorem dX12_isEvening_14 : decode cX12_isEvening 14 = .ok (.invokestatic 204, 3) := by decide +kernel
theorem dX12_isEvening_17 : decode cX12_isEvening 17 = .ok (.putfield 294, 3) := by decide +kernel
theorem dX12_isEvening_20 : decode cX12_isEvening 20 = .ok (.iconst 1, 1) := by decide +kernel
theorem dX12_isEvening_21 : decode cX12_isEvening 21 = .ok (.ireturn, 1) := by decide +kernel
theorem dX12_deedOf_0 : decode cX12_deedOf 0 = .ok (.aload_n 0, 1) := by decide +kernel
theorem dX12_deedOf_1 : decode cX12_deedOf 1 = .ok (.getfield 7, 3) := by decide +kernel
theorem dX12_deedOf_4 : decode cX12_deedOf 4 = .ok (.aload_n 0, 1) := by decide +kernel
theorem dX12_deedOf_5 : decode cX12_deedOf 5 = .ok (.getfield 294, 3) := by decide +kernel
theorem dX12_deedOf_8 : decode cX12_deedOf 8 = .ok (.iconst 1, 1) := by decide +kernel
theorem dX12_deedOf_9 : decode cX12_deedOf 9 = .ok (.iadd, 1) := by decide +kernel
theorem dX12_deedOf_10 : decode cX12_deedOf 10 = .ok (.iconst 3, 1) := by decide +kernel
theorem dX12_deedOf_11 : decode cX12_deedOf 11 = .ok (.iload_n 1, 1) := by decide +kernel
theorem dX12_deedOf_12 : decode cX12_deedOf 12 = .ok (.imul, 1) := by decide +kernel
theorem dX12_deedOf_13 : decode cX12_deedOf 13 = .ok (.iadd, 1) := by decide +kernel
theorem dX12_deedOf_14 : decode cX12_deedOf 14 = .ok (.iload_n 2, 1) := by decide +kernel
theorem dX12_deedOf_15 : decode cX12_deedOf 15 = .ok (.iadd, 1) := by decide +kernel
theorem dX12_deedOf_16 : decode cX12_deedOf 16 = .ok (.iaload, 1) := by decide +kernel
theorem dX12_deedOf_17 : decode cX12_deedOf 17 = .ok (.ireturn, 1) := by decide +kernel
theorem dX12_deed_0 : decode cX12_deed 0 = .ok (.aload_n 0, 1) := by decide +kernel
theorem dX12_deed_1 : decode cX12_deed 1 = .ok (.iload_n 1, 1) := by decide +kernel
theorem dX12_deed_2 : decode cX12_deed 2 = .ok (.invokevirtual 297, 3) := by decide +kernel
theorem dX12_deed_5 : decode cX12_deed 5 = .ok (.ifCond .ne 6, 3) := by decide +kernel
theorem dX12_deed_8 : decode cX12_deed 8 = .ok (.bipush (-2), 2) := by decide +kernel
theorem dX12_deed_10 : decode cX12_deed 10 = .ok (.ireturn, 1) := by decide +kernel
theorem dX12_deed_11 : decode cX12_deed 11 = .ok (.iload_n 2, 1) := by decide +kernel
theorem dX12_deed_12 : decode cX12_deed 12 = .ok (.iconst (-1), 1) := by decide +kernel
theorem dX12_deed_13 : decode cX12_deed 13 = .ok (.if_icmp .ne 22, 3) := by decide +kernel
theorem dX12_deed_16 : decode cX12_deed 16 = .ok (.iload_n 3, 1) := by decide +kernel
theorem dX12_deed_17 : decode cX12_deed 17 = .ok (.ifCond .ne 15, 3) := by decide +kernel
theorem dX12_deed_20 : decode cX12_deed 20 = .ok (.aload_n 0, 1) := by decide +kernel
theorem dX12_deed_21 : decode cX12_deed 21 = .ok (.getfield 7, 3) := by decide +kernel
theorem dX12_deed_24 : decode cX12_deed 24 = .ok (.aload_n 0, 1) := by decide +kernel
theorem dX12_deed_25 : decode cX12_deed 25 = .ok (.getfield 294, 3) := by decide +kernel
theorem dX12_deed_28 : decode cX12_deed 28 = .ok (.iaload, 1) := by decide +kernel
theorem dX12_deed_29 : decode cX12_deed 29 = .ok (.goto 5, 3) := by decide +kernel
theorem dX12_deed_32 : decode cX12_deed 32 = .ok (.bipush (-2), 2) := by decide +kernel
theorem dX12_deed_34 : decode cX12_deed 34 = .ok (.ireturn, 1) := by decide +kernel
theorem dX12_deed_35 : decode cX12_deed 35 = .ok (.iload_n 2, 1) := by decide +kernel
theorem dX12_deed_36 : decode cX12_deed 36 = .ok (.iconst 0, 1) := by decide +kernel
theorem dX12_deed_37 : decode cX12_deed 37 = .ok (.aload_n 0, 1) := by decide +kernel
theorem dX12_deed_38 : decode cX12_deed 38 = .ok (.getfield 7, 3) := by decide +kernel
theorem dX12_deed_41 : decode cX12_deed 41 = .ok (.aload_n 0, 1) := by decide +kernel
theorem dX12_deed_42 : decode cX12_deed 42 = .ok (.getfield 294, 3) := by decide +kernel
theorem dX12_deed_45 : decode cX12_deed 45 = .ok (.iaload, 1) := by decide +kernel
theorem dX12_deed_46 : decode cX12_deed 46 = .ok (.iconst 1, 1) := by decide +kernel
theorem dX12_deed_47 : decode cX12_deed 47 = .ok (.isub, 1) := by decide +kernel
theorem dX12_deed_48 : decode cX12_deed 48 = .ok (.invokestatic 141, 3) := by decide +kernel
theorem dX12_deed_51 : decode cX12_deed 51 = .ok (.ifCond .eq 21, 3) := by decide +kernel
theorem dX12_deed_54 : decode cX12_deed 54 = .ok (.iload_n 3, 1) := by decide +kernel
theorem dX12_deed_55 : decode cX12_deed 55 = .ok (.iconst 0, 1) := by decide +kernel
theorem dX12_deed_56 : decode cX12_deed 56 = .ok (.iconst 2, 1) := by decide +kernel
theorem dX12_deed_57 : decode cX12_deed 57 = .ok (.invokestatic 141, 3) := by decide +kernel
theorem dX12_deed_60 : decode cX12_deed 60 = .ok (.ifCond .eq 12, 3) := by decide +kernel
theorem dX12_deed_63 : decode cX12_deed 63 = .ok (.aload_n 0, 1) := by decide +kernel
theorem dX12_deed_64 : decode cX12_deed 64 = .ok (.iload_n 2, 1) := by decide +kernel
theorem dX12_deed_65 : decode cX12_deed 65 = .ok (.iload_n 3, 1) := by decide +kernel
theorem dX12_deed_66 : decode cX12_deed 66 = .ok (.invokevirtual 300, 3) := by decide +kernel
theorem dX12_deed_69 : decode cX12_deed 69 = .ok (.goto 5, 3) := by decide +kernel
theorem dX12_deed_72 : decode cX12_deed 72 = .ok (.bipush (-2), 2) := by decide +kernel
theorem dX12_deed_74 : decode cX12_deed 74 = .ok (.ireturn, 1) := by decide +kernel
theorem dX12_begins_0 : decode cX12_begins 0 = .ok (.aload_n 0, 1) := by decide +kernel
theorem dX12_begins_1 : decode cX12_begins 1 = .ok (.iconst 0, 1) := by decide +kernel
theorem dX12_begins_2 : decode cX12_begins 2 = .ok (.putfield 303, 3) := by decide +kernel
theorem dX12_begins_5 : decode cX12_begins 5 = .ok (.aload_n 0, 1) := by decide +kernel
theorem dX12_begins_6 : decode cX12_begins 6 = .ok (.iconst 0, 1) := by decide +kernel
theorem dX12_begins_7 : decode cX12_begins 7 = .ok (.putfield 306, 3) := by decide +kernel
theorem dX12_begins_10 : decode cX12_begins 10 = .ok (.iconst 0, 1) := by decide +kernel
theorem dX12_begins_11 : decode cX12_begins 11 = .ok (.istore_n 1, 1) := by decide +kernel
theorem dX12_begins_12 : decode cX12_begins 12 = .ok (.iload_n 1, 1) := by decide +kernel
theorem dX12_begins_13 : decode cX12_begins 13 = .ok (.bipush 8, 2) := by decide +kernel
theorem dX12_begins_15 : decode cX12_begins 15 = .ok (.if_icmp .ge 23, 3) := by decide +kernel
theorem dX12_begins_18 : decode cX12_begins 18 = .ok (.aload_n 0, 1) := by decide +kernel
theorem dX12_begins_19 : decode cX12_begins 19 = .ok (.getfield 59, 3) := by decide +kernel
theorem dX12_begins_22 : decode cX12_begins 22 = .ok (.iload_n 1, 1) := by decide +kernel
theorem dX12_begins_23 : decode cX12_begins 23 = .ok (.iconst 0, 1) := by decide +kernel
theorem dX12_begins_24 : decode cX12_begins 24 = .ok (.iastore, 1) := by decide +kernel
theorem dX12_begins_25 : decode cX12_begins 25 = .ok (.aload_n 0, 1) := by decide +kernel
theorem dX12_begins_26 : decode cX12_begins 26 = .ok (.getfield 62, 3) := by decide +kernel
theorem dX12_begins_29 : decode cX12_begins 29 = .ok (.iload_n 1, 1) := by decide +kernel
theorem dX12_begins_30 : decode cX12_begins 30 = .ok (.iconst 0, 1) := by decide +kernel
theorem dX12_begins_31 : decode cX12_begins 31 = .ok (.iastore, 1) := by decide +kernel
theorem dX12_begins_32 : decode cX12_begins 32 = .ok (.iinc 1 1, 3) := by decide +kernel
theorem dX12_begins_35 : decode cX12_begins 35 = .ok (.goto (-23), 3) := by decide +kernel
theorem dX12_begins_38 : decode cX12_begins 38 = .ok (.return_, 1) := by decide +kernel
theorem dX12_can_0 : decode cX12_can 0 = .ok (.iload_n 1, 1) := by decide +kernel
theorem dX12_can_1 : decode cX12_can 1 = .ok (.iconst 4, 1) := by decide +kernel
theorem dX12_can_2 : decode cX12_can 2 = .ok (.if_icmp .ne 5, 3) := by decide +kernel
theorem dX12_can_5 : decode cX12_can 5 = .ok (.iconst 1, 1) := by decide +kernel
theorem dX12_can_6 : decode cX12_can 6 = .ok (.ireturn, 1) := by decide +kernel
theorem dX12_can_7 : decode cX12_can 7 = .ok (.iload_n 1, 1) := by decide +kernel
theorem dX12_can_8 : decode cX12_can 8 = .ok (.ifCond .ne 50, 3) := by decide +kernel
theorem dX12_can_11 : decode cX12_can 11 = .ok (.aload_n 0, 1) := by decide +kernel
theorem dX12_can_12 : decode cX12_can 12 = .ok (.iload_n 2, 1) := by decide +kernel
theorem dX12_can_13 : decode cX12_can 13 = .ok (.invokevirtual 228, 3) := by decide +kernel
theorem dX12_can_16 : decode cX12_can 16 = .ok (.ifCond .eq 40, 3) := by decide +kernel
theorem dX12_can_19 : decode cX12_can 19 = .ok (.aload_n 0, 1) := by decide +kernel
theorem dX12_can_20 : decode cX12_can 20 = .ok (.aload_n 0, 1) := by decide +kernel
theorem dX12_can_21 : decode cX12_can 21 = .ok (.getfield 20, 3) := by decide +kernel
theorem dX12_can_24 : decode cX12_can 24 = .ok (.iload_n 2, 1) := by decide +kernel
theorem dX12_can_25 : decode cX12_can 25 = .ok (.iaload, 1) := by decide +kernel
theorem dX12_can_26 : decode cX12_can 26 = .ok (.iload_n 3, 1) := by decide +kernel
theorem dX12_can_27 : decode cX12_can 27 = .ok (.invokevirtual 249, 3) := by decide +kernel
theorem dX12_can_30 : decode cX12_can 30 = .ok (.iconst (-1), 1) := by decide +kernel
theorem dX12_can_31 : decode cX12_can 31 = .ok (.if_icmp .eq 25, 3) := by decide +kernel
theorem dX12_can_34 : decode cX12_can 34 = .ok (.aload_n 0, 1) := by decide +kernel
theorem dX12_can_35 : decode cX12_can 35 = .ok (.aload_n 0, 1) := by decide +kernel
theorem dX12_can_36 : decode cX12_can 36 = .ok (.aload_n 0, 1) := by decide +kernel
theorem dX12_can_37 : decode cX12_can 37 = .ok (.getfield 20, 3) := by decide +kernel
theorem dX12_can_40 : decode cX12_can 40 = .ok (.iload_n 2, 1) := by decide +kernel
theorem dX12_can_41 : decode cX12_can 41 = .ok (.iaload, 1) := by decide +kernel
theorem dX12_can_42 : decode cX12_can 42 = .ok (.iload_n 3, 1) := by decide +kernel
theorem dX12_can_43 : decode cX12_can 43 = .ok (.invokevirtual 249, 3) := by decide +kernel
theorem dX12_can_46 : decode cX12_can 46 = .ok (.invokevirtual 243, 3) := by decide +kernel
theorem dX12_can_49 : decode cX12_can 49 = .ok (.ifCond .ne 7, 3) := by decide +kernel
theorem dX12_can_52 : decode cX12_can 52 = .ok (.iconst 1, 1) := by decide +kernel
theorem dX12_can_53 : decode cX12_can 53 = .ok (.goto 4, 3) := by decide +kernel
theorem dX12_can_56 : decode cX12_can 56 = .ok (.iconst 0, 1) := by decide +kernel
theorem dX12_can_57 : decode cX12_can 57 = .ok (.ireturn, 1) := by decide +kernel
theorem dX12_can_58 : decode cX12_can 58 = .ok (.aload_n 0, 1) := by decide +kernel
theorem dX12_can_59 : decode cX12_can 59 = .ok (.iload_n 2, 1) := by decide +kernel
theorem dX12_can_60 : decode cX12_can 60 = .ok (.invokevirtual 234, 3) := by decide +kernel
theorem dX12_can_63 : decode cX12_can 63 = .ok (.ifCond .eq 31, 3) := by decide +kernel
theorem dX12_can_66 : decode cX12_can 66 = .ok (.iload_n 1, 1) := by decide +kernel
theorem dX12_can_67 : decode cX12_can 67 = .ok (.iconst 1, 1) := by decide +kernel
theorem dX12_can_68 : decode cX12_can 68 = .ok (.if_icmp .eq 22, 3) := by decide +kernel
theorem dX12_can_71 : decode cX12_can 71 = .ok (.aload_n 0, 1) := by decide +kernel
theorem dX12_can_72 : decode cX12_can 72 = .ok (.getfield 41, 3) := by decide +kernel
theorem dX12_can_75 : decode cX12_can 75 = .ok (.iload_n 2, 1) := by decide +kernel
theorem dX12_can_76 : decode cX12_can 76 = .ok (.baload, 1) := by decide +kernel
theorem dX12_can_77 : decode cX12_can 77 = .ok (.iload_n 1, 1) := by decide +kernel
theorem dX12_can_78 : decode cX12_can 78 = .ok (.iconst 3, 1) := by decide +kernel
theorem dX12_can_79 : decode cX12_can 79 = .ok (.if_icmp .ne 7, 3) := by decide +kernel
theorem dX12_can_82 : decode cX12_can 82 = .ok (.iconst 1, 1) := by decide +kernel
theorem dX12_can_83 : decode cX12_can 83 = .ok (.goto 4, 3) := by decide +kernel
theorem dX12_can_86 : decode cX12_can 86 = .ok (.iconst 0, 1) := by decide +kernel
theorem dX12_can_87 : decode cX12_can 87 = .ok (.if_icmp .ne 7, 3) := by decide +kernel
theorem dX12_can_90 : decode cX12_can 90 = .ok (.iconst 1, 1) := by decide +kernel
theorem dX12_can_91 : decode cX12_can 91 = .ok (.goto 4, 3) := by decide +kernel
theorem dX12_can_94 : decode cX12_can 94 = .ok (.iconst 0, 1) := by decide +kernel
theorem dX12_can_95 : decode cX12_can 95 = .ok (.ireturn, 1) := by decide +kernel
theorem dX12_counts_0 : decode cX12_counts 0 = .ok (.aload_n 0, 1) := by decide +kernel
theorem dX12_counts_1 : decode cX12_counts 1 = .ok (.invokevirtual 258, 3) := by decide +kernel
theorem dX12_counts_4 : decode cX12_counts 4 = .ok (.aload_n 0, 1) := by decide +kernel
theorem dX12_counts_5 : decode cX12_counts 5 = .ok (.dup, 1) := by decide +kernel
theorem dX12_counts_6 : decode cX12_counts 6 = .ok (.getfield 306, 3) := by decide +kernel
theorem dX12_counts_9 : decode cX12_counts 9 = .ok (.iconst 1, 1) := by decide +kernel
theorem dX12_counts_10 : decode cX12_counts 10 = .ok (.iadd, 1) := by decide +kernel
theorem dX12_counts_11 : decode cX12_counts 11 = .ok (.putfield 306, 3) := by decide +kernel
theorem dX12_counts_14 : decode cX12_counts 14 = .ok (.iconst 0, 1) := by decide +kernel
theorem dX12_counts_15 : decode cX12_counts 15 = .ok (.istore_n 1, 1) := by decide +kernel
theorem dX12_counts_16 : decode cX12_counts 16 = .ok (.iload_n 1, 1) := by decide +kernel
theorem dX12_counts_17 : decode cX12_counts 17 = .ok (.aload_n 0, 1) := by decide +kernel
theorem dX12_counts_18 : decode cX12_counts 18 = .ok (.getfield 216, 3) := by decide +kernel
theorem dX12_counts_21 : decode cX12_counts 21 = .ok (.if_icmp .ge 80, 3) := by decide +kernel
theorem dX12_counts_24 : decode cX12_counts 24 = .ok (.aload_n 0, 1) := by decide +kernel
theorem dX12_counts_25 : decode cX12_counts 25 = .ok (.getfield 62, 3) := by decide +kernel
theorem dX12_counts_28 : decode cX12_counts 28 = .ok (.iload_n 1, 1) := by decide +kernel
theorem dX12_counts_29 : decode cX12_counts 29 = .ok (.dup2, 1) := by decide +kernel
theorem dX12_counts_30 : decode cX12_counts 30 = .ok (.iaload, 1) := by decide +kernel
theorem dX12_counts_31 : decode cX12_counts 31 = .ok (.aload_n 0, 1) := by decide +kernel
theorem dX12_counts_32 : decode cX12_counts 32 = .ok (.iload_n 1, 1) := by decide +kernel
theorem dX12_counts_33 : decode cX12_counts 33 = .ok (.invokevirtual 276, 3) := by decide +kernel
theorem dX12_counts_36 : decode cX12_counts 36 = .ok (.iadd, 1) := by decide +kernel
theorem dX12_counts_37 : decode cX12_counts 37 = .ok (.iastore, 1) := by decide +kernel
theorem dX12_counts_38 : decode cX12_counts 38 = .ok (.iconst 0, 1) := by decide +kernel
theorem dX12_counts_39 : decode cX12_counts 39 = .ok (.istore_n 2, 1) := by decide +kernel
theorem dX12_counts_40 : decode cX12_counts 40 = .ok (.iload_n 2, 1) := by decide +kernel
theorem dX12_counts_41 : decode cX12_counts 41 = .ok (.aload_n 0, 1) := by decide +kernel
theorem dX12_counts_42 : decode cX12_counts 42 = .ok (.getfield 213, 3) := by decide +kernel
theorem dX12_counts_45 : decode cX12_counts 45 = .ok (.if_icmp .ge 50, 3) := by decide +kernel
theorem dX12_counts_48 : decode cX12_counts 48 = .ok (.aload_n 0, 1) := by decide +kernel
theorem dX12_counts_49 : decode cX12_counts 49 = .ok (.getfield 59, 3) := by decide +kernel
theorem dX12_counts_52 : decode cX12_counts 52 = .ok (.iload_n 2, 1) := by decide +kernel
theorem dX12_counts_53 : decode cX12_counts 53 = .ok (.dup2, 1) := by decide +kernel
theorem dX12_counts_54 : decode cX12_counts 54 = .ok (.iaload, 1) := by decide +kernel
theorem dX12_counts_55 : decode cX12_counts 55 = .ok (.aload_n 0, 1) := by decide +kernel
theorem dX12_counts_56 : decode cX12_counts 56 = .ok (.iload_n 1, 1) := by decide +kernel
theorem dX12_counts_57 : decode cX12_counts 57 = .ok (.invokevirtual 270, 3) := by decide +kernel
theorem dX12_counts_60 : decode cX12_counts 60 = .ok (.ifCond .ne 26, 3) := by decide +kernel
theorem dX12_counts_63 : decode cX12_counts 63 = .ok (.aload_n 0, 1) := by decide +kernel
theorem dX12_counts_64 : decode cX12_counts 64 = .ok (.iload_n 1, 1) := by decide +kernel
theorem dX12_counts_65 : decode cX12_counts 65 = .ok (.iload_n 2, 1) := by decide +kernel
theorem dX12_counts_66 : decode cX12_counts 66 = .ok (.invokevirtual 273, 3) := by decide +kernel
theorem dX12_counts_69 : decode cX12_counts 69 = .ok (.ifCond .eq 17, 3) := by decide +kernel
theorem dX12_counts_72 : decode cX12_counts 72 = .ok (.aload_n 0, 1) := by decide +kernel
theorem dX12_counts_73 : decode cX12_counts 73 = .ok (.getfield 7, 3) := by decide +kernel
theorem dX12_counts_76 : decode cX12_counts 76 = .ok (.aload_n 0, 1) := by decide +kernel
theorem dX12_counts_77 : decode cX12_counts 77 = .ok (.getfield 261, 3) := by decide +kernel
theorem dX12_counts_80 : decode cX12_counts 80 = .ok (.iconst 5, 1) := by decide +kernel
theorem dX12_counts_81 : decode cX12_counts 81 = .ok (.iadd, 1) := by decide +kernel
theorem dX12_counts_82 : decode cX12_counts 82 = .ok (.iaload, 1) := by decide +kernel
theorem dX12_counts_83 : decode cX12_counts 83 = .ok (.goto 4, 3) := by decide +kernel
theorem dX12_counts_86 : decode cX12_counts 86 = .ok (.iconst 0, 1) := by decide +kernel
theorem dX12_counts_87 : decode cX12_counts 87 = .ok (.iadd, 1) := by decide +kernel
theorem dX12_counts_88 : decode cX12_counts 88 = .ok (.iastore, 1) := by decide +kernel
theorem dX12_counts_89 : decode cX12_counts 89 = .ok (.iinc 2 1, 3) := by decide +kernel
theorem dX12_counts_92 : decode cX12_counts 92 = .ok (.goto (-52), 3) := by decide +kernel
theorem dX12_counts_95 : decode cX12_counts 95 = .ok (.iinc 1 1, 3) := by decide +kernel
theorem dX12_counts_98 : decode cX12_counts 98 = .ok (.goto (-82), 3) := by decide +kernel
theorem dX12_counts_101 : decode cX12_counts 101 = .ok (.return_, 1) := by decide +kernel
theorem dX12_does_0 : decode cX12_does 0 = .ok (.iload_n 1, 1) := by decide +kernel
theorem dX12_does_1 : decode cX12_does 1 = .ok (.tableswitch 81 0 3 #[31, 51, 61, 71], 31) := by decide +kernel
theorem dX12_does_32 : decode cX12_does 32 = .ok (.aload_n 0, 1) := by decide +kernel
theorem dX12_does_33 : decode cX12_does 33 = .ok (.getfield 20, 3) := by decide +kernel
theorem dX12_does_36 : decode cX12_does 36 = .ok (.iload_n 2, 1) := by decide +kernel
theorem dX12_does_37 : decode cX12_does 37 = .ok (.aload_n 0, 1) := by decide +kernel
theorem dX12_does_38 : decode cX12_does 38 = .ok (.aload_n 0, 1) := by decide +kernel
theorem dX12_does_39 : decode cX12_does 39 = .ok (.getfield 20, 3) := by decide +kernel
theorem dX12_does_42 : decode cX12_does 42 = .ok (.iload_n 2, 1) := by decide +kernel
theorem dX12_does_43 : decode cX12_does 43 = .ok (.iaload, 1) := by decide +kernel
theorem dX12_does_44 : decode cX12_does 44 = .ok (.iload_n 3, 1) := by decide +kernel
theorem dX12_does_45 : decode cX12_does 45 = .ok (.invokevirtual 249, 3) := by decide +kernel
theorem dX12_does_48 : decode cX12_does 48 = .ok (.iastore, 1) := by decide +kernel
theorem dX12_does_49 : decode cX12_does 49 = .ok (.goto 37, 3) := by decide +kernel
theorem dX12_does_52 : decode cX12_does 52 = .ok (.aload_n 0, 1) := by decide +kernel
theorem dX12_does_53 : decode cX12_does 53 = .ok (.getfield 32, 3) := by decide +kernel
theorem dX12_does_56 : decode cX12_does 56 = .ok (.iload_n 2, 1) := by decide +kernel
theorem dX12_does_57 : decode cX12_does 57 = .ok (.iload_n 3, 1) := by decide +kernel
theorem dX12_does_58 : decode cX12_does 58 = .ok (.iastore, 1) := by decide +kernel
theorem dX12_does_59 : decode cX12_does 59 = .ok (.goto 27, 3) := by decide +kernel
theorem dX12_does_62 : decode cX12_does 62 = .ok (.aload_n 0, 1) := by decide +kernel
theorem dX12_does_63 : decode cX12_does 63 = .ok (.getfield 41, 3) := by decide +kernel
theorem dX12_does_66 : decode cX12_does 66 = .ok (.iload_n 2, 1) := by decide +kernel
theorem dX12_does_67 : decode cX12_does 67 = .ok (.iconst 1, 1) := by decide +kernel
theorem dX12_does_68 : decode cX12_does 68 = .ok (.bastore, 1) := by decide +kernel
theorem dX12_does_69 : decode cX12_does 69 = .ok (.goto 17, 3) := by decide +kernel
theorem dX12_does_72 : decode cX12_does 72 = .ok (.aload_n 0, 1) := by decide +kernel
theorem dX12_does_73 : decode cX12_does 73 = .ok (.getfield 41, 3) := by decide +kernel
theorem dX12_does_76 : decode cX12_does 76 = .ok (.iload_n 2, 1) := by decide +kernel
theorem dX12_does_77 : decode cX12_does 77 = .ok (.iconst 0, 1) := by decide +kernel
theorem dX12_does_78 : decode cX12_does 78 = .ok (.bastore, 1) := by decide +kernel
theorem dX12_does_79 : decode cX12_does 79 = .ok (.goto 7, 3) := by decide +kernel
theorem dX12_does_82 : decode cX12_does 82 = .ok (.aload_n 0, 1) := by decide +kernel
theorem dX12_does_83 : decode cX12_does 83 = .ok (.invokevirtual 309, 3) := by decide +kernel
theorem dX12_does_86 : decode cX12_does 86 = .ok (.return_, 1) := by decide +kernel
theorem dX12_runs_0 : decode cX12_runs 0 = .ok (.aload_n 0, 1) := by decide +kernel
theorem dX12_runs_1 : decode cX12_runs 1 = .ok (.invokevirtual 312, 3) := by decide +kernel
theorem dX12_runs_4 : decode cX12_runs 4 = .ok (.aload_n 0, 1) := by decide +kernel
theorem dX12_runs_5 : decode cX12_runs 5 = .ok (.getfield 303, 3) := by decide +kernel
theorem dX12_runs_8 : decode cX12_runs 8 = .ok (.iload_n 1, 1) := by decide +kernel
theorem dX12_runs_9 : decode cX12_runs 9 = .ok (.if_icmp .ge 97, 3) := by decide +kernel
theorem dX12_runs_12 : decode cX12_runs 12 = .ok (.aload_n 0, 1) := by decide +kernel
theorem dX12_runs_13 : decode cX12_runs 13 = .ok (.getfield 303, 3) := by decide +kernel
theorem dX12_runs_16 : decode cX12_runs 16 = .ok (.aload_n 0, 1) := by decide +kernel
theorem dX12_runs_17 : decode cX12_runs 17 = .ok (.getfield 7, 3) := by decide +kernel
theorem dX12_runs_20 : decode cX12_runs 20 = .ok (.aload_n 0, 1) := by decide +kernel
theorem dX12_runs_21 : decode cX12_runs 21 = .ok (.getfield 294, 3) := by decide +kernel
theorem dX12_runs_24 : decode cX12_runs 24 = .ok (.iaload, 1) := by decide +kernel
theorem dX12_runs_25 : decode cX12_runs 25 = .ok (.if_icmp .ge 81, 3) := by decide +kernel
theorem dX12_runs_28 : decode cX12_runs 28 = .ok (.aload_n 0, 1) := by decide +kernel
theorem dX12_runs_29 : decode cX12_runs 29 = .ok (.aload_n 0, 1) := by decide +kernel
theorem dX12_runs_30 : decode cX12_runs 30 = .ok (.aload_n 0, 1) := by decide +kernel
theorem dX12_runs_31 : decode cX12_runs 31 = .ok (.getfield 303, 3) := by decide +kernel
theorem dX12_runs_34 : decode cX12_runs 34 = .ok (.iconst 0, 1) := by decide +kernel
theorem dX12_runs_35 : decode cX12_runs 35 = .ok (.invokevirtual 300, 3) := by decide +kernel
theorem dX12_runs_38 : decode cX12_runs 38 = .ok (.aload_n 0, 1) := by decide +kernel
theorem dX12_runs_39 : decode cX12_runs 39 = .ok (.aload_n 0, 1) := by decide +kernel
theorem dX12_runs_40 : decode cX12_runs 40 = .ok (.getfield 303, 3) := by decide +kernel
theorem dX12_runs_43 : decode cX12_runs 43 = .ok (.iconst 1, 1) := by decide +kernel
theorem dX12_runs_44 : decode cX12_runs 44 = .ok (.invokevirtual 300, 3) := by decide +kernel
theorem dX12_runs_47 : decode cX12_runs 47 = .ok (.aload_n 0, 1) := by decide +kernel
theorem dX12_runs_48 : decode cX12_runs 48 = .ok (.aload_n 0, 1) := by decide +kernel
theorem dX12_runs_49 : decode cX12_runs 49 = .ok (.getfield 303, 3) := by decide +kernel
theorem dX12_runs_52 : decode cX12_runs 52 = .ok (.iconst 2, 1) := by decide +kernel
theorem dX12_runs_53 : decode cX12_runs 53 = .ok (.invokevirtual 300, 3) := by decide +kernel
theorem dX12_runs_56 : decode cX12_runs 56 = .ok (.invokevirtual 315, 3) := by decide +kernel
theorem dX12_runs_59 : decode cX12_runs 59 = .ok (.ifCond .eq 47, 3) := by decide +kernel
theorem dX12_runs_62 : decode cX12_runs 62 = .ok (.aload_n 0, 1) := by decide +kernel
theorem dX12_runs_63 : decode cX12_runs 63 = .ok (.aload_n 0, 1) := by decide +kernel
theorem dX12_runs_64 : decode cX12_runs 64 = .ok (.aload_n 0, 1) := by decide +kernel
theorem dX12_runs_65 : decode cX12_runs 65 = .ok (.getfield 303, 3) := by decide +kernel
theorem dX12_runs_68 : decode cX12_runs 68 = .ok (.iconst 0, 1) := by decide +kernel
theorem dX12_runs_69 : decode cX12_runs 69 = .ok (.invokevirtual 300, 3) := by decide +kernel
theorem dX12_runs_72 : decode cX12_runs 72 = .ok (.aload_n 0, 1) := by decide +kernel
theorem dX12_runs_73 : decode cX12_runs 73 = .ok (.aload_n 0, 1) := by decide +kernel
theorem dX12_runs_74 : decode cX12_runs 74 = .ok (.getfield 303, 3) := by decide +kernel
theorem dX12_runs_77 : decode cX12_runs 77 = .ok (.iconst 1, 1) := by decide +kernel
theorem dX12_runs_78 : decode cX12_runs 78 = .ok (.invokevirtual 300, 3) := by decide +kernel
theorem dX12_runs_81 : decode cX12_runs 81 = .ok (.aload_n 0, 1) := by decide +kernel
theorem dX12_runs_82 : decode cX12_runs 82 = .ok (.aload_n 0, 1) := by decide +kernel
theorem dX12_runs_83 : decode cX12_runs 83 = .ok (.getfield 303, 3) := by decide +kernel
theorem dX12_runs_86 : decode cX12_runs 86 = .ok (.iconst 2, 1) := by decide +kernel
theorem dX12_runs_87 : decode cX12_runs 87 = .ok (.invokevirtual 300, 3) := by decide +kernel
theorem dX12_runs_90 : decode cX12_runs 90 = .ok (.invokevirtual 318, 3) := by decide +kernel
theorem dX12_runs_93 : decode cX12_runs 93 = .ok (.aload_n 0, 1) := by decide +kernel
theorem dX12_runs_94 : decode cX12_runs 94 = .ok (.dup, 1) := by decide +kernel
theorem dX12_runs_95 : decode cX12_runs 95 = .ok (.getfield 303, 3) := by decide +kernel
theorem dX12_runs_98 : decode cX12_runs 98 = .ok (.iconst 1, 1) := by decide +kernel
theorem dX12_runs_99 : decode cX12_runs 99 = .ok (.iadd, 1) := by decide +kernel
theorem dX12_runs_100 : decode cX12_runs 100 = .ok (.putfield 303, 3) := by decide +kernel
theorem dX12_runs_103 : decode cX12_runs 103 = .ok (.goto (-99), 3) := by decide +kernel
theorem dX12_runs_106 : decode cX12_runs 106 = .ok (.return_, 1) := by decide +kernel
theorem dX12_stop_0 : decode cX12_stop 0 = .ok (.aload_n 0, 1) := by decide +kernel
theorem dX12_stop_1 : decode cX12_stop 1 = .ok (.iload_n 1, 1) := by decide +kernel
theorem dX12_stop_2 : decode cX12_stop 2 = .ok (.iload_n 2, 1) := by decide +kernel
theorem dX12_stop_3 : decode cX12_stop 3 = .ok (.invokevirtual 279, 3) := by decide +kernel
theorem dX12_stop_6 : decode cX12_stop 6 = .ok (.ifCond .eq 11, 3) := by decide +kernel
theorem dX12_stop_9 : decode cX12_stop 9 = .ok (.aload_n 0, 1) := by decide +kernel
theorem dX12_stop_10 : decode cX12_stop 10 = .ok (.iload_n 3, 1) := by decide +kernel
theorem dX12_stop_11 : decode cX12_stop 11 = .ok (.invokevirtual 297, 3) := by decide +kernel
theorem dX12_stop_14 : decode cX12_stop 14 = .ok (.ifCond .ne 5, 3) := by decide +kernel
theorem dX12_stop_17 : decode cX12_stop 17 = .ok (.iconst (-1), 1) := by decide +kernel
theorem dX12_stop_18 : decode cX12_stop 18 = .ok (.ireturn, 1) := by decide +kernel
theorem dX12_stop_19 : decode cX12_stop 19 = .ok (.aload_n 0, 1) := by decide +kernel
theorem dX12_stop_20 : decode cX12_stop 20 = .ok (.bipush 40, 2) := by decide +kernel
theorem dX12_stop_22 : decode cX12_stop 22 = .ok (.invokevirtual 322, 3) := by decide +kernel
theorem dX12_stop_25 : decode cX12_stop 25 = .ok (.aload_n 0, 1) := by decide +kernel
theorem dX12_stop_26 : decode cX12_stop 26 = .ok (.getfield 303, 3) := by decide +kernel
theorem dX12_stop_29 : decode cX12_stop 29 = .ok (.ireturn, 1) := by decide +kernel
theorem dX12_nowOf_0 : decode cX12_nowOf 0 = .ok (.iload_n 1, 1) := by decide +kernel
theorem dX12_nowOf_1 : decode cX12_nowOf 1 = .ok (.bipush 10, 2) := by decide +kernel
theorem dX12_nowOf_3 : decode cX12_nowOf 3 = .ok (.irem, 1) := by decide +kernel
theorem dX12_nowOf_4 : decode cX12_nowOf 4 = .ok (.istore_n 2, 1) := by decide +kernel
theorem dX12_nowOf_5 : decode cX12_nowOf 5 = .ok (.iload_n 1, 1) := by decide +kernel
theorem dX12_nowOf_6 : decode cX12_nowOf 6 = .ok (.bipush 10, 2) := by decide +kernel
theorem dX12_nowOf_8 : decode cX12_nowOf 8 = .ok (.bipush 29, 2) := by decide +kernel
theorem dX12_nowOf_10 : decode cX12_nowOf 10 = .ok (.invokestatic 141, 3) := by decide +kernel
theorem dX12_nowOf_13 : decode cX12_nowOf 13 = .ok (.ifCond .eq 42, 3) := by decide +kernel
theorem dX12_nowOf_16 : decode cX12_nowOf 16 = .ok (.aload_n 0, 1) := by decide +kernel
theorem dX12_nowOf_17 : decode cX12_nowOf 17 = .ok (.iload_n 2, 1) := by decide +kernel
theorem dX12_nowOf_18 : decode cX12_nowOf 18 = .ok (.invokevirtual 228, 3) := by decide +kernel
theorem dX12_nowOf_21 : decode cX12_nowOf 21 = .ok (.ifCond .ne 8, 3) := by decide +kernel
theorem dX12_nowOf_24 : decode cX12_nowOf 24 = .ok (.bipush (-2), 2) := by decide +kernel
theorem dX12_nowOf_26 : decode cX12_nowOf 26 = .ok (.goto 28, 3) := by decide +kernel
theorem dX12_nowOf_29 : decode cX12_nowOf 29 = .ok (.iload_n 1, 1) := by decide +kernel
theorem dX12_nowOf_30 : decode cX12_nowOf 30 = .ok (.bipush 20, 2) := by decide +kernel
theorem dX12_nowOf_32 : decode cX12_nowOf 32 = .ok (.if_icmp .ge 16, 3) := by decide +kernel
theorem dX12_nowOf_35 : decode cX12_nowOf 35 = .ok (.aload_n 0, 1) := by decide +kernel
theorem dX12_nowOf_36 : decode cX12_nowOf 36 = .ok (.aload_n 0, 1) := by decide +kernel
theorem dX12_nowOf_37 : decode cX12_nowOf 37 = .ok (.getfield 20, 3) := by decide +kernel
theorem dX12_nowOf_40 : decode cX12_nowOf 40 = .ok (.iload_n 2, 1) := by decide +kernel
theorem dX12_nowOf_41 : decode cX12_nowOf 41 = .ok (.iaload, 1) := by decide +kernel
theorem dX12_nowOf_42 : decode cX12_nowOf 42 = .ok (.invokevirtual 231, 3) := by decide +kernel
theorem dX12_nowOf_45 : decode cX12_nowOf 45 = .ok (.goto 9, 3) := by decide +kernel
theorem dX12_nowOf_48 : decode cX12_nowOf 48 = .ok (.aload_n 0, 1) := by decide +kernel
theorem dX12_nowOf_49 : decode cX12_nowOf 49 = .ok (.getfield 59, 3) := by decide +kernel
theorem dX12_nowOf_52 : decode cX12_nowOf 52 = .ok (.iload_n 2, 1) := by decide +kernel
theorem dX12_nowOf_53 : decode cX12_nowOf 53 = .ok (.iaload, 1) := by decide +kernel
theorem dX12_nowOf_54 : decode cX12_nowOf 54 = .ok (.ireturn, 1) := by decide +kernel
theorem dX12_nowOf_55 : decode cX12_nowOf 55 = .ok (.iload_n 1, 1) := by decide +kernel
theorem dX12_nowOf_56 : decode cX12_nowOf 56 = .ok (.bipush 10, 2) := by decide +kernel
theorem dX12_nowOf_58 : decode cX12_nowOf 58 = .ok (.if_icmp .ge 29, 3) := by decide +kernel
theorem dX12_nowOf_61 : decode cX12_nowOf 61 = .ok (.iload_n 1, 1) := by decide +kernel
theorem dX12_nowOf_62 : decode cX12_nowOf 62 = .ok (.ifCond .ne 10, 3) := by decide +kernel
theorem dX12_nowOf_65 : decode cX12_nowOf 65 = .ok (.aload_n 0, 1) := by decide +kernel
theorem dX12_nowOf_66 : decode cX12_nowOf 66 = .ok (.getfield 306, 3) := by decide +kernel
theorem dX12_nowOf_69 : decode cX12_nowOf 69 = .ok (.goto 17, 3) := by decide +kernel
theorem dX12_nowOf_72 : decode cX12_nowOf 72 = .ok (.iload_n 1, 1) := by decide +kernel
theorem dX12_nowOf_73 : decode cX12_nowOf 73 = .ok (.iconst 1, 1) := by decide +kernel
theorem dX12_nowOf_74 : decode cX12_nowOf 74 = .ok (.if_icmp .ne 10, 3) := by decide +kernel
theorem dX12_nowOf_77 : decode cX12_nowOf 77 = .ok (.aload_n 0, 1) := by decide +kernel
theorem dX12_nowOf_78 : decode cX12_nowOf 78 = .ok (.invokevirtual 282, 3) := by decide +kernel
theorem dX12_nowOf_81 : decode cX12_nowOf 81 = .ok (.goto 5, 3) := by decide +kernel
theorem dX12_nowOf_84 : decode cX12_nowOf 84 = .ok (.bipush (-2), 2) := by decide +kernel
theorem dX12_nowOf_86 : decode cX12_nowOf 86 = .ok (.ireturn, 1) := by decide +kernel
theorem dX12_nowOf_87 : decode cX12_nowOf 87 = .ok (.iload_n 1, 1) := by decide +kernel
theorem dX12_nowOf_88 : decode cX12_nowOf 88 = .ok (.bipush 30, 2) := by decide +kernel
theorem dX12_nowOf_90 : decode cX12_nowOf 90 = .ok (.bipush 69, 2) := by decide +kernel
theorem dX12_nowOf_92 : decode cX12_nowOf 92 = .ok (.invokestatic 141, 3) := by decide +kernel
theorem dX12_nowOf_95 : decode cX12_nowOf 95 = .ok (.ifCond .eq 11, 3) := by decide +kernel
theorem dX12_nowOf_98 : decode cX12_nowOf 98 = .ok (.aload_n 0, 1) := by decide +kernel
theorem dX12_nowOf_99 : decode cX12_nowOf 99 = .ok (.iload_n 2, 1) := by decide +kernel
theorem dX12_nowOf_100 : decode cX12_nowOf 100 = .ok (.invokevirtual 234, 3) := by decide +kernel
theorem dX12_nowOf_103 : decode cX12_nowOf 103 = .ok (.ifCond .ne 6, 3) := by decide +kernel
theorem dX12_nowOf_106 : decode cX12_nowOf 106 = .ok (.bipush (-2), 2) := by decide +kernel
theorem dX12_nowOf_108 : decode cX12_nowOf 108 = .ok (.ireturn, 1) := by decide +kernel
theorem dX12_nowOf_109 : decode cX12_nowOf 109 = .ok (.aload_n 0, 1) := by decide +kernel
theorem dX12_nowOf_110 : decode cX12_nowOf 110 = .ok (.invokevirtual 258, 3) := by decide +kernel
theorem dX12_nowOf_113 : decode cX12_nowOf 113 = .ok (.iload_n 1, 1) := by decide +kernel
theorem dX12_nowOf_114 : decode cX12_nowOf 114 = .ok (.bipush 40, 2) := by decide +kernel
theorem dX12_nowOf_116 : decode cX12_nowOf 116 = .ok (.if_icmp .ge 12, 3) := by decide +kernel
theorem dX12_nowOf_119 : decode cX12_nowOf 119 = .ok (.aload_n 0, 1) := by decide +kernel
theorem dX12_nowOf_120 : decode cX12_nowOf 120 = .ok (.getfield 32, 3) := by decide +kernel
theorem dX12_nowOf_123 : decode cX12_nowOf 123 = .ok (.iload_n 2, 1) := by decide +kernel
theorem dX12_nowOf_124 : decode cX12_nowOf 124 = .ok (.iaload, 1) := by decide +kernel
theorem dX12_nowOf_125 : decode cX12_nowOf 125 = .ok (.goto 46, 3) := by decide +kernel
theorem dX12_nowOf_128 : decode cX12_nowOf 128 = .ok (.iload_n 1, 1) := by decide +kernel
theorem dX12_nowOf_129 : decode cX12_nowOf 129 = .ok (.bipush 50, 2) := by decide +kernel
theorem dX12_nowOf_131 : decode cX12_nowOf 131 = .ok (.if_icmp .ge 12, 3) := by decide +kernel
theorem dX12_nowOf_134 : decode cX12_nowOf 134 = .ok (.aload_n 0, 1) := by decide +kernel
theorem dX12_nowOf_135 : decode cX12_nowOf 135 = .ok (.getfield 62, 3) := by decide +kernel
theorem dX12_nowOf_138 : decode cX12_nowOf 138 = .ok (.iload_n 2, 1) := by decide +kernel
theorem dX12_nowOf_139 : decode cX12_nowOf 139 = .ok (.iaload, 1) := by decide +kernel
theorem dX12_nowOf_140 : decode cX12_nowOf 140 = .ok (.goto 31, 3) := by decide +kernel
theorem dX12_nowOf_143 : decode cX12_nowOf 143 = .ok (.iload_n 1, 1) := by decide +kernel
theorem dX12_nowOf_144 : decode cX12_nowOf 144 = .ok (.bipush 60, 2) := by decide +kernel
theorem dX12_nowOf_146 : decode cX12_nowOf 146 = .ok (.if_icmp .ge 20, 3) := by decide +kernel
theorem dX12_nowOf_149 : decode cX12_nowOf 149 = .ok (.aload_n 0, 1) := by decide +kernel
theorem dX12_nowOf_150 : decode cX12_nowOf 150 = .ok (.getfield 41, 3) := by decide +kernel
theorem dX12_nowOf_153 : decode cX12_nowOf 153 = .ok (.iload_n 2, 1) := by decide +kernel
theorem dX12_nowOf_154 : decode cX12_nowOf 154 = .ok (.baload, 1) := by decide +kernel
theorem dX12_nowOf_155 : decode cX12_nowOf 155 = .ok (.ifCond .eq 7, 3) := by decide +kernel
theorem dX12_nowOf_158 : decode cX12_nowOf 158 = .ok (.iconst 1, 1) := by decide +kernel
theorem dX12_nowOf_159 : decode cX12_nowOf 159 = .ok (.goto 12, 3) := by decide +kernel
theorem dX12_nowOf_162 : decode cX12_nowOf 162 = .ok (.iconst 0, 1) := by decide +kernel
theorem dX12_nowOf_163 : decode cX12_nowOf 163 = .ok (.goto 8, 3) := by decide +kernel
theorem dX12_nowOf_166 : decode cX12_nowOf 166 = .ok (.aload_n 0, 1) := by decide +kernel
theorem dX12_nowOf_167 : decode cX12_nowOf 167 = .ok (.iload_n 2, 1) := by decide +kernel
theorem dX12_nowOf_168 : decode cX12_nowOf 168 = .ok (.invokevirtual 276, 3) := by decide +kernel
theorem dX12_nowOf_171 : decode cX12_nowOf 171 = .ok (.ireturn, 1) := by decide +kernel
theorem dX12_state_0 : decode cX12_state 0 = .ok (.aload_n 0, 1) := by decide +kernel
theorem dX12_state_1 : decode cX12_state 1 = .ok (.iload_n 1, 1) := by decide +kernel
theorem dX12_state_2 : decode cX12_state 2 = .ok (.iload_n 2, 1) := by decide +kernel
theorem dX12_state_3 : decode cX12_state 3 = .ok (.invokevirtual 279, 3) := by decide +kernel
theorem dX12_state_6 : decode cX12_state 6 = .ok (.ifCond .eq 16, 3) := by decide +kernel
theorem dX12_state_9 : decode cX12_state 9 = .ok (.aload_n 0, 1) := by decide +kernel
theorem dX12_state_10 : decode cX12_state 10 = .ok (.iload_n 3, 1) := by decide +kernel
theorem dX12_state_11 : decode cX12_state 11 = .ok (.invokevirtual 297, 3) := by decide +kernel
theorem dX12_state_14 : decode cX12_state 14 = .ok (.ifCond .eq 8, 3) := by decide +kernel
theorem dX12_state_17 : decode cX12_state 17 = .ok (.iload 4, 2) := by decide +kernel
theorem dX12_state_19 : decode cX12_state 19 = .ok (.ifCond .ge 6, 3) := by decide +kernel
theorem dX12_state_22 : decode cX12_state 22 = .ok (.bipush (-2), 2) := by decide +kernel
theorem dX12_state_24 : decode cX12_state 24 = .ok (.ireturn, 1) := by decide +kernel
theorem dX12_state_25 : decode cX12_state 25 = .ok (.aload_n 0, 1) := by decide +kernel
theorem dX12_state_26 : decode cX12_state 26 = .ok (.iload 4, 2) := by decide +kernel
theorem dX12_state_28 : decode cX12_state 28 = .ok (.invokevirtual 322, 3) := by decide +kernel
theorem dX12_state_31 : decode cX12_state 31 = .ok (.aload_n 0, 1) := by decide +kernel
theorem dX12_state_32 : decode cX12_state 32 = .ok (.getfield 303, 3) := by decide +kernel
theorem dX12_state_35 : decode cX12_state 35 = .ok (.iload 4, 2) := by decide +kernel
theorem dX12_state_37 : decode cX12_state 37 = .ok (.if_icmp .ne 12, 3) := by decide +kernel
theorem dX12_state_40 : decode cX12_state 40 = .ok (.aload_n 0, 1) := by decide +kernel
theorem dX12_state_41 : decode cX12_state 41 = .ok (.iload 5, 2) := by decide +kernel
theorem dX12_state_43 : decode cX12_state 43 = .ok (.invokevirtual 325, 3) := by decide +kernel
theorem dX12_state_46 : decode cX12_state 46 = .ok (.goto 5, 3) := by decide +kernel
theorem dX12_state_49 : decode cX12_state 49 = .ok (.bipush (-2), 2) := by decide +kernel
theorem dX12_state_51 : decode cX12_state 51 = .ok (.ireturn, 1) := by decide +kernel
theorem dX12_isFreeFor_0 : decode cX12_isFreeFor 0 = .ok (.aload_n 0, 1) := by decide +kernel
theorem dX12_isFreeFor_1 : decode cX12_isFreeFor 1 = .ok (.iload_n 1, 1) := by decide +kernel
theorem dX12_isFreeFor_2 : decode cX12_isFreeFor 2 = .ok (.invokevirtual 243, 3) := by decide +kernel
theorem dX12_isFreeFor_5 : decode cX12_isFreeFor 5 = .ok (.ifCond .eq 27, 3) := by decide +kernel
theorem dX12_isFreeFor_8 : decode cX12_isFreeFor 8 = .ok (.aload_n 0, 1) := by decide +kernel
theorem dX12_isFreeFor_9 : decode cX12_isFreeFor 9 = .ok (.iload_n 1, 1) := by decide +kernel
theorem dX12_isFreeFor_10 : decode cX12_isFreeFor 10 = .ok (.invokevirtual 243, 3) := by decide +kernel
theorem dX12_isFreeFor_13 : decode cX12_isFreeFor 13 = .ok (.bipush 10, 2) := by decide +kernel
theorem dX12_isFreeFor_15 : decode cX12_isFreeFor 15 = .ok (.iload_n 2, 1) := by decide +kernel
theorem dX12_isFreeFor_16 : decode cX12_isFreeFor 16 = .ok (.iadd, 1) := by decide +kernel
theorem dX12_isFreeFor_17 : decode cX12_isFreeFor 17 = .ok (.if_icmp .eq 15, 3) := by decide +kernel
theorem dX12_isFreeFor_20 : decode cX12_isFreeFor 20 = .ok (.aload_n 0, 1) := by decide +kernel
theorem dX12_isFreeFor_21 : decode cX12_isFreeFor 21 = .ok (.iload_n 1, 1) := by decide +kernel
theorem dX12_isFreeFor_22 : decode cX12_isFreeFor 22 = .ok (.invokevirtual 243, 3) := by decide +kernel
theorem dX12_isFreeFor_25 : decode cX12_isFreeFor 25 = .ok (.bipush 10, 2) := by decide +kernel
theorem dX12_isFreeFor_27 : decode cX12_isFreeFor 27 = .ok (.iload_n 3, 1) := by decide +kernel
theorem dX12_isFreeFor_28 : decode cX12_isFreeFor 28 = .ok (.iadd, 1) := by decide +kernel
theorem dX12_isFreeFor_29 : decode cX12_isFreeFor 29 = .ok (.if_icmp .ne 7, 3) := by decide +kernel
theorem dX12_isFreeFor_32 : decode cX12_isFreeFor 32 = .ok (.iconst 1, 1) := by decide +kernel
theorem dX12_isFreeFor_33 : decode cX12_isFreeFor 33 = .ok (.goto 4, 3) := by decide +kernel
theorem dX12_isFreeFor_36 : decode cX12_isFreeFor 36 = .ok (.iconst 0, 1) := by decide +kernel
theorem dX12_isFreeFor_37 : decode cX12_isFreeFor 37 = .ok (.ireturn, 1) := by decide +kernel
theorem dX12_stand_0 : decode cX12_stand 0 = .ok (.aload_n 0, 1) := by decide +kernel
theorem dX12_stand_1 : decode cX12_stand 1 = .ok (.iload_n 1, 1) := by decide +kernel
theorem dX12_stand_2 : decode cX12_stand 2 = .ok (.iload_n 2, 1) := by decide +kernel
theorem dX12_stand_3 : decode cX12_stand 3 = .ok (.invokevirtual 279, 3) := by decide +kernel
theorem dX12_stand_6 : decode cX12_stand 6 = .ok (.ifCond .eq 11, 3) := by decide +kernel
theorem dX12_stand_9 : decode cX12_stand 9 = .ok (.aload_n 0, 1) := by decide +kernel
theorem dX12_stand_10 : decode cX12_stand 10 = .ok (.iload_n 3, 1) := by decide +kernel
theorem dX12_stand_11 : decode cX12_stand 11 = .ok (.invokevirtual 228, 3) := by decide +kernel
theorem dX12_stand_14 : decode cX12_stand 14 = .ok (.ifCond .ne 5, 3) := by decide +kernel
theorem dX12_stand_17 : decode cX12_stand 17 = .ok (.iconst (-1), 1) := by decide +kernel
theorem dX12_stand_18 : decode cX12_stand 18 = .ok (.ireturn, 1) := by decide +kernel
theorem dX12_stand_19 : decode cX12_stand 19 = .ok (.aload_n 0, 1) := by decide +kernel
theorem dX12_stand_20 : decode cX12_stand 20 = .ok (.getfield 20, 3) := by decide +kernel
theorem dX12_stand_23 : decode cX12_stand 23 = .ok (.iload_n 3, 1) := by decide +kernel
theorem dX12_stand_24 : decode cX12_stand 24 = .ok (.iaload, 1) := by decide +kernel
theorem dX12_stand_25 : decode cX12_stand 25 = .ok (.istore 6, 2) := by decide +kernel
theorem dX12_stand_27 : decode cX12_stand 27 = .ok (.iconst (-1), 1) := by decide +kernel
theorem dX12_stand_28 : decode cX12_stand 28 = .ok (.istore 7, 2) := by decide +kernel
theorem dX12_stand_30 : decode cX12_stand 30 = .ok (.iconst 0, 1) := by decide +kernel
theorem dX12_stand_31 : decode cX12_stand 31 = .ok (.istore 8, 2) := by decide +kernel
theorem dX12_stand_33 : decode cX12_stand 33 = .ok (.iconst 0, 1) := by decide +kernel
theorem dX12_stand_34 : decode cX12_stand 34 = .ok (.istore 9, 2) := by decide +kernel
theorem dX12_stand_36 : decode cX12_stand 36 = .ok (.aload_n 0, 1) := by decide +kernel
theorem dX12_stand_37 : decode cX12_stand 37 = .ok (.iload 9, 2) := by decide +kernel
theorem dX12_stand_39 : decode cX12_stand 39 = .ok (.invokevirtual 237, 3) := by decide +kernel
theorem dX12_stand_42 : decode cX12_stand 42 = .ok (.ifCond .eq 92, 3) := by decide +kernel
theorem dX12_stand_45 : decode cX12_stand 45 = .ok (.aload_n 0, 1) := by decide +kernel
theorem dX12_stand_46 : decode cX12_stand 46 = .ok (.getfield 20, 3) := by decide +kernel
theorem dX12_stand_49 : decode cX12_stand 49 = .ok (.iload_n 3, 1) := by decide +kernel
theorem dX12_stand_50 : decode cX12_stand 50 = .ok (.iload 6, 2) := by decide +kernel
theorem dX12_stand_52 : decode cX12_stand 52 = .ok (.iastore, 1) := by decide +kernel
theorem dX12_stand_53 : decode cX12_stand 53 = .ok (.aload_n 0, 1) := by decide +kernel
theorem dX12_stand_54 : decode cX12_stand 54 = .ok (.aload_n 0, 1) := by decide +kernel
theorem dX12_stand_55 : decode cX12_stand 55 = .ok (.iload 9, 2) := by decide +kernel
theorem dX12_stand_57 : decode cX12_stand 57 = .ok (.invokevirtual 240, 3) := by decide +kernel
theorem dX12_stand_60 : decode cX12_stand 60 = .ok (.iload_n 3, 1) := by decide +kernel
theorem dX12_stand_61 : decode cX12_stand 61 = .ok (.iload_n 3, 1) := by decide +kernel
theorem dX12_stand_62 : decode cX12_stand 62 = .ok (.invokevirtual 328, 3) := by decide +kernel
theorem dX12_stand_65 : decode cX12_stand 65 = .ok (.ifCond .ne 6, 3) := by decide +kernel
theorem dX12_stand_68 : decode cX12_stand 68 = .ok (.goto 60, 3) := by decide +kernel
theorem dX12_stand_71 : decode cX12_stand 71 = .ok (.aload_n 0, 1) := by decide +kernel
theorem dX12_stand_72 : decode cX12_stand 72 = .ok (.getfield 20, 3) := by decide +kernel
theorem dX12_stand_75 : decode cX12_stand 75 = .ok (.iload_n 3, 1) := by decide +kernel
theorem dX12_stand_76 : decode cX12_stand 76 = .ok (.aload_n 0, 1) := by decide +kernel
theorem dX12_stand_77 : decode cX12_stand 77 = .ok (.iload 9, 2) := by decide +kernel
theorem dX12_stand_79 : decode cX12_stand 79 = .ok (.invokevirtual 240, 3) := by decide +kernel
theorem dX12_stand_82 : decode cX12_stand 82 = .ok (.iastore, 1) := by decide +kernel
theorem dX12_stand_83 : decode cX12_stand 83 = .ok (.aload_n 0, 1) := by decide +kernel
theorem dX12_stand_84 : decode cX12_stand 84 = .ok (.invokevirtual 282, 3) := by decide +kernel
theorem dX12_stand_87 : decode cX12_stand 87 = .ok (.istore 10, 2) := by decide +kernel
theorem dX12_stand_89 : decode cX12_stand 89 = .ok (.iload 7, 2) := by decide +kernel
theorem dX12_stand_91 : decode cX12_stand 91 = .ok (.iconst (-1), 1) := by decide +kernel
theorem dX12_stand_92 : decode cX12_stand 92 = .ok (.if_icmp .eq 28, 3) := by decide +kernel
theorem dX12_stand_95 : decode cX12_stand 95 = .ok (.iload 4, 2) := by decide +kernel
theorem dX12_stand_97 : decode cX12_stand 97 = .ok (.ifCond .eq 13, 3) := by decide +kernel
theorem dX12_stand_100 : decode cX12_stand 100 = .ok (.iload 10, 2) := by decide +kernel
theorem dX12_stand_102 : decode cX12_stand 102 = .ok (.iload 8, 2) := by decide +kernel
theorem dX12_stand_104 : decode cX12_stand 104 = .ok (.if_icmp .lt 16, 3) := by decide +kernel
theorem dX12_stand_107 : decode cX12_stand 107 = .ok (.goto 21, 3) := by decide +kernel
theorem dX12_stand_110 : decode cX12_stand 110 = .ok (.iload 10, 2) := by decide +kernel
theorem dX12_stand_112 : decode cX12_stand 112 = .ok (.iload 8, 2) := by decide +kernel
theorem dX12_stand_114 : decode cX12_stand 114 = .ok (.if_icmp .gt 6, 3) := by decide +kernel
theorem dX12_stand_117 : decode cX12_stand 117 = .ok (.goto 11, 3) := by decide +kernel
theorem dX12_stand_120 : decode cX12_stand 120 = .ok (.iload 9, 2) := by decide +kernel
theorem dX12_stand_122 : decode cX12_stand 122 = .ok (.istore 7, 2) := by decide +kernel
theorem dX12_stand_124 : decode cX12_stand 124 = .ok (.iload 10, 2) := by decide +kernel
theorem dX12_stand_126 : decode cX12_stand 126 = .ok (.istore 8, 2) := by decide +kernel
theorem dX12_stand_128 : decode cX12_stand 128 = .ok (.iinc 9 1, 3) := by decide +kernel
theorem dX12_stand_131 : decode cX12_stand 131 = .ok (.goto (-95), 3) := by decide +kernel
theorem dX12_stand_134 : decode cX12_stand 134 = .ok (.iload 5, 2) := by decide +kernel
theorem dX12_stand_136 : decode cX12_stand 136 = .ok (.ifCond .eq 8, 3) := by decide +kernel
theorem dX12_stand_139 : decode cX12_stand 139 = .ok (.iload 8, 2) := by decide +kernel
theorem dX12_stand_141 : decode cX12_stand 141 = .ok (.goto 5, 3) := by decide +kernel
theorem dX12_stand_144 : decode cX12_stand 144 = .ok (.iload 7, 2) := by decide +kernel
theorem dX12_stand_146 : decode cX12_stand 146 = .ok (.ireturn, 1) := by decide +kernel
theorem dX12_together_0 : decode cX12_together 0 = .ok (.aload_n 0, 1) := by decide +kernel
theorem dX12_together_1 : decode cX12_together 1 = .ok (.iload_n 1, 1) := by decide +kernel
theorem dX12_together_2 : decode cX12_together 2 = .ok (.iload_n 2, 1) := by decide +kernel
theorem dX12_together_3 : decode cX12_together 3 = .ok (.invokevirtual 279, 3) := by decide +kernel
theorem dX12_together_6 : decode cX12_together 6 = .ok (.ifCond .eq 26, 3) := by decide +kernel
theorem dX12_together_9 : decode cX12_together 9 = .ok (.aload_n 0, 1) := by decide +kernel
theorem dX12_together_10 : decode cX12_together 10 = .ok (.iload_n 3, 1) := by decide +kernel
theorem dX12_together_11 : decode cX12_together 11 = .ok (.invokevirtual 228, 3) := by decide +kernel
theorem dX12_together_14 : decode cX12_together 14 = .ok (.ifCond .eq 18, 3) := by decide +kernel
theorem dX12_together_17 : decode cX12_together 17 = .ok (.aload_n 0, 1) := by decide +kernel
theorem dX12_together_18 : decode cX12_together 18 = .ok (.iload 4, 2) := by decide +kernel
theorem dX12_together_20 : decode cX12_together 20 = .ok (.invokevirtual 228, 3) := by decide +kernel
theorem dX12_together_23 : decode cX12_together 23 = .ok (.ifCond .eq 9, 3) := by decide +kernel
theorem dX12_together_26 : decode cX12_together 26 = .ok (.iload_n 3, 1) := by decide +kernel
theorem dX12_together_27 : decode cX12_together 27 = .ok (.iload 4, 2) := by decide +kernel
theorem dX12_together_29 : decode cX12_together 29 = .ok (.if_icmp .ne 5, 3) := by decide +kernel
theorem dX12_together_32 : decode cX12_together 32 = .ok (.iconst (-1), 1) := by decide +kernel
theorem dX12_together_33 : decode cX12_together 33 = .ok (.ireturn, 1) := by decide +kernel
theorem dX12_together_34 : decode cX12_together 34 = .ok (.aload_n 0, 1) := by decide +kernel
theorem dX12_together_35 : decode cX12_together 35 = .ok (.getfield 20, 3) := by decide +kernel
theorem dX12_together_38 : decode cX12_together 38 = .ok (.iload_n 3, 1) := by decide +kernel
theorem dX12_together_39 : decode cX12_together 39 = .ok (.iaload, 1) := by decide +kernel
theorem dX12_together_40 : decode cX12_together 40 = .ok (.istore 6, 2) := by decide +kernel
theorem dX12_together_42 : decode cX12_together 42 = .ok (.aload_n 0, 1) := by decide +kernel
theorem dX12_together_43 : decode cX12_together 43 = .ok (.getfield 20, 3) := by decide +kernel
theorem dX12_together_46 : decode cX12_together 46 = .ok (.iload 4, 2) := by decide +kernel
theorem dX12_together_48 : decode cX12_together 48 = .ok (.iaload, 1) := by decide +kernel
theorem dX12_together_49 : decode cX12_together 49 = .ok (.istore 7, 2) := by decide +kernel
theorem dX12_together_51 : decode cX12_together 51 = .ok (.iconst (-1), 1) := by decide +kernel
theorem dX12_together_52 : decode cX12_together 52 = .ok (.istore 8, 2) := by decide +kernel
theorem dX12_together_54 : decode cX12_together 54 = .ok (.iconst 0, 1) := by decide +kernel
theorem dX12_together_55 : decode cX12_together 55 = .ok (.istore 9, 2) := by decide +kernel
theorem dX12_together_57 : decode cX12_together 57 = .ok (.iconst 0, 1) := by decide +kernel
theorem dX12_together_58 : decode cX12_together 58 = .ok (.istore 10, 2) := by decide +kernel
theorem dX12_together_60 : decode cX12_together 60 = .ok (.iload 10, 2) := by decide +kernel
theorem dX12_together_62 : decode cX12_together 62 = .ok (.sipush 4096, 3) := by decide +kernel
theorem dX12_together_65 : decode cX12_together 65 = .ok (.if_icmp .ge 155, 3) := by decide +kernel
theorem dX12_together_68 : decode cX12_together 68 = .ok (.iload 10, 2) := by decide +kernel
theorem dX12_together_70 : decode cX12_together 70 = .ok (.bipush 64, 2) := by decide +kernel
theorem dX12_together_72 : decode cX12_together 72 = .ok (.idiv, 1) := by decide +kernel
theorem dX12_together_73 : decode cX12_together 73 = .ok (.istore 11, 2) := by decide +kernel
theorem dX12_together_75 : decode cX12_together 75 = .ok (.iload 10, 2) := by decide +kernel
theorem dX12_together_77 : decode cX12_together 77 = .ok (.bipush 64, 2) := by decide +kernel
theorem dX12_together_79 : decode cX12_together 79 = .ok (.irem, 1) := by decide +kernel
theorem dX12_together_80 : decode cX12_together 80 = .ok (.istore 12, 2) := by decide +kernel
theorem dX12_together_82 : decode cX12_together 82 = .ok (.aload_n 0, 1) := by decide +kernel
theorem dX12_together_83 : decode cX12_together 83 = .ok (.getfield 20, 3) := by decide +kernel
theorem dX12_together_86 : decode cX12_together 86 = .ok (.iload_n 3, 1) := by decide +kernel
theorem dX12_together_87 : decode cX12_together 87 = .ok (.iload 6, 2) := by decide +kernel
theorem dX12_together_89 : decode cX12_together 89 = .ok (.iastore, 1) := by decide +kernel
theorem dX12_together_90 : decode cX12_together 90 = .ok (.aload_n 0, 1) := by decide +kernel
theorem dX12_together_91 : decode cX12_together 91 = .ok (.getfield 20, 3) := by decide +kernel
theorem dX12_together_94 : decode cX12_together 94 = .ok (.iload 4, 2) := by decide +kernel
theorem dX12_together_96 : decode cX12_together 96 = .ok (.iload 7, 2) := by decide +kernel
theorem dX12_together_98 : decode cX12_together 98 = .ok (.iastore, 1) := by decide +kernel
theorem dX12_together_99 : decode cX12_together 99 = .ok (.iload 11, 2) := by decide +kernel
theorem dX12_together_101 : decode cX12_together 101 = .ok (.iload 12, 2) := by decide +kernel
theorem dX12_together_103 : decode cX12_together 103 = .ok (.if_icmp .eq 111, 3) := by decide +kernel
theorem dX12_together_106 : decode cX12_together 106 = .ok (.aload_n 0, 1) := by decide +kernel
theorem dX12_together_107 : decode cX12_together 107 = .ok (.iload 11, 2) := by decide +kernel
theorem dX12_together_109 : decode cX12_together 109 = .ok (.invokevirtual 237, 3) := by decide +kernel
theorem dX12_together_112 : decode cX12_together 112 = .ok (.ifCond .eq 102, 3) := by decide +kernel
theorem dX12_together_115 : decode cX12_together 115 = .ok (.aload_n 0, 1) := by decide +kernel
theorem dX12_together_116 : decode cX12_together 116 = .ok (.iload 12, 2) := by decide +kernel
theorem dX12_together_118 : decode cX12_together 118 = .ok (.invokevirtual 237, 3) := by decide +kernel
theorem dX12_together_121 : decode cX12_together 121 = .ok (.ifCond .eq 93, 3) := by decide +kernel
theorem dX12_together_124 : decode cX12_together 124 = .ok (.aload_n 0, 1) := by decide +kernel
theorem dX12_together_125 : decode cX12_together 125 = .ok (.aload_n 0, 1) := by decide +kernel
theorem dX12_together_126 : decode cX12_together 126 = .ok (.iload 11, 2) := by decide +kernel
theorem dX12_together_128 : decode cX12_together 128 = .ok (.invokevirtual 240, 3) := by decide +kernel
theorem dX12_together_131 : decode cX12_together 131 = .ok (.iload_n 3, 1) := by decide +kernel
theorem dX12_together_132 : decode cX12_together 132 = .ok (.iload 4, 2) := by decide +kernel
theorem dX12_together_134 : decode cX12_together 134 = .ok (.invokevirtual 328, 3) := by decide +kernel
theorem dX12_together_137 : decode cX12_together 137 = .ok (.ifCond .eq 77, 3) := by decide +kernel
theorem dX12_together_140 : decode cX12_together 140 = .ok (.aload_n 0, 1) := by decide +kernel
theorem dX12_together_141 : decode cX12_together 141 = .ok (.aload_n 0, 1) := by decide +kernel
theorem dX12_together_142 : decode cX12_together 142 = .ok (.iload 12, 2) := by decide +kernel
theorem dX12_together_144 : decode cX12_together 144 = .ok (.invokevirtual 240, 3) := by decide +kernel
theorem dX12_together_147 : decode cX12_together 147 = .ok (.iload_n 3, 1) := by decide +kernel
theorem dX12_together_148 : decode cX12_together 148 = .ok (.iload 4, 2) := by decide +kernel
theorem dX12_together_150 : decode cX12_together 150 = .ok (.invokevirtual 328, 3) := by decide +kernel
theorem dX12_together_153 : decode cX12_together 153 = .ok (.ifCond .ne 6, 3) := by decide +kernel
theorem dX12_together_156 : decode cX12_together 156 = .ok (.goto 58, 3) := by decide +kernel
theorem dX12_together_159 : decode cX12_together 159 = .ok (.aload_n 0, 1) := by decide +kernel
theorem dX12_together_160 : decode cX12_together 160 = .ok (.getfield 20, 3) := by decide +kernel
theorem dX12_together_163 : decode cX12_together 163 = .ok (.iload_n 3, 1) := by decide +kernel
theorem dX12_together_164 : decode cX12_together 164 = .ok (.aload_n 0, 1) := by decide +kernel
theorem dX12_together_165 : decode cX12_together 165 = .ok (.iload 11, 2) := by decide +kernel
theorem dX12_together_167 : decode cX12_together 167 = .ok (.invokevirtual 240, 3) := by decide +kernel
theorem dX12_together_170 : decode cX12_together 170 = .ok (.iastore, 1) := by decide +kernel
theorem dX12_together_171 : decode cX12_together 171 = .ok (.aload_n 0, 1) := by decide +kernel
theorem dX12_together_172 : decode cX12_together 172 = .ok (.getfield 20, 3) := by decide +kernel
theorem dX12_together_175 : decode cX12_together 175 = .ok (.iload 4, 2) := by decide +kernel
theorem dX12_together_177 : decode cX12_together 177 = .ok (.aload_n 0, 1) := by decide +kernel
theorem dX12_together_178 : decode cX12_together 178 = .ok (.iload 12, 2) := by decide +kernel
theorem dX12_together_180 : decode cX12_together 180 = .ok (.invokevirtual 240, 3) := by decide +kernel
theorem dX12_together_183 : decode cX12_together 183 = .ok (.iastore, 1) := by decide +kernel
theorem dX12_together_184 : decode cX12_together 184 = .ok (.aload_n 0, 1) := by decide +kernel
theorem dX12_together_185 : decode cX12_together 185 = .ok (.invokevirtual 282, 3) := by decide +kernel
theorem dX12_together_188 : decode cX12_together 188 = .ok (.istore 13, 2) := by decide +kernel
theorem dX12_together_190 : decode cX12_together 190 = .ok (.iload 8, 2) := by decide +kernel
theorem dX12_together_192 : decode cX12_together 192 = .ok (.iconst (-1), 1) := by decide +kernel
theorem dX12_together_193 : decode cX12_together 193 = .ok (.if_icmp .eq 13, 3) := by decide +kernel
theorem dX12_together_196 : decode cX12_together 196 = .ok (.iload 13, 2) := by decide +kernel
theorem dX12_together_198 : decode cX12_together 198 = .ok (.iload 9, 2) := by decide +kernel
theorem dX12_together_200 : decode cX12_together 200 = .ok (.if_icmp .gt 6, 3) := by decide +kernel
theorem dX12_together_203 : decode cX12_together 203 = .ok (.goto 11, 3) := by decide +kernel
theorem dX12_together_206 : decode cX12_together 206 = .ok (.iload 10, 2) := by decide +kernel
theorem dX12_together_208 : decode cX12_together 208 = .ok (.istore 8, 2) := by decide +kernel
theorem dX12_together_210 : decode cX12_together 210 = .ok (.iload 13, 2) := by decide +kernel
theorem dX12_together_212 : decode cX12_together 212 = .ok (.istore 9, 2) := by decide +kernel
theorem dX12_together_214 : decode cX12_together 214 = .ok (.iinc 10 1, 3) := by decide +kernel
theorem dX12_together_217 : decode cX12_together 217 = .ok (.goto (-157), 3) := by decide +kernel
theorem dX12_together_220 : decode cX12_together 220 = .ok (.iload 5, 2) := by decide +kernel
theorem dX12_together_222 : decode cX12_together 222 = .ok (.ifCond .eq 8, 3) := by decide +kernel
theorem dX12_together_225 : decode cX12_together 225 = .ok (.iload 9, 2) := by decide +kernel
theorem dX12_together_227 : decode cX12_together 227 = .ok (.goto 5, 3) := by decide +kernel
theorem dX12_together_230 : decode cX12_together 230 = .ok (.iload 8, 2) := by decide +kernel
theorem dX12_together_232 : decode cX12_together 232 = .ok (.ireturn, 1) := by decide +kernel
theorem dX12_turned_0 : decode cX12_turned 0 = .ok (.aload_n 0, 1) := by decide +kernel
theorem dX12_turned_1 : decode cX12_turned 1 = .ok (.iload_n 1, 1) := by decide +kernel
theorem dX12_turned_2 : decode cX12_turned 2 = .ok (.iload_n 2, 1) := by decide +kernel
theorem dX12_turned_3 : decode cX12_turned 3 = .ok (.invokevirtual 279, 3) := by decide +kernel
theorem dX12_turned_6 : decode cX12_turned 6 = .ok (.ifCond .eq 11, 3) := by decide +kernel
theorem dX12_turned_9 : decode cX12_turned 9 = .ok (.aload_n 0, 1) := by decide +kernel
theorem dX12_turned_10 : decode cX12_turned 10 = .ok (.iload_n 3, 1) := by decide +kernel
theorem dX12_turned_11 : decode cX12_turned 11 = .ok (.invokevirtual 234, 3) := by decide +kernel
theorem dX12_turned_14 : decode cX12_turned 14 = .ok (.ifCond .ne 5, 3) := by decide +kernel
theorem dX12_turned_17 : decode cX12_turned 17 = .ok (.iconst (-1), 1) := by decide +kernel
theorem dX12_turned_18 : decode cX12_turned 18 = .ok (.ireturn, 1) := by decide +kernel
theorem dX12_turned_19 : decode cX12_turned 19 = .ok (.iconst (-1), 1) := by decide +kernel
theorem dX12_turned_20 : decode cX12_turned 20 = .ok (.istore 5, 2) := by decide +kernel
theorem dX12_turned_22 : decode cX12_turned 22 = .ok (.iconst 0, 1) := by decide +kernel
theorem dX12_turned_23 : decode cX12_turned 23 = .ok (.istore 6, 2) := by decide +kernel
theorem dX12_turned_25 : decode cX12_turned 25 = .ok (.iconst 0, 1) := by decide +kernel
theorem dX12_turned_26 : decode cX12_turned 26 = .ok (.istore 7, 2) := by decide +kernel
theorem dX12_turned_28 : decode cX12_turned 28 = .ok (.iload 7, 2) := by decide +kernel
theorem dX12_turned_30 : decode cX12_turned 30 = .ok (.bipush 8, 2) := by decide +kernel
theorem dX12_turned_32 : decode cX12_turned 32 = .ok (.if_icmp .ge 47, 3) := by decide +kernel
theorem dX12_turned_35 : decode cX12_turned 35 = .ok (.aload_n 0, 1) := by decide +kernel
theorem dX12_turned_36 : decode cX12_turned 36 = .ok (.getfield 32, 3) := by decide +kernel
theorem dX12_turned_39 : decode cX12_turned 39 = .ok (.iload_n 3, 1) := by decide +kernel
theorem dX12_turned_40 : decode cX12_turned 40 = .ok (.iload 7, 2) := by decide +kernel
theorem dX12_turned_42 : decode cX12_turned 42 = .ok (.iastore, 1) := by decide +kernel
theorem dX12_turned_43 : decode cX12_turned 43 = .ok (.aload_n 0, 1) := by decide +kernel
theorem dX12_turned_44 : decode cX12_turned 44 = .ok (.invokevirtual 282, 3) := by decide +kernel
theorem dX12_turned_47 : decode cX12_turned 47 = .ok (.istore 8, 2) := by decide +kernel
theorem dX12_turned_49 : decode cX12_turned 49 = .ok (.iload 5, 2) := by decide +kernel
theorem dX12_turned_51 : decode cX12_turned 51 = .ok (.iconst (-1), 1) := by decide +kernel
theorem dX12_turned_52 : decode cX12_turned 52 = .ok (.if_icmp .eq 13, 3) := by decide +kernel
theorem dX12_turned_55 : decode cX12_turned 55 = .ok (.iload 8, 2) := by decide +kernel
theorem dX12_turned_57 : decode cX12_turned 57 = .ok (.iload 6, 2) := by decide +kernel
theorem dX12_turned_59 : decode cX12_turned 59 = .ok (.if_icmp .gt 6, 3) := by decide +kernel
theorem dX12_turned_62 : decode cX12_turned 62 = .ok (.goto 11, 3) := by decide +kernel
theorem dX12_turned_65 : decode cX12_turned 65 = .ok (.iload 7, 2) := by decide +kernel
theorem dX12_turned_67 : decode cX12_turned 67 = .ok (.istore 5, 2) := by decide +kernel
theorem dX12_turned_69 : decode cX12_turned 69 = .ok (.iload 8, 2) := by decide +kernel
theorem dX12_turned_71 : decode cX12_turned 71 = .ok (.istore 6, 2) := by decide +kernel
theorem dX12_turned_73 : decode cX12_turned 73 = .ok (.iinc 7 1, 3) := by decide +kernel
theorem dX12_turned_76 : decode cX12_turned 76 = .ok (.goto (-48), 3) := by decide +kernel
theorem dX12_turned_79 : decode cX12_turned 79 = .ok (.iload 4, 2) := by decide +kernel
theorem dX12_turned_81 : decode cX12_turned 81 = .ok (.ifCond .eq 8, 3) := by decide +kernel
theorem dX12_turned_84 : decode cX12_turned 84 = .ok (.iload 6, 2) := by decide +kernel
theorem dX12_turned_86 : decode cX12_turned 86 = .ok (.goto 5, 3) := by decide +kernel
theorem dX12_turned_89 : decode cX12_turned 89 = .ok (.iload 5, 2) := by decide +kernel
theorem dX12_turned_91 : decode cX12_turned 91 = .ok (.ireturn, 1) := by decide +kernel
theorem dX12_spoon_0 : decode cX12_spoon 0 = .ok (.aload_n 0, 1) := by decide +kernel
theorem dX12_spoon_1 : decode cX12_spoon 1 = .ok (.iload_n 1, 1) := by decide +kernel
theorem dX12_spoon_2 : decode cX12_spoon 2 = .ok (.iload_n 2, 1) := by decide +kernel
theorem dX12_spoon_3 : decode cX12_spoon 3 = .ok (.invokevirtual 279, 3) := by decide +kernel
theorem dX12_spoon_6 : decode cX12_spoon 6 = .ok (.ifCond .eq 21, 3) := by decide +kernel
theorem dX12_spoon_9 : decode cX12_spoon 9 = .ok (.iload_n 3, 1) := by decide +kernel
theorem dX12_spoon_10 : decode cX12_spoon 10 = .ok (.iconst 0, 1) := by decide +kernel
theorem dX12_spoon_11 : decode cX12_spoon 11 = .ok (.iconst 3, 1) := by decide +kernel
theorem dX12_spoon_12 : decode cX12_spoon 12 = .ok (.invokestatic 141, 3) := by decide +kernel
theorem dX12_spoon_15 : decode cX12_spoon 15 = .ok (.ifCond .eq 12, 3) := by decide +kernel
theorem dX12_spoon_18 : decode cX12_spoon 18 = .ok (.aload_n 0, 1) := by decide +kernel
theorem dX12_spoon_19 : decode cX12_spoon 19 = .ok (.getfield 216, 3) := by decide +kernel
theorem dX12_spoon_22 : decode cX12_spoon 22 = .ok (.bipush 8, 2) := by decide +kernel
theorem dX12_spoon_24 : decode cX12_spoon 24 = .ok (.if_icmp .ne 5, 3) := by decide +kernel
theorem dX12_spoon_27 : decode cX12_spoon 27 = .ok (.iconst (-1), 1) := by decide +kernel
theorem dX12_spoon_28 : decode cX12_spoon 28 = .ok (.ireturn, 1) := by decide +kernel
theorem dX12_spoon_29 : decode cX12_spoon 29 = .ok (.iconst (-1), 1) := by decide +kernel
theorem dX12_spoon_30 : decode cX12_spoon 30 = .ok (.istore 5, 2) := by decide +kernel
theorem dX12_spoon_32 : decode cX12_spoon 32 = .ok (.iconst 0, 1) := by decide +kernel
theorem dX12_spoon_33 : decode cX12_spoon 33 = .ok (.istore 6, 2) := by decide +kernel
theorem dX12_spoon_35 : decode cX12_spoon 35 = .ok (.aload_n 0, 1) := by decide +kernel
theorem dX12_spoon_36 : decode cX12_spoon 36 = .ok (.getfield 216, 3) := by decide +kernel
theorem dX12_spoon_39 : decode cX12_spoon 39 = .ok (.istore 7, 2) := by decide +kernel
theorem dX12_spoon_41 : decode cX12_spoon 41 = .ok (.iconst 0, 1) := by decide +kernel
theorem dX12_spoon_42 : decode cX12_spoon 42 = .ok (.istore 8, 2) := by decide +kernel
theorem dX12_spoon_44 : decode cX12_spoon 44 = .ok (.aload_n 0, 1) := by decide +kernel
theorem dX12_spoon_45 : decode cX12_spoon 45 = .ok (.iload 8, 2) := by decide +kernel
theorem dX12_spoon_47 : decode cX12_spoon 47 = .ok (.bipush 8, 2) := by decide +kernel
theorem dX12_spoon_49 : decode cX12_spoon 49 = .ok (.idiv, 1) := by decide +kernel
theorem dX12_spoon_50 : decode cX12_spoon 50 = .ok (.invokevirtual 237, 3) := by decide +kernel
theorem dX12_spoon_53 : decode cX12_spoon 53 = .ok (.ifCond .eq 131, 3) := by decide +kernel
theorem dX12_spoon_56 : decode cX12_spoon 56 = .ok (.aload_n 0, 1) := by decide +kernel
theorem dX12_spoon_57 : decode cX12_spoon 57 = .ok (.iload 7, 2) := by decide +kernel
theorem dX12_spoon_59 : decode cX12_spoon 59 = .ok (.putfield 216, 3) := by decide +kernel
theorem dX12_spoon_62 : decode cX12_spoon 62 = .ok (.aload_n 0, 1) := by decide +kernel
theorem dX12_spoon_63 : decode cX12_spoon 63 = .ok (.aload_n 0, 1) := by decide +kernel
theorem dX12_spoon_64 : decode cX12_spoon 64 = .ok (.iload 8, 2) := by decide +kernel
theorem dX12_spoon_66 : decode cX12_spoon 66 = .ok (.bipush 8, 2) := by decide +kernel
theorem dX12_spoon_68 : decode cX12_spoon 68 = .ok (.idiv, 1) := by decide +kernel
theorem dX12_spoon_69 : decode cX12_spoon 69 = .ok (.invokevirtual 240, 3) := by decide +kernel
theorem dX12_spoon_72 : decode cX12_spoon 72 = .ok (.invokevirtual 243, 3) := by decide +kernel
theorem dX12_spoon_75 : decode cX12_spoon 75 = .ok (.ifCond .eq 6, 3) := by decide +kernel
theorem dX12_spoon_78 : decode cX12_spoon 78 = .ok (.goto 100, 3) := by decide +kernel
theorem dX12_spoon_81 : decode cX12_spoon 81 = .ok (.aload_n 0, 1) := by decide +kernel
theorem dX12_spoon_82 : decode cX12_spoon 82 = .ok (.getfield 26, 3) := by decide +kernel
theorem dX12_spoon_85 : decode cX12_spoon 85 = .ok (.iload 7, 2) := by decide +kernel
theorem dX12_spoon_87 : decode cX12_spoon 87 = .ok (.iconst 1, 1) := by decide +kernel
theorem dX12_spoon_88 : decode cX12_spoon 88 = .ok (.iastore, 1) := by decide +kernel
theorem dX12_spoon_89 : decode cX12_spoon 89 = .ok (.aload_n 0, 1) := by decide +kernel
theorem dX12_spoon_90 : decode cX12_spoon 90 = .ok (.getfield 29, 3) := by decide +kernel
theorem dX12_spoon_93 : decode cX12_spoon 93 = .ok (.iload 7, 2) := by decide +kernel
theorem dX12_spoon_95 : decode cX12_spoon 95 = .ok (.aload_n 0, 1) := by decide +kernel
theorem dX12_spoon_96 : decode cX12_spoon 96 = .ok (.iload 8, 2) := by decide +kernel
theorem dX12_spoon_98 : decode cX12_spoon 98 = .ok (.bipush 8, 2) := by decide +kernel
theorem dX12_spoon_100 : decode cX12_spoon 100 = .ok (.idiv, 1) := by decide +kernel
theorem dX12_spoon_101 : decode cX12_spoon 101 = .ok (.invokevirtual 240, 3) := by decide +kernel
theorem dX12_spoon_104 : decode cX12_spoon 104 = .ok (.iastore, 1) := by decide +kernel
theorem dX12_spoon_105 : decode cX12_spoon 105 = .ok (.aload_n 0, 1) := by decide +kernel
theorem dX12_spoon_106 : decode cX12_spoon 106 = .ok (.getfield 32, 3) := by decide +kernel
theorem dX12_spoon_109 : decode cX12_spoon 109 = .ok (.iload 7, 2) := by decide +kernel
theorem dX12_spoon_111 : decode cX12_spoon 111 = .ok (.iload 8, 2) := by decide +kernel
theorem dX12_spoon_113 : decode cX12_spoon 113 = .ok (.bipush 8, 2) := by decide +kernel
theorem dX12_spoon_115 : decode cX12_spoon 115 = .ok (.irem, 1) := by decide +kernel
theorem dX12_spoon_116 : decode cX12_spoon 116 = .ok (.iastore, 1) := by decide +kernel
theorem dX12_spoon_117 : decode cX12_spoon 117 = .ok (.aload_n 0, 1) := by decide +kernel
theorem dX12_spoon_118 : decode cX12_spoon 118 = .ok (.getfield 35, 3) := by decide +kernel
theorem dX12_spoon_121 : decode cX12_spoon 121 = .ok (.iload 7, 2) := by decide +kernel
theorem dX12_spoon_123 : decode cX12_spoon 123 = .ok (.bipush 9, 2) := by decide +kernel
theorem dX12_spoon_125 : decode cX12_spoon 125 = .ok (.iastore, 1) := by decide +kernel
theorem dX12_spoon_126 : decode cX12_spoon 126 = .ok (.aload_n 0, 1) := by decide +kernel
theorem dX12_spoon_127 : decode cX12_spoon 127 = .ok (.getfield 38, 3) := by decide +kernel
theorem dX12_spoon_130 : decode cX12_spoon 130 = .ok (.iload 7, 2) := by decide +kernel
theorem dX12_spoon_132 : decode cX12_spoon 132 = .ok (.iload_n 3, 1) := by decide +kernel
theorem dX12_spoon_133 : decode cX12_spoon 133 = .ok (.iastore, 1) := by decide +kernel
theorem dX12_spoon_134 : decode cX12_spoon 134 = .ok (.aload_n 0, 1) := by decide +kernel
theorem dX12_spoon_135 : decode cX12_spoon 135 = .ok (.iload 7, 2) := by decide +kernel
theorem dX12_spoon_137 : decode cX12_spoon 137 = .ok (.iconst 1, 1) := by decide +kernel
theorem dX12_spoon_138 : decode cX12_spoon 138 = .ok (.iadd, 1) := by decide +kernel
theorem dX12_spoon_139 : decode cX12_spoon 139 = .ok (.putfield 216, 3) := by decide +kernel
theorem dX12_spoon_142 : decode cX12_spoon 142 = .ok (.aload_n 0, 1) := by decide +kernel
theorem dX12_spoon_143 : decode cX12_spoon 143 = .ok (.invokevirtual 291, 3) := by decide +kernel
theorem dX12_spoon_146 : decode cX12_spoon 146 = .ok (.iload 5, 2) := by decide +kernel
theorem dX12_spoon_148 : decode cX12_spoon 148 = .ok (.iconst (-1), 1) := by decide +kernel
theorem dX12_spoon_149 : decode cX12_spoon 149 = .ok (.if_icmp .eq 17, 3) := by decide +kernel
theorem dX12_spoon_152 : decode cX12_spoon 152 = .ok (.aload_n 0, 1) := by decide +kernel
theorem dX12_spoon_153 : decode cX12_spoon 153 = .ok (.getfield 53, 3) := by decide +kernel
theorem dX12_spoon_156 : decode cX12_spoon 156 = .ok (.iload_n 3, 1) := by decide +kernel
theorem dX12_spoon_157 : decode cX12_spoon 157 = .ok (.iaload, 1) := by decide +kernel
theorem dX12_spoon_158 : decode cX12_spoon 158 = .ok (.iload 6, 2) := by decide +kernel
theorem dX12_spoon_160 : decode cX12_spoon 160 = .ok (.if_icmp .gt 6, 3) := by decide +kernel
theorem dX12_spoon_163 : decode cX12_spoon 163 = .ok (.goto 15, 3) := by decide +kernel
theorem dX12_spoon_166 : decode cX12_spoon 166 = .ok (.iload 8, 2) := by decide +kernel
theorem dX12_spoon_168 : decode cX12_spoon 168 = .ok (.istore 5, 2) := by decide +kernel
theorem dX12_spoon_170 : decode cX12_spoon 170 = .ok (.aload_n 0, 1) := by decide +kernel
theorem dX12_spoon_171 : decode cX12_spoon 171 = .ok (.getfield 53, 3) := by decide +kernel
theorem dX12_spoon_174 : decode cX12_spoon 174 = .ok (.iload_n 3, 1) := by decide +kernel
theorem dX12_spoon_175 : decode cX12_spoon 175 = .ok (.iaload, 1) := by decide +kernel
theorem dX12_spoon_176 : decode cX12_spoon 176 = .ok (.istore 6, 2) := by decide +kernel
theorem dX12_spoon_178 : decode cX12_spoon 178 = .ok (.iinc 8 1, 3) := by decide +kernel
theorem dX12_spoon_181 : decode cX12_spoon 181 = .ok (.goto (-137), 3) := by decide +kernel
theorem dX12_spoon_184 : decode cX12_spoon 184 = .ok (.iload 5, 2) := by decide +kernel
theorem dX12_spoon_186 : decode cX12_spoon 186 = .ok (.iconst (-1), 1) := by decide +kernel
theorem dX12_spoon_187 : decode cX12_spoon 187 = .ok (.if_icmp .eq 8, 3) := by decide +kernel
theorem dX12_spoon_190 : decode cX12_spoon 190 = .ok (.iload 4, 2) := by decide +kernel
theorem dX12_spoon_192 : decode cX12_spoon 192 = .ok (.ifCond .ne 8, 3) := by decide +kernel
theorem dX12_spoon_195 : decode cX12_spoon 195 = .ok (.iload 5, 2) := by decide +kernel
theorem dX12_spoon_197 : decode cX12_spoon 197 = .ok (.goto 5, 3) := by decide +kernel
theorem dX12_spoon_200 : decode cX12_spoon 200 = .ok (.iload 6, 2) := by decide +kernel
theorem dX12_spoon_202 : decode cX12_spoon 202 = .ok (.ireturn, 1) := by decide +kernel
theorem dX12_leastOf_0 : decode cX12_leastOf 0 = .ok (.iconst 0, 1) := by decide +kernel
theorem dX12_leastOf_1 : decode cX12_leastOf 1 = .ok (.istore_n 2, 1) := by decide +kernel
theorem dX12_leastOf_2 : decode cX12_leastOf 2 = .ok (.iload_n 2, 1) := by decide +kernel
theorem dX12_leastOf_3 : decode cX12_leastOf 3 = .ok (.aload_n 0, 1) := by decide +kernel
theorem dX12_leastOf_4 : decode cX12_leastOf 4 = .ok (.getfield 216, 3) := by decide +kernel
theorem dX12_leastOf_7 : decode cX12_leastOf 7 = .ok (.if_icmp .ge 21, 3) := by decide +kernel
theorem dX12_leastOf_10 : decode cX12_leastOf 10 = .ok (.aload_n 0, 1) := by decide +kernel
theorem dX12_leastOf_11 : decode cX12_leastOf 11 = .ok (.getfield 38, 3) := by decide +kernel
theorem dX12_leastOf_14 : decode cX12_leastOf 14 = .ok (.iload_n 2, 1) := by decide +kernel
theorem dX12_leastOf_15 : decode cX12_leastOf 15 = .ok (.iaload, 1) := by decide +kernel
theorem dX12_leastOf_16 : decode cX12_leastOf 16 = .ok (.iload_n 1, 1) := by decide +kernel
theorem dX12_leastOf_17 : decode cX12_leastOf 17 = .ok (.if_icmp .ne 5, 3) := by decide +kernel
theorem dX12_leastOf_20 : decode cX12_leastOf 20 = .ok (.iload_n 2, 1) := by decide +kernel
theorem dX12_leastOf_21 : decode cX12_leastOf 21 = .ok (.ireturn, 1) := by decide +kernel
theorem dX12_leastOf_22 : decode cX12_leastOf 22 = .ok (.iinc 2 1, 3) := by decide +kernel
theorem dX12_leastOf_25 : decode cX12_leastOf 25 = .ok (.goto (-23), 3) := by decide +kernel
theorem dX12_leastOf_28 : decode cX12_leastOf 28 = .ok (.iconst (-1), 1) := by decide +kernel
theorem dX12_leastOf_29 : decode cX12_leastOf 29 = .ok (.ireturn, 1) := by decide +kernel
theorem dX12_prizeOf_0 : decode cX12_prizeOf 0 = .ok (.aload_n 0, 1) := by decide +kernel
theorem dX12_prizeOf_1 : decode cX12_prizeOf 1 = .ok (.getfield 32, 3) := by decide +kernel
theorem dX12_prizeOf_4 : decode cX12_prizeOf 4 = .ok (.aload_n 0, 1) := by decide +kernel
theorem dX12_prizeOf_5 : decode cX12_prizeOf 5 = .ok (.iconst 0, 1) := by decide +kernel
theorem dX12_prizeOf_6 : decode cX12_prizeOf 6 = .ok (.invokevirtual 331, 3) := by decide +kernel
theorem dX12_prizeOf_9 : decode cX12_prizeOf 9 = .ok (.iload_n 2, 1) := by decide +kernel
theorem dX12_prizeOf_10 : decode cX12_prizeOf 10 = .ok (.bipush 8, 2) := by decide +kernel
theorem dX12_prizeOf_12 : decode cX12_prizeOf 12 = .ok (.idiv, 1) := by decide +kernel
theorem dX12_prizeOf_13 : decode cX12_prizeOf 13 = .ok (.iastore, 1) := by decide +kernel
theorem dX12_prizeOf_14 : decode cX12_prizeOf 14 = .ok (.aload_n 0, 1) := by decide +kernel
theorem dX12_prizeOf_15 : decode cX12_prizeOf 15 = .ok (.getfield 32, 3) := by decide +kernel
theorem dX12_prizeOf_18 : decode cX12_prizeOf 18 = .ok (.aload_n 0, 1) := by decide +kernel
theorem dX12_prizeOf_19 : decode cX12_prizeOf 19 = .ok (.iconst 1, 1) := by decide +kernel
theorem dX12_prizeOf_20 : decode cX12_prizeOf 20 = .ok (.invokevirtual 331, 3) := by decide +kernel
theorem dX12_prizeOf_23 : decode cX12_prizeOf 23 = .ok (.iload_n 2, 1) := by decide +kernel
theorem dX12_prizeOf_24 : decode cX12_prizeOf 24 = .ok (.bipush 8, 2) := by decide +kernel
theorem dX12_prizeOf_26 : decode cX12_prizeOf 26 = .ok (.irem, 1) := by decide +kernel
theorem dX12_prizeOf_27 : decode cX12_prizeOf 27 = .ok (.iastore, 1) := by decide +kernel
theorem dX12_prizeOf_28 : decode cX12_prizeOf 28 = .ok (.aload_n 0, 1) := by decide +kernel
theorem dX12_prizeOf_29 : decode cX12_prizeOf 29 = .ok (.invokevirtual 285, 3) := by decide +kernel
theorem dX12_prizeOf_32 : decode cX12_prizeOf 32 = .ok (.aload_n 0, 1) := by decide +kernel
theorem dX12_prizeOf_33 : decode cX12_prizeOf 33 = .ok (.getfield 50, 3) := by decide +kernel
theorem dX12_prizeOf_36 : decode cX12_prizeOf 36 = .ok (.iload_n 1, 1) := by decide +kernel
theorem dX12_prizeOf_37 : decode cX12_prizeOf 37 = .ok (.iaload, 1) := by decide +kernel
theorem dX12_prizeOf_38 : decode cX12_prizeOf 38 = .ok (.ireturn, 1) := by decide +kernel
theorem dX12_arePlayers_0 : decode cX12_arePlayers 0 = .ok (.aload_n 0, 1) := by decide +kernel
theorem dX12_arePlayers_1 : decode cX12_arePlayers 1 = .ok (.iload_n 1, 1) := by decide +kernel
theorem dX12_arePlayers_2 : decode cX12_arePlayers 2 = .ok (.iload_n 2, 1) := by decide +kernel
theorem dX12_arePlayers_3 : decode cX12_arePlayers 3 = .ok (.invokevirtual 279, 3) := by decide +kernel
theorem dX12_arePlayers_6 : decode cX12_arePlayers 6 = .ok (.ifCond .eq 25, 3) := by decide +kernel
theorem dX12_arePlayers_9 : decode cX12_arePlayers 9 = .ok (.aload_n 0, 1) := by decide +kernel
theorem dX12_arePlayers_10 : decode cX12_arePlayers 10 = .ok (.iconst 0, 1) := by decide +kernel
theorem dX12_arePlayers_11 : decode cX12_arePlayers 11 = .ok (.invokevirtual 331, 3) := by decide +kernel
theorem dX12_arePlayers_14 : decode cX12_arePlayers 14 = .ok (.iconst (-1), 1) := by decide +kernel
theorem dX12_arePlayers_15 : decode cX12_arePlayers 15 = .ok (.if_icmp .eq 16, 3) := by decide +kernel
theorem dX12_arePlayers_18 : decode cX12_arePlayers 18 = .ok (.aload_n 0, 1) := by decide +kernel
theorem dX12_arePlayers_19 : decode cX12_arePlayers 19 = .ok (.iconst 1, 1) := by decide +kernel
theorem dX12_arePlayers_20 : decode cX12_arePlayers 20 = .ok (.invokevirtual 331, 3) := by decide +kernel
theorem dX12_arePlayers_23 : decode cX12_arePlayers 23 = .ok (.iconst (-1), 1) := by decide +kernel
theorem dX12_arePlayers_24 : decode cX12_arePlayers 24 = .ok (.if_icmp .eq 7, 3) := by decide +kernel
theorem dX12_arePlayers_27 : decode cX12_arePlayers 27 = .ok (.iconst 1, 1) := by decide +kernel
theorem dX12_arePlayers_28 : decode cX12_arePlayers 28 = .ok (.goto 4, 3) := by decide +kernel
theorem dX12_arePlayers_31 : decode cX12_arePlayers 31 = .ok (.iconst 0, 1) := by decide +kernel
theorem dX12_arePlayers_32 : decode cX12_arePlayers 32 = .ok (.ireturn, 1) := by decide +kernel
theorem dX12_prize_0 : decode cX12_prize 0 = .ok (.aload_n 0, 1) := by decide +kernel
theorem dX12_prize_1 : decode cX12_prize 1 = .ok (.iload_n 1, 1) := by decide +kernel
theorem dX12_prize_2 : decode cX12_prize 2 = .ok (.iload_n 2, 1) := by decide +kernel
theorem dX12_prize_3 : decode cX12_prize 3 = .ok (.invokevirtual 334, 3) := by decide +kernel
theorem dX12_prize_6 : decode cX12_prize 6 = .ok (.ifCond .eq 33, 3) := by decide +kernel
theorem dX12_prize_9 : decode cX12_prize 9 = .ok (.iload_n 3, 1) := by decide +kernel
theorem dX12_prize_10 : decode cX12_prize 10 = .ok (.iconst 0, 1) := by decide +kernel
theorem dX12_prize_11 : decode cX12_prize 11 = .ok (.iconst 1, 1) := by decide +kernel
theorem dX12_prize_12 : decode cX12_prize 12 = .ok (.invokestatic 141, 3) := by decide +kernel
theorem dX12_prize_15 : decode cX12_prize 15 = .ok (.ifCond .eq 24, 3) := by decide +kernel
theorem dX12_prize_18 : decode cX12_prize 18 = .ok (.iload 4, 2) := by decide +kernel
theorem dX12_prize_20 : decode cX12_prize 20 = .ok (.iconst 0, 1) := by decide +kernel
theorem dX12_prize_21 : decode cX12_prize 21 = .ok (.bipush 63, 2) := by decide +kernel
theorem dX12_prize_23 : decode cX12_prize 23 = .ok (.invokestatic 141, 3) := by decide +kernel
theorem dX12_prize_26 : decode cX12_prize 26 = .ok (.ifCond .eq 13, 3) := by decide +kernel
theorem dX12_prize_29 : decode cX12_prize 29 = .ok (.aload_n 0, 1) := by decide +kernel
theorem dX12_prize_30 : decode cX12_prize 30 = .ok (.iload_n 3, 1) := by decide +kernel
theorem dX12_prize_31 : decode cX12_prize 31 = .ok (.iload 4, 2) := by decide +kernel
theorem dX12_prize_33 : decode cX12_prize 33 = .ok (.invokevirtual 337, 3) := by decide +kernel
theorem dX12_prize_36 : decode cX12_prize 36 = .ok (.goto 4, 3) := by decide +kernel
theorem dX12_prize_39 : decode cX12_prize 39 = .ok (.iconst (-1), 1) := by decide +kernel
theorem dX12_prize_40 : decode cX12_prize 40 = .ok (.ireturn, 1) := by decide +kernel
theorem dX12_isRest_0 : decode cX12_isRest 0 = .ok (.iconst 1, 1) := by decide +kernel
theorem dX12_isRest_1 : decode cX12_isRest 1 = .ok (.istore_n 2, 1) := by decide +kernel
theorem dX12_isRest_2 : decode cX12_isRest 2 = .ok (.iconst 0, 1) := by decide +kernel
theorem dX12_isRest_3 : decode cX12_isRest 3 = .ok (.istore_n 3, 1) := by decide +kernel
theorem dX12_isRest_4 : decode cX12_isRest 4 = .ok (.iload_n 3, 1) := by decide +kernel
theorem dX12_isRest_5 : decode cX12_isRest 5 = .ok (.bipush 8, 2) := by decide +kernel
theorem dX12_isRest_7 : decode cX12_isRest 7 = .ok (.if_icmp .ge 71, 3) := by decide +kernel
theorem dX12_isRest_10 : decode cX12_isRest 10 = .ok (.iload_n 2, 1) := by decide +kernel
theorem dX12_isRest_11 : decode cX12_isRest 11 = .ok (.ifCond .eq 59, 3) := by decide +kernel
theorem dX12_isRest_14 : decode cX12_isRest 14 = .ok (.aload_n 0, 1) := by decide +kernel
theorem dX12_isRest_15 : decode cX12_isRest 15 = .ok (.getfield 65, 3) := by decide +kernel
theorem dX12_isRest_18 : decode cX12_isRest 18 = .ok (.bipush 8, 2) := by decide +kernel
theorem dX12_isRest_20 : decode cX12_isRest 20 = .ok (.iload_n 3, 1) := by decide +kernel
theorem dX12_isRest_21 : decode cX12_isRest 21 = .ok (.imul, 1) := by decide +kernel
theorem dX12_isRest_22 : decode cX12_isRest 22 = .ok (.iload_n 1, 1) := by decide +kernel
theorem dX12_isRest_23 : decode cX12_isRest 23 = .ok (.bipush 8, 2) := by decide +kernel
theorem dX12_isRest_25 : decode cX12_isRest 25 = .ok (.irem, 1) := by decide +kernel
theorem dX12_isRest_26 : decode cX12_isRest 26 = .ok (.iadd, 1) := by decide +kernel
theorem dX12_isRest_27 : decode cX12_isRest 27 = .ok (.iaload, 1) := by decide +kernel
theorem dX12_isRest_28 : decode cX12_isRest 28 = .ok (.aload_n 0, 1) := by decide +kernel
theorem dX12_isRest_29 : decode cX12_isRest 29 = .ok (.getfield 65, 3) := by decide +kernel
theorem dX12_isRest_32 : decode cX12_isRest 32 = .ok (.iload_n 1, 1) := by decide +kernel
theorem dX12_isRest_33 : decode cX12_isRest 33 = .ok (.iaload, 1) := by decide +kernel
theorem dX12_isRest_34 : decode cX12_isRest 34 = .ok (.if_icmp .gt 36, 3) := by decide +kernel
theorem dX12_isRest_37 : decode cX12_isRest 37 = .ok (.aload_n 0, 1) := by decide +kernel
theorem dX12_isRest_38 : decode cX12_isRest 38 = .ok (.getfield 65, 3) := by decide +kernel
theorem dX12_isRest_41 : decode cX12_isRest 41 = .ok (.bipush 64, 2) := by decide +kernel
theorem dX12_isRest_43 : decode cX12_isRest 43 = .ok (.iload_n 1, 1) := by decide +kernel
theorem dX12_isRest_44 : decode cX12_isRest 44 = .ok (.bipush 8, 2) := by decide +kernel
theorem dX12_isRest_46 : decode cX12_isRest 46 = .ok (.idiv, 1) := by decide +kernel
theorem dX12_isRest_47 : decode cX12_isRest 47 = .ok (.bipush 8, 2) := by decide +kernel
theorem dX12_isRest_49 : decode cX12_isRest 49 = .ok (.imul, 1) := by decide +kernel
theorem dX12_isRest_50 : decode cX12_isRest 50 = .ok (.iadd, 1) := by decide +kernel
theorem dX12_isRest_51 : decode cX12_isRest 51 = .ok (.iload_n 3, 1) := by decide +kernel
theorem dX12_isRest_52 : decode cX12_isRest 52 = .ok (.iadd, 1) := by decide +kernel
theorem dX12_isRest_53 : decode cX12_isRest 53 = .ok (.iaload, 1) := by decide +kernel
theorem dX12_isRest_54 : decode cX12_isRest 54 = .ok (.aload_n 0, 1) := by decide +kernel
theorem dX12_isRest_55 : decode cX12_isRest 55 = .ok (.getfield 65, 3) := by decide +kernel
theorem dX12_isRest_58 : decode cX12_isRest 58 = .ok (.bipush 64, 2) := by decide +kernel
theorem dX12_isRest_60 : decode cX12_isRest 60 = .ok (.iload_n 1, 1) := by decide +kernel
theorem dX12_isRest_61 : decode cX12_isRest 61 = .ok (.iadd, 1) := by decide +kernel
theorem dX12_isRest_62 : decode cX12_isRest 62 = .ok (.iaload, 1) := by decide +kernel
theorem dX12_isRest_63 : decode cX12_isRest 63 = .ok (.if_icmp .gt 7, 3) := by decide +kernel
theorem dX12_isRest_66 : decode cX12_isRest 66 = .ok (.iconst 1, 1) := by decide +kernel
theorem dX12_isRest_67 : decode cX12_isRest 67 = .ok (.goto 4, 3) := by decide +kernel
theorem dX12_isRest_70 : decode cX12_isRest 70 = .ok (.iconst 0, 1) := by decide +kernel
theorem dX12_isRest_71 : decode cX12_isRest 71 = .ok (.istore_n 2, 1) := by decide +kernel
theorem dX12_isRest_72 : decode cX12_isRest 72 = .ok (.iinc 3 1, 3) := by decide +kernel
theorem dX12_isRest_75 : decode cX12_isRest 75 = .ok (.goto (-71), 3) := by decide +kernel
theorem dX12_isRest_78 : decode cX12_isRest 78 = .ok (.iload_n 2, 1) := by decide +kernel
theorem dX12_isRest_79 : decode cX12_isRest 79 = .ok (.ireturn, 1) := by decide +kernel
theorem dX12_rest_0 : decode cX12_rest 0 = .ok (.aload_n 0, 1) := by decide +kernel
theorem dX12_rest_1 : decode cX12_rest 1 = .ok (.iload_n 1, 1) := by decide +kernel
theorem dX12_rest_2 : decode cX12_rest 2 = .ok (.iload_n 2, 1) := by decide +kernel
theorem dX12_rest_3 : decode cX12_rest 3 = .ok (.invokevirtual 334, 3) := by decide +kernel
theorem dX12_rest_6 : decode cX12_rest 6 = .ok (.ifCond .eq 8, 3) := by decide +kernel
theorem dX12_rest_9 : decode cX12_rest 9 = .ok (.iload_n 3, 1) := by decide +kernel
theorem dX12_rest_10 : decode cX12_rest 10 = .ok (.iconst (-1), 1) := by decide +kernel
theorem dX12_rest_11 : decode cX12_rest 11 = .ok (.if_icmp .ge 5, 3) := by decide +kernel
theorem dX12_rest_14 : decode cX12_rest 14 = .ok (.iconst (-1), 1) := by decide +kernel
theorem dX12_rest_15 : decode cX12_rest 15 = .ok (.ireturn, 1) := by decide +kernel
theorem dX12_rest_16 : decode cX12_rest 16 = .ok (.iconst 0, 1) := by decide +kernel
theorem dX12_rest_17 : decode cX12_rest 17 = .ok (.istore 4, 2) := by decide +kernel
theorem dX12_rest_19 : decode cX12_rest 19 = .ok (.iload 4, 2) := by decide +kernel
theorem dX12_rest_21 : decode cX12_rest 21 = .ok (.sipush 128, 3) := by decide +kernel
theorem dX12_rest_24 : decode cX12_rest 24 = .ok (.if_icmp .ge 30, 3) := by decide +kernel
theorem dX12_rest_27 : decode cX12_rest 27 = .ok (.aload_n 0, 1) := by decide +kernel
theorem dX12_rest_28 : decode cX12_rest 28 = .ok (.getfield 65, 3) := by decide +kernel
theorem dX12_rest_31 : decode cX12_rest 31 = .ok (.iload 4, 2) := by decide +kernel
theorem dX12_rest_33 : decode cX12_rest 33 = .ok (.aload_n 0, 1) := by decide +kernel
theorem dX12_rest_34 : decode cX12_rest 34 = .ok (.iload 4, 2) := by decide +kernel
theorem dX12_rest_36 : decode cX12_rest 36 = .ok (.bipush 64, 2) := by decide +kernel
theorem dX12_rest_38 : decode cX12_rest 38 = .ok (.idiv, 1) := by decide +kernel
theorem dX12_rest_39 : decode cX12_rest 39 = .ok (.iload 4, 2) := by decide +kernel
theorem dX12_rest_41 : decode cX12_rest 41 = .ok (.bipush 64, 2) := by decide +kernel
theorem dX12_rest_43 : decode cX12_rest 43 = .ok (.irem, 1) := by decide +kernel
theorem dX12_rest_44 : decode cX12_rest 44 = .ok (.invokevirtual 337, 3) := by decide +kernel
theorem dX12_rest_47 : decode cX12_rest 47 = .ok (.iastore, 1) := by decide +kernel
theorem dX12_rest_48 : decode cX12_rest 48 = .ok (.iinc 4 1, 3) := by decide +kernel
theorem dX12_rest_51 : decode cX12_rest 51 = .ok (.goto (-32), 3) := by decide +kernel
theorem dX12_rest_54 : decode cX12_rest 54 = .ok (.iconst 0, 1) := by decide +kernel
theorem dX12_rest_55 : decode cX12_rest 55 = .ok (.istore 4, 2) := by decide +kernel
theorem dX12_rest_57 : decode cX12_rest 57 = .ok (.iconst 0, 1) := by decide +kernel
theorem dX12_rest_58 : decode cX12_rest 58 = .ok (.istore 5, 2) := by decide +kernel
theorem dX12_rest_60 : decode cX12_rest 60 = .ok (.iload 5, 2) := by decide +kernel
theorem dX12_rest_62 : decode cX12_rest 62 = .ok (.bipush 64, 2) := by decide +kernel
theorem dX12_rest_64 : decode cX12_rest 64 = .ok (.if_icmp .ge 33, 3) := by decide +kernel
theorem dX12_rest_67 : decode cX12_rest 67 = .ok (.aload_n 0, 1) := by decide +kernel
theorem dX12_rest_68 : decode cX12_rest 68 = .ok (.iload 5, 2) := by decide +kernel
theorem dX12_rest_70 : decode cX12_rest 70 = .ok (.invokevirtual 340, 3) := by decide +kernel
theorem dX12_rest_73 : decode cX12_rest 73 = .ok (.ifCond .ne 6, 3) := by decide +kernel
theorem dX12_rest_76 : decode cX12_rest 76 = .ok (.goto 15, 3) := by decide +kernel
theorem dX12_rest_79 : decode cX12_rest 79 = .ok (.iload 4, 2) := by decide +kernel
theorem dX12_rest_81 : decode cX12_rest 81 = .ok (.iload_n 3, 1) := by decide +kernel
theorem dX12_rest_82 : decode cX12_rest 82 = .ok (.if_icmp .ne 6, 3) := by decide +kernel
theorem dX12_rest_85 : decode cX12_rest 85 = .ok (.iload 5, 2) := by decide +kernel
theorem dX12_rest_87 : decode cX12_rest 87 = .ok (.ireturn, 1) := by decide +kernel
theorem dX12_rest_88 : decode cX12_rest 88 = .ok (.iinc 4 1, 3) := by decide +kernel
theorem dX12_rest_91 : decode cX12_rest 91 = .ok (.iinc 5 1, 3) := by decide +kernel
theorem dX12_rest_94 : decode cX12_rest 94 = .ok (.goto (-34), 3) := by decide +kernel
theorem dX12_rest_97 : decode cX12_rest 97 = .ok (.iload_n 3, 1) := by decide +kernel
theorem dX12_rest_98 : decode cX12_rest 98 = .ok (.iconst (-1), 1) := by decide +kernel
theorem dX12_rest_99 : decode cX12_rest 99 = .ok (.if_icmp .ne 8, 3) := by decide +kernel
theorem dX12_rest_102 : decode cX12_rest 102 = .ok (.iload 4, 2) := by decide +kernel
theorem dX12_rest_104 : decode cX12_rest 104 = .ok (.goto 4, 3) := by decide +kernel
theorem dX12_rest_107 : decode cX12_rest 107 = .ok (.iconst (-1), 1) := by decide +kernel
theorem dX12_rest_108 : decode cX12_rest 108 = .ok (.ireturn, 1) := by decide +kernel
theorem dX12_isWall_0 : decode cX12_isWall 0 = .ok (.aload_n 0, 1) := by decide +kernel
theorem dX12_isWall_1 : decode cX12_isWall 1 = .ok (.getfield 7, 3) := by decide +kernel
theorem dX12_isWall_4 : decode cX12_isWall 4 = .ok (.aload_n 0, 1) := by decide +kernel
theorem dX12_isWall_5 : decode cX12_isWall 5 = .ok (.getfield 207, 3) := by decide +kernel
theorem dX12_isWall_8 : decode cX12_isWall 8 = .ok (.iconst 4, 1) := by decide +kernel
theorem dX12_isWall_9 : decode cX12_isWall 9 = .ok (.iadd, 1) := by decide +kernel
theorem dX12_isWall_10 : decode cX12_isWall 10 = .ok (.iload_n 1, 1) := by decide +kernel
theorem dX12_isWall_11 : decode cX12_isWall 11 = .ok (.iadd, 1) := by decide +kernel
theorem dX12_isWall_12 : decode cX12_isWall 12 = .ok (.iaload, 1) := by decide +kernel
theorem dX12_isWall_13 : decode cX12_isWall 13 = .ok (.iconst 1, 1) := by decide +kernel
theorem dX12_isWall_14 : decode cX12_isWall 14 = .ok (.if_icmp .ne 7, 3) := by decide +kernel
theorem dX12_isWall_17 : decode cX12_isWall 17 = .ok (.iconst 1, 1) := by decide +kernel
theorem dX12_isWall_18 : decode cX12_isWall 18 = .ok (.goto 4, 3) := by decide +kernel
theorem dX12_isWall_21 : decode cX12_isWall 21 = .ok (.iconst 0, 1) := by decide +kernel
theorem dX12_isWall_22 : decode cX12_isWall 22 = .ok (.ireturn, 1) := by decide +kernel
theorem dX12_walks_0 : decode cX12_walks 0 = .ok (.iconst 0, 1) := by decide +kernel
theorem dX12_walks_1 : decode cX12_walks 1 = .ok (.istore_n 2, 1) := by decide +kernel
theorem dX12_walks_2 : decode cX12_walks 2 = .ok (.iload_n 2, 1) := by decide +kernel
theorem dX12_walks_3 : decode cX12_walks 3 = .ok (.bipush 64, 2) := by decide +kernel
theorem dX12_walks_5 : decode cX12_walks 5 = .ok (.if_icmp .ge 17, 3) := by decide +kernel
theorem dX12_walks_8 : decode cX12_walks 8 = .ok (.aload_n 0, 1) := by decide +kernel
theorem dX12_walks_9 : decode cX12_walks 9 = .ok (.getfield 68, 3) := by decide +kernel
theorem dX12_walks_12 : decode cX12_walks 12 = .ok (.iload_n 2, 1) := by decide +kernel
theorem dX12_walks_13 : decode cX12_walks 13 = .ok (.bipush 99, 2) := by decide +kernel
theorem dX12_walks_15 : decode cX12_walks 15 = .ok (.iastore, 1) := by decide +kernel
theorem dX12_walks_16 : decode cX12_walks 16 = .ok (.iinc 2 1, 3) := by decide +kernel
theorem dX12_walks_19 : decode cX12_walks 19 = .ok (.goto (-17), 3) := by decide +kernel
theorem dX12_walks_22 : decode cX12_walks 22 = .ok (.aload_n 0, 1) := by decide +kernel
theorem dX12_walks_23 : decode cX12_walks 23 = .ok (.getfield 68, 3) := by decide +kernel
theorem dX12_walks_26 : decode cX12_walks 26 = .ok (.iload_n 1, 1) := by decide +kernel
theorem dX12_walks_27 : decode cX12_walks 27 = .ok (.iconst 0, 1) := by decide +kernel
theorem dX12_walks_28 : decode cX12_walks 28 = .ok (.iastore, 1) := by decide +kernel
theorem dX12_walks_29 : decode cX12_walks 29 = .ok (.aload_n 0, 1) := by decide +kernel
theorem dX12_walks_30 : decode cX12_walks 30 = .ok (.getfield 74, 3) := by decide +kernel
theorem dX12_walks_33 : decode cX12_walks 33 = .ok (.iconst 0, 1) := by decide +kernel
theorem dX12_walks_34 : decode cX12_walks 34 = .ok (.iload_n 1, 1) := by decide +kernel
theorem dX12_walks_35 : decode cX12_walks 35 = .ok (.iastore, 1) := by decide +kernel
theorem dX12_walks_36 : decode cX12_walks 36 = .ok (.iconst 1, 1) := by decide +kernel
theorem dX12_walks_37 : decode cX12_walks 37 = .ok (.istore_n 2, 1) := by decide +kernel
theorem dX12_walks_38 : decode cX12_walks 38 = .ok (.iconst 0, 1) := by decide +kernel
theorem dX12_walks_39 : decode cX12_walks 39 = .ok (.istore_n 3, 1) := by decide +kernel
theorem dX12_walks_40 : decode cX12_walks 40 = .ok (.iload_n 3, 1) := by decide +kernel
theorem dX12_walks_41 : decode cX12_walks 41 = .ok (.iload_n 2, 1) := by decide +kernel
theorem dX12_walks_42 : decode cX12_walks 42 = .ok (.if_icmp .ge 100, 3) := by decide +kernel
theorem dX12_walks_45 : decode cX12_walks 45 = .ok (.iconst 0, 1) := by decide +kernel
theorem dX12_walks_46 : decode cX12_walks 46 = .ok (.istore 4, 2) := by decide +kernel
theorem dX12_walks_48 : decode cX12_walks 48 = .ok (.iload 4, 2) := by decide +kernel
theorem dX12_walks_50 : decode cX12_walks 50 = .ok (.bipush 8, 2) := by decide +kernel
theorem dX12_walks_52 : decode cX12_walks 52 = .ok (.if_icmp .ge 84, 3) := by decide +kernel
theorem dX12_walks_55 : decode cX12_walks 55 = .ok (.aload_n 0, 1) := by decide +kernel
theorem dX12_walks_56 : decode cX12_walks 56 = .ok (.aload_n 0, 1) := by decide +kernel
theorem dX12_walks_57 : decode cX12_walks 57 = .ok (.getfield 74, 3) := by decide +kernel
theorem dX12_walks_60 : decode cX12_walks 60 = .ok (.iload_n 3, 1) := by decide +kernel
theorem dX12_walks_61 : decode cX12_walks 61 = .ok (.iaload, 1) := by decide +kernel
theorem dX12_walks_62 : decode cX12_walks 62 = .ok (.iload 4, 2) := by decide +kernel
theorem dX12_walks_64 : decode cX12_walks 64 = .ok (.invokevirtual 249, 3) := by decide +kernel
theorem dX12_walks_67 : decode cX12_walks 67 = .ok (.istore 5, 2) := by decide +kernel
theorem dX12_walks_69 : decode cX12_walks 69 = .ok (.iload 5, 2) := by decide +kernel
theorem dX12_walks_71 : decode cX12_walks 71 = .ok (.iconst (-1), 1) := by decide +kernel
theorem dX12_walks_72 : decode cX12_walks 72 = .ok (.if_icmp .eq 58, 3) := by decide +kernel
theorem dX12_walks_75 : decode cX12_walks 75 = .ok (.aload_n 0, 1) := by decide +kernel
theorem dX12_walks_76 : decode cX12_walks 76 = .ok (.iload 5, 2) := by decide +kernel
theorem dX12_walks_78 : decode cX12_walks 78 = .ok (.invokevirtual 343, 3) := by decide +kernel
theorem dX12_walks_81 : decode cX12_walks 81 = .ok (.ifCond .ne 49, 3) := by decide +kernel
theorem dX12_walks_84 : decode cX12_walks 84 = .ok (.aload_n 0, 1) := by decide +kernel
theorem dX12_walks_85 : decode cX12_walks 85 = .ok (.getfield 68, 3) := by decide +kernel
theorem dX12_walks_88 : decode cX12_walks 88 = .ok (.iload 5, 2) := by decide +kernel
theorem dX12_walks_90 : decode cX12_walks 90 = .ok (.iaload, 1) := by decide +kernel
theorem dX12_walks_91 : decode cX12_walks 91 = .ok (.bipush 99, 2) := by decide +kernel
theorem dX12_walks_93 : decode cX12_walks 93 = .ok (.if_icmp .eq 6, 3) := by decide +kernel
theorem dX12_walks_96 : decode cX12_walks 96 = .ok (.goto 34, 3) := by decide +kernel
theorem dX12_walks_99 : decode cX12_walks 99 = .ok (.aload_n 0, 1) := by decide +kernel
theorem dX12_walks_100 : decode cX12_walks 100 = .ok (.getfield 68, 3) := by decide +kernel
theorem dX12_walks_103 : decode cX12_walks 103 = .ok (.iload 5, 2) := by decide +kernel
theorem dX12_walks_105 : decode cX12_walks 105 = .ok (.aload_n 0, 1) := by decide +kernel
theorem dX12_walks_106 : decode cX12_walks 106 = .ok (.getfield 68, 3) := by decide +kernel
theorem dX12_walks_109 : decode cX12_walks 109 = .ok (.aload_n 0, 1) := by decide +kernel
theorem dX12_walks_110 : decode cX12_walks 110 = .ok (.getfield 74, 3) := by decide +kernel
theorem dX12_walks_113 : decode cX12_walks 113 = .ok (.iload_n 3, 1) := by decide +kernel
theorem dX12_walks_114 : decode cX12_walks 114 = .ok (.iaload, 1) := by decide +kernel
theorem dX12_walks_115 : decode cX12_walks 115 = .ok (.iaload, 1) := by decide +kernel
theorem dX12_walks_116 : decode cX12_walks 116 = .ok (.iconst 1, 1) := by decide +kernel
theorem dX12_walks_117 : decode cX12_walks 117 = .ok (.iadd, 1) := by decide +kernel
theorem dX12_walks_118 : decode cX12_walks 118 = .ok (.iastore, 1) := by decide +kernel
theorem dX12_walks_119 : decode cX12_walks 119 = .ok (.aload_n 0, 1) := by decide +kernel
theorem dX12_walks_120 : decode cX12_walks 120 = .ok (.getfield 74, 3) := by decide +kernel
theorem dX12_walks_123 : decode cX12_walks 123 = .ok (.iload_n 2, 1) := by decide +kernel
theorem dX12_walks_124 : decode cX12_walks 124 = .ok (.iload 5, 2) := by decide +kernel
theorem dX12_walks_126 : decode cX12_walks 126 = .ok (.iastore, 1) := by decide +kernel
theorem dX12_walks_127 : decode cX12_walks 127 = .ok (.iinc 2 1, 3) := by decide +kernel
theorem dX12_walks_130 : decode cX12_walks 130 = .ok (.iinc 4 2, 3) := by decide +kernel
theorem dX12_walks_133 : decode cX12_walks 133 = .ok (.goto (-85), 3) := by decide +kernel
theorem dX12_walks_136 : decode cX12_walks 136 = .ok (.iinc 3 1, 3) := by decide +kernel
theorem dX12_walks_139 : decode cX12_walks 139 = .ok (.goto (-99), 3) := by decide +kernel
theorem dX12_walks_142 : decode cX12_walks 142 = .ok (.return_, 1) := by decide +kernel
theorem dX12_way_0 : decode cX12_way 0 = .ok (.aload_n 0, 1) := by decide +kernel
theorem dX12_way_1 : decode cX12_way 1 = .ok (.iload_n 1, 1) := by decide +kernel
theorem dX12_way_2 : decode cX12_way 2 = .ok (.invokevirtual 225, 3) := by decide +kernel
theorem dX12_way_5 : decode cX12_way 5 = .ok (.ifCond .eq 43, 3) := by decide +kernel
theorem dX12_way_8 : decode cX12_way 8 = .ok (.aload_n 0, 1) := by decide +kernel
theorem dX12_way_9 : decode cX12_way 9 = .ok (.iload_n 2, 1) := by decide +kernel
theorem dX12_way_10 : decode cX12_way 10 = .ok (.invokevirtual 237, 3) := by decide +kernel
theorem dX12_way_13 : decode cX12_way 13 = .ok (.ifCond .eq 35, 3) := by decide +kernel
theorem dX12_way_16 : decode cX12_way 16 = .ok (.aload_n 0, 1) := by decide +kernel
theorem dX12_way_17 : decode cX12_way 17 = .ok (.iload_n 3, 1) := by decide +kernel
theorem dX12_way_18 : decode cX12_way 18 = .ok (.invokevirtual 237, 3) := by decide +kernel
theorem dX12_way_21 : decode cX12_way 21 = .ok (.ifCond .eq 27, 3) := by decide +kernel
theorem dX12_way_24 : decode cX12_way 24 = .ok (.aload_n 0, 1) := by decide +kernel
theorem dX12_way_25 : decode cX12_way 25 = .ok (.aload_n 0, 1) := by decide +kernel
theorem dX12_way_26 : decode cX12_way 26 = .ok (.iload_n 2, 1) := by decide +kernel
theorem dX12_way_27 : decode cX12_way 27 = .ok (.invokevirtual 240, 3) := by decide +kernel
theorem dX12_way_30 : decode cX12_way 30 = .ok (.invokevirtual 343, 3) := by decide +kernel
theorem dX12_way_33 : decode cX12_way 33 = .ok (.ifCond .ne 15, 3) := by decide +kernel
theorem dX12_way_36 : decode cX12_way 36 = .ok (.aload_n 0, 1) := by decide +kernel
theorem dX12_way_37 : decode cX12_way 37 = .ok (.aload_n 0, 1) := by decide +kernel
theorem dX12_way_38 : decode cX12_way 38 = .ok (.iload_n 3, 1) := by decide +kernel
theorem dX12_way_39 : decode cX12_way 39 = .ok (.invokevirtual 240, 3) := by decide +kernel
theorem dX12_way_42 : decode cX12_way 42 = .ok (.invokevirtual 343, 3) := by decide +kernel
theorem dX12_way_45 : decode cX12_way 45 = .ok (.ifCond .eq 5, 3) := by decide +kernel
theorem dX12_way_48 : decode cX12_way 48 = .ok (.iconst (-1), 1) := by decide +kernel
theorem dX12_way_49 : decode cX12_way 49 = .ok (.ireturn, 1) := by decide +kernel
theorem dX12_way_50 : decode cX12_way 50 = .ok (.aload_n 0, 1) := by decide +kernel
theorem dX12_way_51 : decode cX12_way 51 = .ok (.aload_n 0, 1) := by decide +kernel
theorem dX12_way_52 : decode cX12_way 52 = .ok (.iload_n 2, 1) := by decide +kernel
theorem dX12_way_53 : decode cX12_way 53 = .ok (.invokevirtual 240, 3) := by decide +kernel
theorem dX12_way_56 : decode cX12_way 56 = .ok (.invokevirtual 346, 3) := by decide +kernel
theorem dX12_way_59 : decode cX12_way 59 = .ok (.aload_n 0, 1) := by decide +kernel
theorem dX12_way_60 : decode cX12_way 60 = .ok (.getfield 68, 3) := by decide +kernel
theorem dX12_way_63 : decode cX12_way 63 = .ok (.aload_n 0, 1) := by decide +kernel
theorem dX12_way_64 : decode cX12_way 64 = .ok (.iload_n 3, 1) := by decide +kernel
theorem dX12_way_65 : decode cX12_way 65 = .ok (.invokevirtual 240, 3) := by decide +kernel
theorem dX12_way_68 : decode cX12_way 68 = .ok (.iaload, 1) := by decide +kernel
theorem dX12_way_69 : decode cX12_way 69 = .ok (.bipush 99, 2) := by decide +kernel
theorem dX12_way_71 : decode cX12_way 71 = .ok (.if_icmp .ne 7, 3) := by decide +kernel
theorem dX12_way_74 : decode cX12_way 74 = .ok (.iconst (-1), 1) := by decide +kernel
theorem dX12_way_75 : decode cX12_way 75 = .ok (.goto 13, 3) := by decide +kernel
theorem dX12_way_78 : decode cX12_way 78 = .ok (.aload_n 0, 1) := by decide +kernel
theorem dX12_way_79 : decode cX12_way 79 = .ok (.getfield 68, 3) := by decide +kernel
theorem dX12_way_82 : decode cX12_way 82 = .ok (.aload_n 0, 1) := by decide +kernel
theorem dX12_way_83 : decode cX12_way 83 = .ok (.iload_n 3, 1) := by decide +kernel
theorem dX12_way_84 : decode cX12_way 84 = .ok (.invokevirtual 240, 3) := by decide +kernel
theorem dX12_way_87 : decode cX12_way 87 = .ok (.iaload, 1) := by decide +kernel
theorem dX12_way_88 : decode cX12_way 88 = .ok (.ireturn, 1) := by decide +kernel
theorem dX12_laysRounds_0 : decode cX12_laysRounds 0 = .ok (.iconst 0, 1) := by decide +kernel
theorem dX12_laysRounds_1 : decode cX12_laysRounds 1 = .ok (.istore_n 2, 1) := by decide +kernel
theorem dX12_laysRounds_2 : decode cX12_laysRounds 2 = .ok (.iload_n 2, 1) := by decide +kernel
theorem dX12_laysRounds_3 : decode cX12_laysRounds 3 = .ok (.aload_n 0, 1) := by decide +kernel
theorem dX12_laysRounds_4 : decode cX12_laysRounds 4 = .ok (.getfield 216, 3) := by decide +kernel
theorem dX12_laysRounds_7 : decode cX12_laysRounds 7 = .ok (.if_icmp .ge 57, 3) := by decide +kernel
theorem dX12_laysRounds_10 : decode cX12_laysRounds 10 = .ok (.aload_n 0, 1) := by decide +kernel
theorem dX12_laysRounds_11 : decode cX12_laysRounds 11 = .ok (.aload_n 0, 1) := by decide +kernel
theorem dX12_laysRounds_12 : decode cX12_laysRounds 12 = .ok (.getfield 29, 3) := by decide +kernel
theorem dX12_laysRounds_15 : decode cX12_laysRounds 15 = .ok (.iload_n 2, 1) := by decide +kernel
theorem dX12_laysRounds_16 : decode cX12_laysRounds 16 = .ok (.iaload, 1) := by decide +kernel
theorem dX12_laysRounds_17 : decode cX12_laysRounds 17 = .ok (.invokevirtual 346, 3) := by decide +kernel
theorem dX12_laysRounds_20 : decode cX12_laysRounds 20 = .ok (.iconst 0, 1) := by decide +kernel
theorem dX12_laysRounds_21 : decode cX12_laysRounds 21 = .ok (.istore_n 3, 1) := by decide +kernel
theorem dX12_laysRounds_22 : decode cX12_laysRounds 22 = .ok (.iload_n 3, 1) := by decide +kernel
theorem dX12_laysRounds_23 : decode cX12_laysRounds 23 = .ok (.aload_n 0, 1) := by decide +kernel
theorem dX12_laysRounds_24 : decode cX12_laysRounds 24 = .ok (.getfield 216, 3) := by decide +kernel
theorem dX12_laysRounds_27 : decode cX12_laysRounds 27 = .ok (.if_icmp .ge 31, 3) := by decide +kernel
theorem dX12_laysRounds_30 : decode cX12_laysRounds 30 = .ok (.aload_n 0, 1) := by decide +kernel
theorem dX12_laysRounds_31 : decode cX12_laysRounds 31 = .ok (.getfield 71, 3) := by decide +kernel
theorem dX12_laysRounds_34 : decode cX12_laysRounds 34 = .ok (.bipush 8, 2) := by decide +kernel
theorem dX12_laysRounds_36 : decode cX12_laysRounds 36 = .ok (.iload_n 2, 1) := by decide +kernel
theorem dX12_laysRounds_37 : decode cX12_laysRounds 37 = .ok (.imul, 1) := by decide +kernel
theorem dX12_laysRounds_38 : decode cX12_laysRounds 38 = .ok (.iload_n 3, 1) := by decide +kernel
theorem dX12_laysRounds_39 : decode cX12_laysRounds 39 = .ok (.iadd, 1) := by decide +kernel
theorem dX12_laysRounds_40 : decode cX12_laysRounds 40 = .ok (.aload_n 0, 1) := by decide +kernel
theorem dX12_laysRounds_41 : decode cX12_laysRounds 41 = .ok (.getfield 68, 3) := by decide +kernel
theorem dX12_laysRounds_44 : decode cX12_laysRounds 44 = .ok (.aload_n 0, 1) := by decide +kernel
theorem dX12_laysRounds_45 : decode cX12_laysRounds 45 = .ok (.getfield 29, 3) := by decide +kernel
theorem dX12_laysRounds_48 : decode cX12_laysRounds 48 = .ok (.iload_n 3, 1) := by decide +kernel
theorem dX12_laysRounds_49 : decode cX12_laysRounds 49 = .ok (.iaload, 1) := by decide +kernel
theorem dX12_laysRounds_50 : decode cX12_laysRounds 50 = .ok (.iaload, 1) := by decide +kernel
theorem dX12_laysRounds_51 : decode cX12_laysRounds 51 = .ok (.iastore, 1) := by decide +kernel
theorem dX12_laysRounds_52 : decode cX12_laysRounds 52 = .ok (.iinc 3 1, 3) := by decide +kernel
theorem dX12_laysRounds_55 : decode cX12_laysRounds 55 = .ok (.goto (-33), 3) := by decide +kernel
theorem dX12_laysRounds_58 : decode cX12_laysRounds 58 = .ok (.iinc 2 1, 3) := by decide +kernel
theorem dX12_laysRounds_61 : decode cX12_laysRounds 61 = .ok (.goto (-59), 3) := by decide +kernel
theorem dX12_laysRounds_64 : decode cX12_laysRounds 64 = .ok (.aload_n 0, 1) := by decide +kernel
theorem dX12_laysRounds_65 : decode cX12_laysRounds 65 = .ok (.iload_n 1, 1) := by decide +kernel
theorem dX12_laysRounds_66 : decode cX12_laysRounds 66 = .ok (.invokevirtual 346, 3) := by decide +kernel
theorem dX12_laysRounds_69 : decode cX12_laysRounds 69 = .ok (.iconst 0, 1) := by decide +kernel
theorem dX12_laysRounds_70 : decode cX12_laysRounds 70 = .ok (.istore_n 2, 1) := by decide +kernel
theorem dX12_laysRounds_71 : decode cX12_laysRounds 71 = .ok (.iload_n 2, 1) := by decide +kernel
theorem dX12_laysRounds_72 : decode cX12_laysRounds 72 = .ok (.sipush 2048, 3) := by decide +kernel
theorem dX12_laysRounds_75 : decode cX12_laysRounds 75 = .ok (.if_icmp .ge 18, 3) := by decide +kernel
theorem dX12_laysRounds_78 : decode cX12_laysRounds 78 = .ok (.aload_n 0, 1) := by decide +kernel
theorem dX12_laysRounds_79 : decode cX12_laysRounds 79 = .ok (.getfield 77, 3) := by decide +kernel
theorem dX12_laysRounds_82 : decode cX12_laysRounds 82 = .ok (.iload_n 2, 1) := by decide +kernel
theorem dX12_laysRounds_83 : decode cX12_laysRounds 83 = .ok (.sipush 9999, 3) := by decide +kernel
theorem dX12_laysRounds_86 : decode cX12_laysRounds 86 = .ok (.iastore, 1) := by decide +kernel
theorem dX12_laysRounds_87 : decode cX12_laysRounds 87 = .ok (.iinc 2 1, 3) := by decide +kernel
theorem dX12_laysRounds_90 : decode cX12_laysRounds 90 = .ok (.goto (-19), 3) := by decide +kernel
theorem dX12_laysRounds_93 : decode cX12_laysRounds 93 = .ok (.iconst 0, 1) := by decide +kernel
theorem dX12_laysRounds_94 : decode cX12_laysRounds 94 = .ok (.istore_n 2, 1) := by decide +kernel
theorem dX12_laysRounds_95 : decode cX12_laysRounds 95 = .ok (.iload_n 2, 1) := by decide +kernel
theorem dX12_laysRounds_96 : decode cX12_laysRounds 96 = .ok (.aload_n 0, 1) := by decide +kernel
theorem dX12_laysRounds_97 : decode cX12_laysRounds 97 = .ok (.getfield 216, 3) := by decide +kernel
theorem dX12_laysRounds_100 : decode cX12_laysRounds 100 = .ok (.if_icmp .ge 49, 3) := by decide +kernel
theorem dX12_laysRounds_103 : decode cX12_laysRounds 103 = .ok (.aload_n 0, 1) := by decide +kernel
theorem dX12_laysRounds_104 : decode cX12_laysRounds 104 = .ok (.getfield 68, 3) := by decide +kernel
theorem dX12_laysRounds_107 : decode cX12_laysRounds 107 = .ok (.aload_n 0, 1) := by decide +kernel
theorem dX12_laysRounds_108 : decode cX12_laysRounds 108 = .ok (.getfield 29, 3) := by decide +kernel
theorem dX12_laysRounds_111 : decode cX12_laysRounds 111 = .ok (.iload_n 2, 1) := by decide +kernel
theorem dX12_laysRounds_112 : decode cX12_laysRounds 112 = .ok (.iaload, 1) := by decide +kernel
theorem dX12_laysRounds_113 : decode cX12_laysRounds 113 = .ok (.iaload, 1) := by decide +kernel
theorem dX12_laysRounds_114 : decode cX12_laysRounds 114 = .ok (.bipush 99, 2) := by decide +kernel
theorem dX12_laysRounds_116 : decode cX12_laysRounds 116 = .ok (.if_icmp .eq 27, 3) := by decide +kernel
theorem dX12_laysRounds_119 : decode cX12_laysRounds 119 = .ok (.aload_n 0, 1) := by decide +kernel
theorem dX12_laysRounds_120 : decode cX12_laysRounds 120 = .ok (.getfield 77, 3) := by decide +kernel
theorem dX12_laysRounds_123 : decode cX12_laysRounds 123 = .ok (.bipush 8, 2) := by decide +kernel
theorem dX12_laysRounds_125 : decode cX12_laysRounds 125 = .ok (.iconst 1, 1) := by decide +kernel
theorem dX12_laysRounds_126 : decode cX12_laysRounds 126 = .ok (.iload_n 2, 1) := by decide +kernel
theorem dX12_laysRounds_127 : decode cX12_laysRounds 127 = .ok (.ishl, 1) := by decide +kernel
theorem dX12_laysRounds_128 : decode cX12_laysRounds 128 = .ok (.imul, 1) := by decide +kernel
theorem dX12_laysRounds_129 : decode cX12_laysRounds 129 = .ok (.iload_n 2, 1) := by decide +kernel
theorem dX12_laysRounds_130 : decode cX12_laysRounds 130 = .ok (.iadd, 1) := by decide +kernel
theorem dX12_laysRounds_131 : decode cX12_laysRounds 131 = .ok (.aload_n 0, 1) := by decide +kernel
theorem dX12_laysRounds_132 : decode cX12_laysRounds 132 = .ok (.getfield 68, 3) := by decide +kernel
theorem dX12_laysRounds_135 : decode cX12_laysRounds 135 = .ok (.aload_n 0, 1) := by decide +kernel
theorem dX12_laysRounds_136 : decode cX12_laysRounds 136 = .ok (.getfield 29, 3) := by decide +kernel
theorem dX12_laysRounds_139 : decode cX12_laysRounds 139 = .ok (.iload_n 2, 1) := by decide +kernel
theorem dX12_laysRounds_140 : decode cX12_laysRounds 140 = .ok (.iaload, 1) := by decide +kernel
theorem dX12_laysRounds_141 : decode cX12_laysRounds 141 = .ok (.iaload, 1) := by decide +kernel
theorem dX12_laysRounds_142 : decode cX12_laysRounds 142 = .ok (.iastore, 1) := by decide +kernel
theorem dX12_laysRounds_143 : decode cX12_laysRounds 143 = .ok (.iinc 2 1, 3) := by decide +kernel
theorem dX12_laysRounds_146 : decode cX12_laysRounds 146 = .ok (.goto (-51), 3) := by decide +kernel
theorem dX12_laysRounds_149 : decode cX12_laysRounds 149 = .ok (.bipush 8, 2) := by decide +kernel
theorem dX12_laysRounds_151 : decode cX12_laysRounds 151 = .ok (.istore_n 2, 1) := by decide +kernel
theorem dX12_laysRounds_152 : decode cX12_laysRounds 152 = .ok (.iload_n 2, 1) := by decide +kernel
theorem dX12_laysRounds_153 : decode cX12_laysRounds 153 = .ok (.bipush 8, 2) := by decide +kernel
theorem dX12_laysRounds_155 : decode cX12_laysRounds 155 = .ok (.aload_n 0, 1) := by decide +kernel
theorem dX12_laysRounds_156 : decode cX12_laysRounds 156 = .ok (.getfield 216, 3) := by decide +kernel
theorem dX12_laysRounds_159 : decode cX12_laysRounds 159 = .ok (.ishl, 1) := by decide +kernel
theorem dX12_laysRounds_160 : decode cX12_laysRounds 160 = .ok (.if_icmp .ge 143, 3) := by decide +kernel
theorem dX12_laysRounds_163 : decode cX12_laysRounds 163 = .ok (.aload_n 0, 1) := by decide +kernel
theorem dX12_laysRounds_164 : decode cX12_laysRounds 164 = .ok (.getfield 77, 3) := by decide +kernel
theorem dX12_laysRounds_167 : decode cX12_laysRounds 167 = .ok (.iload_n 2, 1) := by decide +kernel
theorem dX12_laysRounds_168 : decode cX12_laysRounds 168 = .ok (.iaload, 1) := by decide +kernel
theorem dX12_laysRounds_169 : decode cX12_laysRounds 169 = .ok (.sipush 9999, 3) := by decide +kernel
theorem dX12_laysRounds_172 : decode cX12_laysRounds 172 = .ok (.if_icmp .ne 6, 3) := by decide +kernel
theorem dX12_laysRounds_175 : decode cX12_laysRounds 175 = .ok (.goto 122, 3) := by decide +kernel
theorem dX12_laysRounds_178 : decode cX12_laysRounds 178 = .ok (.iconst 0, 1) := by decide +kernel
theorem dX12_laysRounds_179 : decode cX12_laysRounds 179 = .ok (.istore_n 3, 1) := by decide +kernel
theorem dX12_laysRounds_180 : decode cX12_laysRounds 180 = .ok (.iload_n 3, 1) := by decide +kernel
theorem dX12_laysRounds_181 : decode cX12_laysRounds 181 = .ok (.aload_n 0, 1) := by decide +kernel
theorem dX12_laysRounds_182 : decode cX12_laysRounds 182 = .ok (.getfield 216, 3) := by decide +kernel
theorem dX12_laysRounds_185 : decode cX12_laysRounds 185 = .ok (.if_icmp .ge 112, 3) := by decide +kernel
theorem dX12_laysRounds_188 : decode cX12_laysRounds 188 = .ok (.iload_n 2, 1) := by decide +kernel
theorem dX12_laysRounds_189 : decode cX12_laysRounds 189 = .ok (.bipush 8, 2) := by decide +kernel
theorem dX12_laysRounds_191 : decode cX12_laysRounds 191 = .ok (.idiv, 1) := by decide +kernel
theorem dX12_laysRounds_192 : decode cX12_laysRounds 192 = .ok (.iload_n 3, 1) := by decide +kernel
theorem dX12_laysRounds_193 : decode cX12_laysRounds 193 = .ok (.ishr, 1) := by decide +kernel
theorem dX12_laysRounds_194 : decode cX12_laysRounds 194 = .ok (.iconst 1, 1) := by decide +kernel
theorem dX12_laysRounds_195 : decode cX12_laysRounds 195 = .ok (.iand, 1) := by decide +kernel
theorem dX12_laysRounds_196 : decode cX12_laysRounds 196 = .ok (.iconst 1, 1) := by decide +kernel
theorem dX12_laysRounds_197 : decode cX12_laysRounds 197 = .ok (.if_icmp .eq 94, 3) := by decide +kernel
theorem dX12_laysRounds_200 : decode cX12_laysRounds 200 = .ok (.aload_n 0, 1) := by decide +kernel
theorem dX12_laysRounds_201 : decode cX12_laysRounds 201 = .ok (.getfield 71, 3) := by decide +kernel
theorem dX12_laysRounds_204 : decode cX12_laysRounds 204 = .ok (.bipush 8, 2) := by decide +kernel
theorem dX12_laysRounds_206 : decode cX12_laysRounds 206 = .ok (.iload_n 2, 1) := by decide +kernel
theorem dX12_laysRounds_207 : decode cX12_laysRounds 207 = .ok (.bipush 8, 2) := by decide +kernel
theorem dX12_laysRounds_209 : decode cX12_laysRounds 209 = .ok (.irem, 1) := by decide +kernel
theorem dX12_laysRounds_210 : decode cX12_laysRounds 210 = .ok (.imul, 1) := by decide +kernel
theorem dX12_laysRounds_211 : decode cX12_laysRounds 211 = .ok (.iload_n 3, 1) := by decide +kernel
theorem dX12_laysRounds_212 : decode cX12_laysRounds 212 = .ok (.iadd, 1) := by decide +kernel
theorem dX12_laysRounds_213 : decode cX12_laysRounds 213 = .ok (.iaload, 1) := by decide +kernel
theorem dX12_laysRounds_214 : decode cX12_laysRounds 214 = .ok (.bipush 99, 2) := by decide +kernel
theorem dX12_laysRounds_216 : decode cX12_laysRounds 216 = .ok (.if_icmp .ne 6, 3) := by decide +kernel
theorem dX12_laysRounds_219 : decode cX12_laysRounds 219 = .ok (.goto 72, 3) := by decide +kernel
theorem dX12_laysRounds_222 : decode cX12_laysRounds 222 = .ok (.bipush 8, 2) := by decide +kernel
theorem dX12_laysRounds_224 : decode cX12_laysRounds 224 = .ok (.iload_n 2, 1) := by decide +kernel
theorem dX12_laysRounds_225 : decode cX12_laysRounds 225 = .ok (.bipush 8, 2) := by decide +kernel
theorem dX12_laysRounds_227 : decode cX12_laysRounds 227 = .ok (.idiv, 1) := by decide +kernel
theorem dX12_laysRounds_228 : decode cX12_laysRounds 228 = .ok (.iconst 1, 1) := by decide +kernel
theorem dX12_laysRounds_229 : decode cX12_laysRounds 229 = .ok (.iload_n 3, 1) := by decide +kernel
theorem dX12_laysRounds_230 : decode cX12_laysRounds 230 = .ok (.ishl, 1) := by decide +kernel
theorem dX12_laysRounds_231 : decode cX12_laysRounds 231 = .ok (.ior, 1) := by decide +kernel
theorem dX12_laysRounds_232 : decode cX12_laysRounds 232 = .ok (.imul, 1) := by decide +kernel
theorem dX12_laysRounds_233 : decode cX12_laysRounds 233 = .ok (.iload_n 3, 1) := by decide +kernel
theorem dX12_laysRounds_234 : decode cX12_laysRounds 234 = .ok (.iadd, 1) := by decide +kernel
theorem dX12_laysRounds_235 : decode cX12_laysRounds 235 = .ok (.istore 4, 2) := by decide +kernel
theorem dX12_laysRounds_237 : decode cX12_laysRounds 237 = .ok (.aload_n 0, 1) := by decide +kernel
theorem dX12_laysRounds_238 : decode cX12_laysRounds 238 = .ok (.getfield 77, 3) := by decide +kernel
theorem dX12_laysRounds_241 : decode cX12_laysRounds 241 = .ok (.iload_n 2, 1) := by decide +kernel
theorem dX12_laysRounds_242 : decode cX12_laysRounds 242 = .ok (.iaload, 1) := by decide +kernel
theorem dX12_laysRounds_243 : decode cX12_laysRounds 243 = .ok (.aload_n 0, 1) := by decide +kernel
theorem dX12_laysRounds_244 : decode cX12_laysRounds 244 = .ok (.getfield 71, 3) := by decide +kernel
theorem dX12_laysRounds_247 : decode cX12_laysRounds 247 = .ok (.bipush 8, 2) := by decide +kernel
theorem dX12_laysRounds_249 : decode cX12_laysRounds 249 = .ok (.iload_n 2, 1) := by decide +kernel
theorem dX12_laysRounds_250 : decode cX12_laysRounds 250 = .ok (.bipush 8, 2) := by decide +kernel
theorem dX12_laysRounds_252 : decode cX12_laysRounds 252 = .ok (.irem, 1) := by decide +kernel
theorem dX12_laysRounds_253 : decode cX12_laysRounds 253 = .ok (.imul, 1) := by decide +kernel
theorem dX12_laysRounds_254 : decode cX12_laysRounds 254 = .ok (.iload_n 3, 1) := by decide +kernel
theorem dX12_laysRounds_255 : decode cX12_laysRounds 255 = .ok (.iadd, 1) := by decide +kernel
theorem dX12_laysRounds_256 : decode cX12_laysRounds 256 = .ok (.iaload, 1) := by decide +kernel
theorem dX12_laysRounds_257 : decode cX12_laysRounds 257 = .ok (.iadd, 1) := by decide +kernel
theorem dX12_laysRounds_258 : decode cX12_laysRounds 258 = .ok (.istore 5, 2) := by decide +kernel
theorem dX12_laysRounds_260 : decode cX12_laysRounds 260 = .ok (.aload_n 0, 1) := by decide +kernel
theorem dX12_laysRounds_261 : decode cX12_laysRounds 261 = .ok (.getfield 77, 3) := by decide +kernel
theorem dX12_laysRounds_264 : decode cX12_laysRounds 264 = .ok (.iload 4, 2) := by decide +kernel
theorem dX12_laysRounds_266 : decode cX12_laysRounds 266 = .ok (.iload 5, 2) := by decide +kernel
theorem dX12_laysRounds_268 : decode cX12_laysRounds 268 = .ok (.aload_n 0, 1) := by decide +kernel
theorem dX12_laysRounds_269 : decode cX12_laysRounds 269 = .ok (.getfield 77, 3) := by decide +kernel
theorem dX12_laysRounds_272 : decode cX12_laysRounds 272 = .ok (.iload 4, 2) := by decide +kernel
theorem dX12_laysRounds_274 : decode cX12_laysRounds 274 = .ok (.iaload, 1) := by decide +kernel
theorem dX12_laysRounds_275 : decode cX12_laysRounds 275 = .ok (.if_icmp .ge 8, 3) := by decide +kernel
theorem dX12_laysRounds_278 : decode cX12_laysRounds 278 = .ok (.iload 5, 2) := by decide +kernel
theorem dX12_laysRounds_280 : decode cX12_laysRounds 280 = .ok (.goto 10, 3) := by decide +kernel
theorem dX12_laysRounds_283 : decode cX12_laysRounds 283 = .ok (.aload_n 0, 1) := by decide +kernel
theorem dX12_laysRounds_284 : decode cX12_laysRounds 284 = .ok (.getfield 77, 3) := by decide +kernel
theorem dX12_laysRounds_287 : decode cX12_laysRounds 287 = .ok (.iload 4, 2) := by decide +kernel
theorem dX12_laysRounds_289 : decode cX12_laysRounds 289 = .ok (.iaload, 1) := by decide +kernel
theorem dX12_laysRounds_290 : decode cX12_laysRounds 290 = .ok (.iastore, 1) := by decide +kernel
theorem dX12_laysRounds_291 : decode cX12_laysRounds 291 = .ok (.iinc 3 1, 3) := by decide +kernel
theorem dX12_laysRounds_294 : decode cX12_laysRounds 294 = .ok (.goto (-114), 3) := by decide +kernel
theorem dX12_laysRounds_297 : decode cX12_laysRounds 297 = .ok (.iinc 2 1, 3) := by decide +kernel
theorem dX12_laysRounds_300 : decode cX12_laysRounds 300 = .ok (.goto (-148), 3) := by decide +kernel
theorem dX12_laysRounds_303 : decode cX12_laysRounds 303 = .ok (.return_, 1) := by decide +kernel
theorem dX12_bitsOf_0 : decode cX12_bitsOf 0 = .ok (.iconst 0, 1) := by decide +kernel
theorem dX12_bitsOf_1 : decode cX12_bitsOf 1 = .ok (.istore_n 1, 1) := by decide +kernel
theorem dX12_bitsOf_2 : decode cX12_bitsOf 2 = .ok (.iconst 0, 1) := by decide +kernel
theorem dX12_bitsOf_3 : decode cX12_bitsOf 3 = .ok (.istore_n 2, 1) := by decide +kernel
theorem dX12_bitsOf_4 : decode cX12_bitsOf 4 = .ok (.iload_n 2, 1) := by decide +kernel
theorem dX12_bitsOf_5 : decode cX12_bitsOf 5 = .ok (.bipush 8, 2) := by decide +kernel
theorem dX12_bitsOf_7 : decode cX12_bitsOf 7 = .ok (.if_icmp .ge 17, 3) := by decide +kernel
theorem dX12_bitsOf_10 : decode cX12_bitsOf 10 = .ok (.iload_n 1, 1) := by decide +kernel
theorem dX12_bitsOf_11 : decode cX12_bitsOf 11 = .ok (.iload_n 0, 1) := by decide +kernel
theorem dX12_bitsOf_12 : decode cX12_bitsOf 12 = .ok (.iload_n 2, 1) := by decide +kernel
theorem dX12_bitsOf_13 : decode cX12_bitsOf 13 = .ok (.ishr, 1) := by decide +kernel
theorem dX12_bitsOf_14 : decode cX12_bitsOf 14 = .ok (.iconst 1, 1) := by decide +kernel
theorem dX12_bitsOf_15 : decode cX12_bitsOf 15 = .ok (.iand, 1) := by decide +kernel
theorem dX12_bitsOf_16 : decode cX12_bitsOf 16 = .ok (.iadd, 1) := by decide +kernel
theorem dX12_bitsOf_17 : decode cX12_bitsOf 17 = .ok (.istore_n 1, 1) := by decide +kernel
theorem dX12_bitsOf_18 : decode cX12_bitsOf 18 = .ok (.iinc 2 1, 3) := by decide +kernel
theorem dX12_bitsOf_21 : decode cX12_bitsOf 21 = .ok (.goto (-17), 3) := by decide +kernel
theorem dX12_bitsOf_24 : decode cX12_bitsOf 24 = .ok (.iload_n 1, 1) := by decide +kernel
theorem dX12_bitsOf_25 : decode cX12_bitsOf 25 = .ok (.ireturn, 1) := by decide +kernel
section
variable {p : Program} {l : Launch} {e : Env} {s : State} {m : MethodId} {args : Array Value} {below : List Frame} {meth : Method} {c : Code} {G : GG} {K : SK}
set_option maxHeartbeats 4000000 in
set_option maxRecDepth 100000 in
theorem tX12_looks (l : Launch) (G : GG) {K : SK} (hL : Lay K) (M : MM) (x1 : Int32) (x2 : Int32) (x3 : Int32) (pp : (Int32 × MM)) (hf : fX12_looks M x1 x2 x3 = some pp) : Ct l yX12_looks cX12_looks 4 (some .int) 3 0 0 G K M [.ref (G.1 + 90), .int x1, .int x2, .int x3] (some (.int pp.1)) K pp.2 := by
  refine z_enter (lv := [(0, .ref (G.1 + 90)), (1, .int x1), (2, .int x2), (3, .int x3)]) (by decide +kernel) (Nat.le_of_ble_eq_true rfl) rfl ?_
  intro p e s m args below meth c C hnm hs0
  replace C : CX p s m args meth c cX12_looks 4 (some .int) RX12 G := C
  unfold fX12_looks at hf
  refine z_aload_n C 0 0 dX12_looks_0 rfl rfl ?_
  refine z_iload_n C 1 1 dX12_looks_1 rfl rfl ?_
  replace hf := bd_out hf
  obtain ⟨p1, e2, hf⟩ := hf
  refine z_cV1 C [] (tX12_isParish l G hL M x1 _ e2) lk_X12_isParish ok_X12 (lay_c90 hL) q_ml_X12_225 rfl ⟨Nat.le_of_ble_eq_true rfl, Nat.le_of_ble_eq_true rfl⟩ rfl (Nat.le_of_ble_eq_true rfl) ⟨Nat.le_refl _, Nat.le_refl _⟩ dX12_looks_2 ?_
  refine z_if_eq C 35 dX12_looks_5 (by decide) (fun c3 => ?_) (fun c3 => ?_)
  · replace hf := ite_t c3 hf
    refine z_bipush C (-2) dX12_looks_35 (by decide) ?_
    cases hf
    exact z_iret C rfl dX12_looks_37
  · replace hf := ite_f c3 hf
    refine z_aload_n C 0 0 dX12_looks_8 rfl rfl ?_
    refine z_iload_n C 2 2 dX12_looks_9 rfl rfl ?_
    replace hf := bd_out hf
    obtain ⟨p4, e5, hf⟩ := hf
    refine z_cV1 C [] (tX12_isShine l G hL p1.2 x2 _ e5) lk_X12_isShine ok_X12 (lay_c90 hL) q_ml_X12_234 rfl ⟨Nat.le_of_ble_eq_true rfl, Nat.le_of_ble_eq_true rfl⟩ rfl (Nat.le_of_ble_eq_true rfl) ⟨Nat.le_refl _, Nat.le_refl _⟩ dX12_looks_10 ?_
    refine z_if_eq C 35 dX12_looks_13 (by decide) (fun c6 => ?_) (fun c6 => ?_)
    · replace hf := ite_t c6 hf
      refine z_bipush C (-2) dX12_looks_35 (by decide) ?_
      cases hf
      exact z_iret C rfl dX12_looks_37
    · replace hf := ite_f c6 hf
      refine z_iload_n C 3 3 dX12_looks_16 rfl rfl ?_
      refine z_iconst C 0 dX12_looks_17 (by decide) ?_
      refine z_bipush C 7 dX12_looks_18 (by decide) ?_
      refine z_cS1 C [] (tX12_isIn l G hL p1.2 x3 0 7) lk_X12_isIn q_ml_X12_141 rfl ⟨Nat.le_of_ble_eq_true rfl, Nat.le_of_ble_eq_true rfl⟩ rfl (Nat.le_of_ble_eq_true rfl) ⟨Nat.le_refl _, Nat.le_refl _⟩ dX12_looks_20 ?_
      refine z_if_eq C 35 dX12_looks_23 (by decide) (fun c7 => ?_) (fun c7 => ?_)
      · replace hf := ite_t c7 hf
        refine z_bipush C (-2) dX12_looks_35 (by decide) ?_
        cases hf
        exact z_iret C rfl dX12_looks_37
      · replace hf := ite_f c7 hf
        refine z_aload_n C 0 0 dX12_looks_26 rfl rfl ?_
        refine z_iload_n C 2 2 dX12_looks_27 rfl rfl ?_
        refine z_iload_n C 3 3 dX12_looks_28 rfl rfl ?_
        replace hf := bd_out hf
        obtain ⟨p8, e9, hf⟩ := hf
        refine z_cV1 C [] (tX12_meets l G hL p1.2 x2 x3 _ e9) lk_X12_meets ok_X12 (lay_c90 hL) q_ml_X12_252 rfl ⟨Nat.le_of_ble_eq_true rfl, Nat.le_of_ble_eq_true rfl⟩ rfl (Nat.le_of_ble_eq_true rfl) ⟨Nat.le_refl _, Nat.le_refl _⟩ dX12_looks_29 ?_
        refine z_goto C 37 dX12_looks_32 (by decide) ?_
        cases hf
        exact z_iret C rfl dX12_looks_37
set_option maxHeartbeats 4000000 in
set_option maxRecDepth 100000 in
theorem tX12_degree (l : Launch) (G : GG) {K : SK} (hL : Lay K) (M : MM) (x1 : Int32) (x2 : Int32) (x3 : Int32) (pp : (Int32 × MM)) (hf : fX12_degree M x1 x2 x3 = some pp) : Ct l yX12_degree cX12_degree 4 (some .int) 4 0 0 G K M [.ref (G.1 + 90), .int x1, .int x2, .int x3] (some (.int pp.1)) K pp.2 := by
  refine z_enter (lv := [(0, .ref (G.1 + 90)), (1, .int x1), (2, .int x2), (3, .int x3)]) (by decide +kernel) (Nat.le_of_ble_eq_true rfl) rfl ?_
  intro p e s m args below meth c C hnm hs0
  replace C : CX p s m args meth c cX12_degree 4 (some .int) RX12 G := C
  unfold fX12_degree at hf
  refine z_aload_n C 0 0 dX12_degree_0 rfl rfl ?_
  refine z_iload_n C 1 1 dX12_degree_1 rfl rfl ?_
  replace hf := bd_out hf
  obtain ⟨p1, e2, hf⟩ := hf
  refine z_cV1 C [] (tX12_isParish l G hL M x1 _ e2) lk_X12_isParish ok_X12 (lay_c90 hL) q_ml_X12_225 rfl ⟨Nat.le_of_ble_eq_true rfl, Nat.le_of_ble_eq_true rfl⟩ rfl (Nat.le_of_ble_eq_true rfl) ⟨Nat.le_refl _, Nat.le_refl _⟩ dX12_degree_2 ?_
  refine z_if_eq C 24 dX12_degree_5 (by decide) (fun c3 => ?_) (fun c3 => ?_)
  · replace hf := ite_t c3 hf
    refine z_bipush C (-2) dX12_degree_24 (by decide) ?_
    cases hf
    exact z_iret C rfl dX12_degree_26
  · replace hf := ite_f c3 hf
    refine z_aload_n C 0 0 dX12_degree_8 rfl rfl ?_
    refine z_iload_n C 2 2 dX12_degree_9 rfl rfl ?_
    replace hf := bd_out hf
    obtain ⟨p4, e5, hf⟩ := hf
    refine z_cV1 C [] (tX12_isShine l G hL p1.2 x2 _ e5) lk_X12_isShine ok_X12 (lay_c90 hL) q_ml_X12_234 rfl ⟨Nat.le_of_ble_eq_true rfl, Nat.le_of_ble_eq_true rfl⟩ rfl (Nat.le_of_ble_eq_true rfl) ⟨Nat.le_refl _, Nat.le_refl _⟩ dX12_degree_10 ?_
    refine z_if_eq C 24 dX12_degree_13 (by decide) (fun c6 => ?_) (fun c6 => ?_)
    · replace hf := ite_t c6 hf
      refine z_bipush C (-2) dX12_degree_24 (by decide) ?_
      cases hf
      exact z_iret C rfl dX12_degree_26
    · replace hf := ite_f c6 hf
      refine z_aload_n C 0 0 dX12_degree_16 rfl rfl ?_
      refine z_iload_n C 3 3 dX12_degree_17 rfl rfl ?_
      replace hf := bd_out hf
      obtain ⟨p7, e8, hf⟩ := hf
      refine z_cV1 C [] (tX12_isPerson l G hL p1.2 x3 _ e8) lk_X12_isPerson ok_X12 (lay_c90 hL) q_ml_X12_228 rfl ⟨Nat.le_of_ble_eq_true rfl, Nat.le_of_ble_eq_true rfl⟩ rfl (Nat.le_of_ble_eq_true rfl) ⟨Nat.le_refl _, Nat.le_refl _⟩ dX12_degree_18 ?_
      refine z_if_ne C 27 dX12_degree_21 (by decide) (fun c9 => ?_) (fun c9 => ?_)
      · replace hf := ite_f c9 hf
        refine z_aload_n C 0 0 dX12_degree_27 rfl rfl ?_
        replace hf := bd_out hf
        obtain ⟨p10, e11, hf⟩ := hf
        refine z_cV0 C [] (tX12_laysOut l G hL p1.2  _ e11) lk_X12_laysOut ok_X12 (lay_c90 hL) q_ml_X12_258 rfl ⟨Nat.le_of_ble_eq_true rfl, Nat.le_of_ble_eq_true rfl⟩ rfl (Nat.le_of_ble_eq_true rfl) ⟨Nat.le_refl _, Nat.le_refl _⟩ dX12_degree_28 ?_
        refine z_aload_n C 0 0 dX12_degree_31 rfl rfl ?_
        refine z_getR C ok_X12 (lay_c90 hL) 24 (102) (by decide) rfl (lay_r90_24 hL) q_fl_X12_44 dX12_degree_32 ?_
        refine z_bipush C 8 dX12_degree_35 (by decide) ?_
        refine z_iload_n C 2 2 dX12_degree_37 rfl rfl ?_
        refine z_imul C dX12_degree_38 ?_
        refine z_iload_n C 3 3 dX12_degree_39 rfl rfl ?_
        refine z_iadd C dX12_degree_40 ?_
        replace hf := gd_out hf
        obtain ⟨g12, hf⟩ := hf
        refine z_iald C (lay_c102 hL) (inb_in g12) dX12_degree_41 ?_
        refine z_bipush C 99 dX12_degree_42 (by decide) ?_
        refine z_icmp_ne C 51 dX12_degree_44 (by decide) (fun c13 => ?_) (fun c13 => ?_)
        · replace hf := ite_f c13 hf
          refine z_aload_n C 0 0 dX12_degree_51 rfl rfl ?_
          refine z_getR C ok_X12 (lay_c90 hL) 24 (102) (by decide) rfl (lay_r90_24 hL) q_fl_X12_44 dX12_degree_52 ?_
          refine z_bipush C 8 dX12_degree_55 (by decide) ?_
          refine z_iload_n C 2 2 dX12_degree_57 rfl rfl ?_
          refine z_imul C dX12_degree_58 ?_
          refine z_iload_n C 3 3 dX12_degree_59 rfl rfl ?_
          refine z_iadd C dX12_degree_60 ?_
          replace hf := gd_out hf
          obtain ⟨g14, hf⟩ := hf
          refine z_iald C (lay_c102 hL) (inb_in g14) dX12_degree_61 ?_
          cases hf
          exact z_iret C rfl dX12_degree_62
        · replace hf := ite_t c13 hf
          refine z_iconst C (-1) dX12_degree_47 (by decide) ?_
          refine z_goto C 62 dX12_degree_48 (by decide) ?_
          cases hf
          exact z_iret C rfl dX12_degree_62
      · replace hf := ite_t c9 hf
        refine z_bipush C (-2) dX12_degree_24 (by decide) ?_
        cases hf
        exact z_iret C rfl dX12_degree_26
set_option maxHeartbeats 4000000 in
set_option maxRecDepth 100000 in
theorem tX12_isLaw (l : Launch) (G : GG) {K : SK} (hL : Lay K) (M : MM) (x1 : Int32) (pp : (Int32 × MM)) (hf : fX12_isLaw M x1 = some pp) : Ct l yX12_isLaw cX12_isLaw 2 (some .boolean) 2 0 0 G K M [.ref (G.1 + 90), .int x1] (some (.int pp.1)) K pp.2 := by
  refine z_enter (lv := [(0, .ref (G.1 + 90)), (1, .int x1)]) (by decide +kernel) (Nat.le_of_ble_eq_true rfl) rfl ?_
  intro p e s m args below meth c C hnm hs0
  replace C : CX p s m args meth c cX12_isLaw 2 (some .boolean) RX12 G := C
  unfold fX12_isLaw at hf
  refine z_aload_n C 0 0 dX12_isLaw_0 rfl rfl ?_
  refine z_iconst C 1 dX12_isLaw_1 (by decide) ?_
  refine z_iload_n C 1 1 dX12_isLaw_2 rfl rfl ?_
  replace hf := bd_out hf
  obtain ⟨p1, e2, hf⟩ := hf
  refine z_cV1 C [] (tX12_isOf l G hL M 1 x1 _ e2) lk_X12_isOf ok_X12 (lay_c90 hL) q_ml_X12_179 rfl ⟨Nat.le_of_ble_eq_true rfl, Nat.le_of_ble_eq_true rfl⟩ rfl (Nat.le_of_ble_eq_true rfl) ⟨Nat.le_refl _, Nat.le_refl _⟩ dX12_isLaw_3 ?_
  refine z_if_ne C 11 dX12_isLaw_6 (by decide) (fun c3 => ?_) (fun c3 => ?_)
  · replace hf := ite_f c3 hf
    refine z_aload_n C 0 0 dX12_isLaw_11 rfl rfl ?_
    refine z_iconst C 1 dX12_isLaw_12 (by decide) ?_
    refine z_iload_n C 1 1 dX12_isLaw_13 rfl rfl ?_
    refine z_cS1 C [.ref (G.1 + 90)] (tX12_placeOf l G hL M 1 x1) lk_X12_placeOf q_ml_X12_204 rfl ⟨Nat.le_of_ble_eq_true rfl, Nat.le_of_ble_eq_true rfl⟩ rfl (Nat.le_of_ble_eq_true rfl) ⟨Nat.le_refl _, Nat.le_refl _⟩ dX12_isLaw_14 ?_
    refine z_putI C ok_X12 (lay_c90 hL) 26 (by decide) rfl rfl rfl rfl q_fl_X12_261 dX12_isLaw_17 ?_
    refine z_M (fun M4 e5 => ?_)
    replace hf := bnd_out e5 hf
    refine z_aload_n C 0 0 dX12_isLaw_20 rfl rfl ?_
    refine z_aload_n C 0 0 dX12_isLaw_21 rfl rfl ?_
    refine z_getR C ok_X12 (lay_c90 hL) 0 (91) (by decide) rfl (lay_r90_0 hL) q_fl_X12_7 dX12_isLaw_22 ?_
    refine z_aload_n C 0 0 dX12_isLaw_25 rfl rfl ?_
    refine z_getI C ok_X12 (lay_c90 hL) 26 (by decide) rfl q_fl_X12_261 dX12_isLaw_26 ?_
    refine z_iconst C 0 dX12_isLaw_29 (by decide) ?_
    refine z_iadd C dX12_isLaw_30 ?_
    replace hf := gd_out hf
    obtain ⟨g6, hf⟩ := hf
    refine z_iald C (lay_c91 hL) (inb_in g6) dX12_isLaw_31 ?_
    refine z_putI C ok_X12 (lay_c90 hL) 27 (by decide) rfl rfl rfl rfl q_fl_X12_264 dX12_isLaw_32 ?_
    refine z_M (fun M7 e8 => ?_)
    replace hf := bnd_out e8 hf
    refine z_iconst C 1 dX12_isLaw_35 (by decide) ?_
    cases hf
    exact z_zret C rfl nb1 dX12_isLaw_36
  · replace hf := ite_t c3 hf
    refine z_iconst C 0 dX12_isLaw_9 (by decide) ?_
    cases hf
    exact z_zret C rfl nb0 dX12_isLaw_10
set_option maxHeartbeats 4000000 in
set_option maxRecDepth 100000 in
theorem tX12_law (l : Launch) (G : GG) {K : SK} (hL : Lay K) (M : MM) (x1 : Int32) (x2 : Int32) (pp : (Int32 × MM)) (hf : fX12_law M x1 x2 = some pp) : Ct l yX12_law cX12_law 3 (some .int) 3 0 0 G K M [.ref (G.1 + 90), .int x1, .int x2] (some (.int pp.1)) K pp.2 := by
  refine z_enter (lv := [(0, .ref (G.1 + 90)), (1, .int x1), (2, .int x2)]) (by decide +kernel) (Nat.le_of_ble_eq_true rfl) rfl ?_
  intro p e s m args below meth c C hnm hs0
  replace C : CX p s m args meth c cX12_law 3 (some .int) RX12 G := C
  unfold fX12_law at hf
  refine z_aload_n C 0 0 dX12_law_0 rfl rfl ?_
  refine z_iload_n C 1 1 dX12_law_1 rfl rfl ?_
  replace hf := bd_out hf
  obtain ⟨p1, e2, hf⟩ := hf
  refine z_cV1 C [] (tX12_isLaw l G hL M x1 _ e2) lk_X12_isLaw ok_X12 (lay_c90 hL) q_ml_X12_267 rfl ⟨Nat.le_of_ble_eq_true rfl, Nat.le_of_ble_eq_true rfl⟩ rfl (Nat.le_of_ble_eq_true rfl) ⟨Nat.le_refl _, Nat.le_refl _⟩ dX12_law_2 ?_
  refine z_if_eq C 31 dX12_law_5 (by decide) (fun c3 => ?_) (fun c3 => ?_)
  · replace hf := ite_t c3 hf
    refine z_iconst C (-1) dX12_law_31 (by decide) ?_
    cases hf
    exact z_iret C rfl dX12_law_32
  · replace hf := ite_f c3 hf
    refine z_iload_n C 2 2 dX12_law_8 rfl rfl ?_
    refine z_iconst C 0 dX12_law_9 (by decide) ?_
    refine z_iconst C 5 dX12_law_10 (by decide) ?_
    refine z_cS1 C [] (tX12_isIn l G hL p1.2 x2 0 5) lk_X12_isIn q_ml_X12_141 rfl ⟨Nat.le_of_ble_eq_true rfl, Nat.le_of_ble_eq_true rfl⟩ rfl (Nat.le_of_ble_eq_true rfl) ⟨Nat.le_refl _, Nat.le_refl _⟩ dX12_law_11 ?_
    refine z_if_eq C 31 dX12_law_14 (by decide) (fun c4 => ?_) (fun c4 => ?_)
    · replace hf := ite_t c4 hf
      refine z_iconst C (-1) dX12_law_31 (by decide) ?_
      cases hf
      exact z_iret C rfl dX12_law_32
    · replace hf := ite_f c4 hf
      refine z_aload_n C 0 0 dX12_law_17 rfl rfl ?_
      refine z_getR C ok_X12 (lay_c90 hL) 0 (91) (by decide) rfl (lay_r90_0 hL) q_fl_X12_7 dX12_law_18 ?_
      refine z_aload_n C 0 0 dX12_law_21 rfl rfl ?_
      refine z_getI C ok_X12 (lay_c90 hL) 26 (by decide) rfl q_fl_X12_261 dX12_law_22 ?_
      refine z_iload_n C 2 2 dX12_law_25 rfl rfl ?_
      refine z_iadd C dX12_law_26 ?_
      replace hf := gd_out hf
      obtain ⟨g5, hf⟩ := hf
      refine z_iald C (lay_c91 hL) (inb_in g5) dX12_law_27 ?_
      refine z_goto C 32 dX12_law_28 (by decide) ?_
      cases hf
      exact z_iret C rfl dX12_law_32
set_option maxHeartbeats 4000000 in
set_option maxRecDepth 100000 in
theorem tX12_isSoup (l : Launch) (G : GG) {K : SK} (hL : Lay K) (M : MM) (x1 : Int32) (pp : Int32) (hf : fX12_isSoup M x1 = some pp) : Ct l yX12_isSoup cX12_isSoup 2 (some .boolean) 0 0 0 G K M [.ref (G.1 + 90), .int x1] (some (.int pp)) K M := by
  refine z_enter (lv := [(0, .ref (G.1 + 90)), (1, .int x1)]) (by decide +kernel) (Nat.le_of_ble_eq_true rfl) rfl ?_
  intro p e s m args below meth c C hnm hs0
  replace C : CX p s m args meth c cX12_isSoup 2 (some .boolean) RX12 G := C
  unfold fX12_isSoup at hf
  refine z_aload_n C 0 0 dX12_isSoup_0 rfl rfl ?_
  refine z_getR C ok_X12 (lay_c90 hL) 0 (91) (by decide) rfl (lay_r90_0 hL) q_fl_X12_7 dX12_isSoup_1 ?_
  refine z_aload_n C 0 0 dX12_isSoup_4 rfl rfl ?_
  refine z_getI C ok_X12 (lay_c90 hL) 26 (by decide) rfl q_fl_X12_261 dX12_isSoup_5 ?_
  refine z_iconst C 2 dX12_isSoup_8 (by decide) ?_
  refine z_iadd C dX12_isSoup_9 ?_
  replace hf := gd_out hf
  obtain ⟨g1, hf⟩ := hf
  refine z_iald C (lay_c91 hL) (inb_in g1) dX12_isSoup_10 ?_
  refine z_aload_n C 0 0 dX12_isSoup_11 rfl rfl ?_
  refine z_getR C ok_X12 (lay_c90 hL) 17 (96) (by decide) rfl (lay_r90_17 hL) q_fl_X12_26 dX12_isSoup_12 ?_
  refine z_iload_n C 1 1 dX12_isSoup_15 rfl rfl ?_
  replace hf := gd_out hf
  obtain ⟨g2, hf⟩ := hf
  refine z_iald C (lay_c96 hL) (inb_in g2) dX12_isSoup_16 ?_
  refine z_ishr C dX12_isSoup_17 ?_
  refine z_iconst C 1 dX12_isSoup_18 (by decide) ?_
  refine z_iand C dX12_isSoup_19 ?_
  refine z_iconst C 1 dX12_isSoup_20 (by decide) ?_
  refine z_icmp_ne C 28 dX12_isSoup_21 (by decide) (fun c3 => ?_) (fun c3 => ?_)
  · replace hf := ite_f c3 hf
    refine z_iconst C 0 dX12_isSoup_28 (by decide) ?_
    cases hf
    exact z_zret C rfl nb0 dX12_isSoup_29
  · replace hf := ite_t c3 hf
    refine z_iconst C 1 dX12_isSoup_24 (by decide) ?_
    refine z_goto C 29 dX12_isSoup_25 (by decide) ?_
    cases hf
    exact z_zret C rfl nb1 dX12_isSoup_29
set_option maxHeartbeats 4000000 in
set_option maxRecDepth 100000 in
theorem tX12_isNear (l : Launch) (G : GG) {K : SK} (hL : Lay K) (M : MM) (x1 : Int32) (x2 : Int32) (pp : Int32) (hf : fX12_isNear M x1 x2 = some pp) : Ct l yX12_isNear cX12_isNear 3 (some .boolean) 0 0 0 G K M [.ref (G.1 + 90), .int x1, .int x2] (some (.int pp)) K M := by
  refine z_enter (lv := [(0, .ref (G.1 + 90)), (1, .int x1), (2, .int x2)]) (by decide +kernel) (Nat.le_of_ble_eq_true rfl) rfl ?_
  intro p e s m args below meth c C hnm hs0
  replace C : CX p s m args meth c cX12_isNear 3 (some .boolean) RX12 G := C
  unfold fX12_isNear at hf
  refine z_aload_n C 0 0 dX12_isNear_0 rfl rfl ?_
  refine z_getR C ok_X12 (lay_c90 hL) 24 (102) (by decide) rfl (lay_r90_24 hL) q_fl_X12_44 dX12_isNear_1 ?_
  refine z_bipush C 8 dX12_isNear_4 (by decide) ?_
  refine z_iload_n C 1 1 dX12_isNear_6 rfl rfl ?_
  refine z_imul C dX12_isNear_7 ?_
  refine z_iload_n C 2 2 dX12_isNear_8 rfl rfl ?_
  refine z_iadd C dX12_isNear_9 ?_
  replace hf := gd_out hf
  obtain ⟨g1, hf⟩ := hf
  refine z_iald C (lay_c102 hL) (inb_in g1) dX12_isNear_10 ?_
  refine z_aload_n C 0 0 dX12_isNear_11 rfl rfl ?_
  refine z_getI C ok_X12 (lay_c90 hL) 27 (by decide) rfl q_fl_X12_264 dX12_isNear_12 ?_
  refine z_icmp_gt C 22 dX12_isNear_15 (by decide) (fun c2 => ?_) (fun c2 => ?_)
  · replace hf := ite_t c2 hf
    refine z_iconst C 0 dX12_isNear_22 (by decide) ?_
    cases hf
    exact z_zret C rfl nb0 dX12_isNear_23
  · replace hf := ite_f c2 hf
    refine z_iconst C 1 dX12_isNear_18 (by decide) ?_
    refine z_goto C 23 dX12_isNear_19 (by decide) ?_
    cases hf
    exact z_zret C rfl nb1 dX12_isNear_23
set_option maxHeartbeats 4000000 in
set_option maxRecDepth 100000 in
theorem wX12_countOf_j89 (C : CX p s m args meth c cX12_countOf 6 (some .int) RX12 G) (hs0 : s.heap.size = G.1 + K.1) (hL : Lay K) (M : MM) (k33 : Int32 → Int32 → Int32 → Int32 → Int32 → Option Int32) (pp : Int32) (hk33 : ∀ (y34 : Int32) (y35 : Int32) (y36 : Int32) (y37 : Int32) (y38 : Int32), k33 y34 y35 y36 y37 y38 = some pp → Z p l e (rmo 1 0 0) s m args below meth c 6 G (MQ below (QC G (some (.int pp)) K M) args s 0 0 (AG G)) K 0 0 M 33 [(0, .ref (G.1 + 90)), (1, .int y34), (2, .int y35), (3, .int y36), (4, .int y37), (5, .int y38)] []) (y29 : Int32) (y30 : Int32) (y31 : Int32) (y32 : Int32) (y33 : Int32) (hf : fX12_countOf_j89 M k33 y29 y30 y31 y32 y33 = some pp) : Z p l e (rmo 1 0 0) s m args below meth c 6 G (MQ below (QC G (some (.int pp)) K M) args s 0 0 (AG G)) K 0 0 M 89 [(0, .ref (G.1 + 90)), (1, .int y29), (2, .int y30), (3, .int y31), (5, .int y32)] [.int y33] := by
  unfold fX12_countOf_j89 at hf
  refine z_istore C [(4, .int y33), (0, .ref (G.1 + 90)), (1, .int y29), (2, .int y30), (3, .int y31), (5, .int y32)] dX12_countOf_89 (by decide) rfl rfl ?_
  refine z_iinc C 5 (y32 + 1) [(5, .int (y32 + 1)), (4, .int y33), (0, .ref (G.1 + 90)), (1, .int y29), (2, .int y30), (3, .int y31)] dX12_countOf_91 rfl rfl (by decide) rfl rfl ?_
  refine z_goto C 33 dX12_countOf_94 (by decide) ?_
  refine z_lv (lv2 := [(0, .ref (G.1 + 90)), (1, .int y29), (2, .int y30), (3, .int y31), (4, .int y33), (5, .int (y32 + 1))]) [2, 3, 4, 5, 1, 0] rfl ?_
  exact hk33 y29 y30 y31 y33 (y32 + 1)  hf
set_option maxHeartbeats 4000000 in
set_option maxRecDepth 100000 in
theorem wX12_countOf_j88 (C : CX p s m args meth c cX12_countOf 6 (some .int) RX12 G) (hs0 : s.heap.size = G.1 + K.1) (hL : Lay K) (M : MM) (k33 : Int32 → Int32 → Int32 → Int32 → Int32 → Option Int32) (pp : Int32) (hk33 : ∀ (y44 : Int32) (y45 : Int32) (y46 : Int32) (y47 : Int32) (y48 : Int32), k33 y44 y45 y46 y47 y48 = some pp → Z p l e (rmo 1 0 0) s m args below meth c 6 G (MQ below (QC G (some (.int pp)) K M) args s 0 0 (AG G)) K 0 0 M 33 [(0, .ref (G.1 + 90)), (1, .int y44), (2, .int y45), (3, .int y46), (4, .int y47), (5, .int y48)] []) (y25 : Int32) (y26 : Int32) (y27 : Int32) (y28 : Int32) (hf : fX12_countOf_j88 M k33 y25 y26 y27 y28 = some pp) : Z p l e (rmo 1 0 0) s m args below meth c 6 G (MQ below (QC G (some (.int pp)) K M) args s 0 0 (AG G)) K 0 0 M 88 [(0, .ref (G.1 + 90)), (1, .int y25), (2, .int y26), (3, .int y27), (5, .int y28)] [] := by
  unfold fX12_countOf_j88 at hf
  refine z_iconst C 0 dX12_countOf_88 (by decide) ?_
  refine wX12_countOf_j89 C hs0 hL M _ pp ?_ y25 y26 y27 y28 0 hf
  · intro y39 y40 y41 y42 y43 hf
    exact hk33 y39 y40 y41 y42 y43  hf
set_option maxHeartbeats 4000000 in
set_option maxRecDepth 100000 in
theorem wX12_countOf_j84 (C : CX p s m args meth c cX12_countOf 6 (some .int) RX12 G) (hs0 : s.heap.size = G.1 + K.1) (hL : Lay K) (M : MM) (k33 : Int32 → Int32 → Int32 → Int32 → Int32 → Option Int32) (pp : Int32) (hk33 : ∀ (y66 : Int32) (y67 : Int32) (y68 : Int32) (y69 : Int32) (y70 : Int32), k33 y66 y67 y68 y69 y70 = some pp → Z p l e (rmo 1 0 0) s m args below meth c 6 G (MQ below (QC G (some (.int pp)) K M) args s 0 0 (AG G)) K 0 0 M 33 [(0, .ref (G.1 + 90)), (1, .int y66), (2, .int y67), (3, .int y68), (4, .int y69), (5, .int y70)] []) (y57 : Int32) (y58 : Int32) (y59 : Int32) (y60 : Int32) (hf : fX12_countOf_j84 M k33 y57 y58 y59 y60 = some pp) : Z p l e (rmo 1 0 0) s m args below meth c 6 G (MQ below (QC G (some (.int pp)) K M) args s 0 0 (AG G)) K 0 0 M 84 [(0, .ref (G.1 + 90)), (1, .int y57), (2, .int y58), (3, .int y59), (5, .int y60)] [] := by
  unfold fX12_countOf_j84 at hf
  refine z_iconst C 1 dX12_countOf_84 (by decide) ?_
  refine z_goto C 89 dX12_countOf_85 (by decide) ?_
  refine wX12_countOf_j89 C hs0 hL M _ pp ?_ y57 y58 y59 y60 1 hf
  · intro y61 y62 y63 y64 y65 hf
    exact hk33 y61 y62 y63 y64 y65  hf
set_option maxHeartbeats 4000000 in
set_option maxRecDepth 100000 in
theorem wX12_countOf_l33 (C : CX p s m args meth c cX12_countOf 6 (some .int) RX12 G) (hs0 : s.heap.size = G.1 + K.1) (hL : Lay K) (M : MM) (k97 : Int32 → Int32 → Int32 → Int32 → Option Int32) (pp : Int32) (hk97 : ∀ (y18 : Int32) (y19 : Int32) (y20 : Int32) (y21 : Int32), k97 y18 y19 y20 y21 = some pp → Z p l e (rmo 1 0 0) s m args below meth c 6 G (MQ below (QC G (some (.int pp)) K M) args s 0 0 (AG G)) K 0 0 M 97 [(0, .ref (G.1 + 90)), (1, .int y18), (2, .int y19), (3, .int y20), (4, .int y21)] []) : ∀ (n : Nat) (y12 : Int32) (y13 : Int32) (y14 : Int32) (y15 : Int32) (y16 : Int32) (hf : fX12_countOf_l33 M k97 n y12 y13 y14 y15 y16 = some pp), Z p l e (rmo 1 0 0) s m args below meth c 6 G (MQ below (QC G (some (.int pp)) K M) args s 0 0 (AG G)) K 0 0 M 33 [(0, .ref (G.1 + 90)), (1, .int y12), (2, .int y13), (3, .int y14), (4, .int y15), (5, .int y16)] [] := by
  intro n
  induction n with
  | zero => intro y12 y13 y14 y15 y16 hf; exact nomatch (show (none : Option Int32) = some pp from hf)
  | succ n ih =>
    intro y12 y13 y14 y15 y16 hf
    rw [fX12_countOf_l33.eq_2] at hf
    refine z_iload C 5 dX12_countOf_33 rfl ?_
    refine z_iload_n C 3 3 dX12_countOf_35 rfl rfl ?_
    refine z_icmp_ge C 97 dX12_countOf_36 (by decide) (fun c17 => ?_) (fun c17 => ?_)
    · replace hf := ite_t c17 hf
      refine z_lv (lv2 := [(0, .ref (G.1 + 90)), (1, .int y12), (2, .int y13), (3, .int y14), (4, .int y15)]) [0, 1, 2, 3, 4] rfl ?_
      exact hk97 y12 y13 y14 y15  hf
    · replace hf := ite_f c17 hf
      refine z_aload_n C 0 0 dX12_countOf_39 rfl rfl ?_
      refine z_getR C ok_X12 (lay_c90 hL) 0 (91) (by decide) rfl (lay_r90_0 hL) q_fl_X12_7 dX12_countOf_40 ?_
      refine z_aload_n C 0 0 dX12_countOf_43 rfl rfl ?_
      refine z_getI C ok_X12 (lay_c90 hL) 26 (by decide) rfl q_fl_X12_261 dX12_countOf_44 ?_
      refine z_iconst C 1 dX12_countOf_47 (by decide) ?_
      refine z_iadd C dX12_countOf_48 ?_
      replace hf := gd_out hf
      obtain ⟨g22, hf⟩ := hf
      refine z_iald C (lay_c91 hL) (inb_in g22) dX12_countOf_49 ?_
      refine z_if_ne C 97 dX12_countOf_50 (by decide) (fun c23 => ?_) (fun c23 => ?_)
      · replace hf := ite_f c23 hf
        refine z_lv (lv2 := [(0, .ref (G.1 + 90)), (1, .int y12), (2, .int y13), (3, .int y14), (4, .int y15)]) [0, 1, 2, 3, 4] rfl ?_
        exact hk97 y12 y13 y14 y15  hf
      · replace hf := ite_t c23 hf
        refine z_iload C 4 dX12_countOf_53 rfl ?_
        refine z_if_eq C 88 dX12_countOf_55 (by decide) (fun c24 => ?_) (fun c24 => ?_)
        · replace hf := ite_t c24 hf
          refine z_lv (lv2 := [(0, .ref (G.1 + 90)), (1, .int y12), (2, .int y13), (3, .int y14), (5, .int y16)]) [0, 1, 2, 3, 5] rfl ?_
          refine wX12_countOf_j88 C hs0 hL M _ pp ?_ y12 y13 y14 y16 hf
          · intro y49 y50 y51 y52 y53 hf
            exact ih y49 y50 y51 y52 y53  hf
        · replace hf := ite_f c24 hf
          refine z_aload_n C 0 0 dX12_countOf_58 rfl rfl ?_
          refine z_iload_n C 1 1 dX12_countOf_59 rfl rfl ?_
          refine z_iload C 5 dX12_countOf_60 rfl ?_
          replace hf := bd_out hf
          obtain ⟨p54, e55, hf⟩ := hf
          refine z_cV1 C [] (tX12_isNear l G hL M y12 y16 _ e55) lk_X12_isNear ok_X12 (lay_c90 hL) q_ml_X12_273 rfl ⟨Nat.le_of_ble_eq_true rfl, Nat.le_of_ble_eq_true rfl⟩ rfl (Nat.le_of_ble_eq_true rfl) ⟨Nat.le_refl _, Nat.le_refl _⟩ dX12_countOf_62 ?_
          refine z_if_eq C 84 dX12_countOf_65 (by decide) (fun c56 => ?_) (fun c56 => ?_)
          · replace hf := ite_t c56 hf
            refine z_lv (lv2 := [(0, .ref (G.1 + 90)), (1, .int y12), (2, .int y13), (3, .int y14), (5, .int y16)]) [0, 1, 2, 3, 5] rfl ?_
            refine wX12_countOf_j84 C hs0 hL M _ pp ?_ y12 y13 y14 y16 hf
            · intro y71 y72 y73 y74 y75 hf
              exact ih y71 y72 y73 y74 y75  hf
          · replace hf := ite_f c56 hf
            refine z_aload_n C 0 0 dX12_countOf_68 rfl rfl ?_
            refine z_getR C ok_X12 (lay_c90 hL) 16 (95) (by decide) rfl (lay_r90_16 hL) q_fl_X12_23 dX12_countOf_69 ?_
            refine z_iload C 5 dX12_countOf_72 rfl ?_
            replace hf := gd_out hf
            obtain ⟨g76, hf⟩ := hf
            refine z_iald C (lay_c95 hL) (inb_in g76) dX12_countOf_74 ?_
            refine z_aload_n C 0 0 dX12_countOf_75 rfl rfl ?_
            refine z_getR C ok_X12 (lay_c90 hL) 16 (95) (by decide) rfl (lay_r90_16 hL) q_fl_X12_23 dX12_countOf_76 ?_
            refine z_iload_n C 3 3 dX12_countOf_79 rfl rfl ?_
            replace hf := gd_out hf
            obtain ⟨g77, hf⟩ := hf
            refine z_iald C (lay_c95 hL) (inb_in g77) dX12_countOf_80 ?_
            refine z_icmp_eq C 88 dX12_countOf_81 (by decide) (fun c78 => ?_) (fun c78 => ?_)
            · replace hf := ite_t c78 hf
              refine z_lv (lv2 := [(0, .ref (G.1 + 90)), (1, .int y12), (2, .int y13), (3, .int y14), (5, .int y16)]) [0, 1, 2, 3, 5] rfl ?_
              refine wX12_countOf_j88 C hs0 hL M _ pp ?_ y12 y13 y14 y16 hf
              · intro y79 y80 y81 y82 y83 hf
                exact ih y79 y80 y81 y82 y83  hf
            · replace hf := ite_f c78 hf
              refine z_lv (lv2 := [(0, .ref (G.1 + 90)), (1, .int y12), (2, .int y13), (3, .int y14), (5, .int y16)]) [0, 1, 2, 3, 5] rfl ?_
              refine wX12_countOf_j84 C hs0 hL M _ pp ?_ y12 y13 y14 y16 hf
              · intro y84 y85 y86 y87 y88 hf
                exact ih y84 y85 y86 y87 y88  hf
set_option maxHeartbeats 4000000 in
set_option maxRecDepth 100000 in
theorem wX12_countOf_j108 (C : CX p s m args meth c cX12_countOf 6 (some .int) RX12 G) (hs0 : s.heap.size = G.1 + K.1) (hL : Lay K) (M : MM) (k14 : Int32 → Int32 → Int32 → Option Int32) (pp : Int32) (hk14 : ∀ (y104 : Int32) (y105 : Int32) (y106 : Int32), k14 y104 y105 y106 = some pp → Z p l e (rmo 1 0 0) s m args below meth c 6 G (MQ below (QC G (some (.int pp)) K M) args s 0 0 (AG G)) K 0 0 M 14 [(0, .ref (G.1 + 90)), (1, .int y104), (2, .int y105), (3, .int y106)] []) (y98 : Int32) (y99 : Int32) (y100 : Int32) (y101 : Int32) (hf : fX12_countOf_j108 M k14 y98 y99 y100 y101 = some pp) : Z p l e (rmo 1 0 0) s m args below meth c 6 G (MQ below (QC G (some (.int pp)) K M) args s 0 0 (AG G)) K 0 0 M 108 [(0, .ref (G.1 + 90)), (1, .int y98), (3, .int y99)] [.int y101, .int y100] := by
  unfold fX12_countOf_j108 at hf
  refine z_iadd C dX12_countOf_108 ?_
  refine z_topi (fun v102 e103 => ?_)
  replace hf := bnd_out e103 hf
  refine z_istore_n C [(2, .int v102), (0, .ref (G.1 + 90)), (1, .int y98), (3, .int y99)] dX12_countOf_109 rfl (by decide) rfl rfl ?_
  refine z_iinc C 3 (y99 + 1) [(3, .int (y99 + 1)), (2, .int v102), (0, .ref (G.1 + 90)), (1, .int y98)] dX12_countOf_110 rfl rfl (by decide) rfl rfl ?_
  refine z_goto C 14 dX12_countOf_113 (by decide) ?_
  refine z_lv (lv2 := [(0, .ref (G.1 + 90)), (1, .int y98), (2, .int v102), (3, .int (y99 + 1))]) [2, 3, 1, 0] rfl ?_
  exact hk14 y98 v102 (y99 + 1)  hf
set_option maxHeartbeats 4000000 in
set_option maxRecDepth 100000 in
theorem wX12_countOf_j97 (C : CX p s m args meth c cX12_countOf 6 (some .int) RX12 G) (hs0 : s.heap.size = G.1 + K.1) (hL : Lay K) (M : MM) (k14 : Int32 → Int32 → Int32 → Option Int32) (pp : Int32) (hk14 : ∀ (y110 : Int32) (y111 : Int32) (y112 : Int32), k14 y110 y111 y112 = some pp → Z p l e (rmo 1 0 0) s m args below meth c 6 G (MQ below (QC G (some (.int pp)) K M) args s 0 0 (AG G)) K 0 0 M 14 [(0, .ref (G.1 + 90)), (1, .int y110), (2, .int y111), (3, .int y112)] []) (y93 : Int32) (y94 : Int32) (y95 : Int32) (y96 : Int32) (hf : fX12_countOf_j97 M k14 y93 y94 y95 y96 = some pp) : Z p l e (rmo 1 0 0) s m args below meth c 6 G (MQ below (QC G (some (.int pp)) K M) args s 0 0 (AG G)) K 0 0 M 97 [(0, .ref (G.1 + 90)), (1, .int y93), (2, .int y94), (3, .int y95), (4, .int y96)] [] := by
  unfold fX12_countOf_j97 at hf
  refine z_iload_n C 2 2 dX12_countOf_97 rfl rfl ?_
  refine z_iload C 4 dX12_countOf_98 rfl ?_
  refine z_if_eq C 107 dX12_countOf_100 (by decide) (fun c97 => ?_) (fun c97 => ?_)
  · replace hf := ite_t c97 hf
    refine z_iconst C 0 dX12_countOf_107 (by decide) ?_
    refine z_lv (lv2 := [(0, .ref (G.1 + 90)), (1, .int y93), (3, .int y95)]) [0, 1, 3] rfl ?_
    refine wX12_countOf_j108 C hs0 hL M _ pp ?_ y93 y95 y94 0 hf
    · intro y107 y108 y109 hf
      exact hk14 y107 y108 y109  hf
  · replace hf := ite_f c97 hf
    refine z_iconst C 1 dX12_countOf_103 (by decide) ?_
    refine z_goto C 108 dX12_countOf_104 (by decide) ?_
    refine z_lv (lv2 := [(0, .ref (G.1 + 90)), (1, .int y93), (3, .int y95)]) [0, 1, 3] rfl ?_
    refine wX12_countOf_j108 C hs0 hL M _ pp ?_ y93 y95 y94 1 hf
    · intro y113 y114 y115 hf
      exact hk14 y113 y114 y115  hf
set_option maxHeartbeats 4000000 in
set_option maxRecDepth 100000 in
theorem wX12_countOf_l14 (C : CX p s m args meth c cX12_countOf 6 (some .int) RX12 G) (hs0 : s.heap.size = G.1 + K.1) (hL : Lay K) (M : MM) (k116 : Int32 → Int32 → Option Int32) (pp : Int32) (hk116 : ∀ (y8 : Int32) (y9 : Int32), k116 y8 y9 = some pp → Z p l e (rmo 1 0 0) s m args below meth c 6 G (MQ below (QC G (some (.int pp)) K M) args s 0 0 (AG G)) K 0 0 M 116 [(0, .ref (G.1 + 90)), (1, .int y8), (2, .int y9)] []) : ∀ (n : Nat) (y4 : Int32) (y5 : Int32) (y6 : Int32) (hf : fX12_countOf_l14 M k116 n y4 y5 y6 = some pp), Z p l e (rmo 1 0 0) s m args below meth c 6 G (MQ below (QC G (some (.int pp)) K M) args s 0 0 (AG G)) K 0 0 M 14 [(0, .ref (G.1 + 90)), (1, .int y4), (2, .int y5), (3, .int y6)] [] := by
  intro n
  induction n with
  | zero => intro y4 y5 y6 hf; exact nomatch (show (none : Option Int32) = some pp from hf)
  | succ n ih =>
    intro y4 y5 y6 hf
    rw [fX12_countOf_l14.eq_2] at hf
    refine z_iload_n C 3 3 dX12_countOf_14 rfl rfl ?_
    refine z_aload_n C 0 0 dX12_countOf_15 rfl rfl ?_
    refine z_getI C ok_X12 (lay_c90 hL) 13 (by decide) rfl q_fl_X12_213 dX12_countOf_16 ?_
    refine z_icmp_ge C 116 dX12_countOf_19 (by decide) (fun c7 => ?_) (fun c7 => ?_)
    · replace hf := ite_t c7 hf
      refine z_lv (lv2 := [(0, .ref (G.1 + 90)), (1, .int y4), (2, .int y5)]) [0, 1, 2] rfl ?_
      exact hk116 y4 y5  hf
    · replace hf := ite_f c7 hf
      refine z_aload_n C 0 0 dX12_countOf_22 rfl rfl ?_
      refine z_iload_n C 1 1 dX12_countOf_23 rfl rfl ?_
      refine z_iload_n C 3 3 dX12_countOf_24 rfl rfl ?_
      replace hf := bd_out hf
      obtain ⟨p10, e11, hf⟩ := hf
      refine z_cV1 C [] (tX12_isNear l G hL M y4 y6 _ e11) lk_X12_isNear ok_X12 (lay_c90 hL) q_ml_X12_273 rfl ⟨Nat.le_of_ble_eq_true rfl, Nat.le_of_ble_eq_true rfl⟩ rfl (Nat.le_of_ble_eq_true rfl) ⟨Nat.le_refl _, Nat.le_refl _⟩ dX12_countOf_25 ?_
      refine z_istore C [(4, .int p10), (0, .ref (G.1 + 90)), (1, .int y4), (2, .int y5), (3, .int y6)] dX12_countOf_28 (by decide) rfl rfl ?_
      refine z_iconst C 0 dX12_countOf_30 (by decide) ?_
      refine z_istore C [(5, .int 0), (4, .int p10), (0, .ref (G.1 + 90)), (1, .int y4), (2, .int y5), (3, .int y6)] dX12_countOf_31 (by decide) rfl rfl ?_
      refine z_lv (lv2 := [(0, .ref (G.1 + 90)), (1, .int y4), (2, .int y5), (3, .int y6), (4, .int p10), (5, .int 0)]) [2, 3, 4, 5, 1, 0] rfl ?_
      refine wX12_countOf_l33 C hs0 hL M _ pp ?_ FU y4 y5 y6 p10 0 hf
      · intro y89 y90 y91 y92 hf
        refine wX12_countOf_j97 C hs0 hL M _ pp ?_ y89 y90 y91 y92 hf
        · intro y116 y117 y118 hf
          exact ih y116 y117 y118  hf
set_option maxHeartbeats 4000000 in
set_option maxRecDepth 100000 in
theorem tX12_countOf (l : Launch) (G : GG) {K : SK} (hL : Lay K) (M : MM) (x1 : Int32) (pp : Int32) (hf : fX12_countOf M x1 = some pp) : Ct l yX12_countOf cX12_countOf 6 (some .int) 1 0 0 G K M [.ref (G.1 + 90), .int x1] (some (.int pp)) K M := by
  refine z_enter (lv := [(0, .ref (G.1 + 90)), (1, .int x1)]) (by decide +kernel) (Nat.le_of_ble_eq_true rfl) rfl ?_
  intro p e s m args below meth c C hnm hs0
  replace C : CX p s m args meth c cX12_countOf 6 (some .int) RX12 G := C
  unfold fX12_countOf at hf
  refine z_aload_n C 0 0 dX12_countOf_0 rfl rfl ?_
  refine z_iload_n C 1 1 dX12_countOf_1 rfl rfl ?_
  replace hf := bd_out hf
  obtain ⟨p1, e2, hf⟩ := hf
  refine z_cV1 C [] (tX12_isSoup l G hL M x1 _ e2) lk_X12_isSoup ok_X12 (lay_c90 hL) q_ml_X12_270 rfl ⟨Nat.le_of_ble_eq_true rfl, Nat.le_of_ble_eq_true rfl⟩ rfl (Nat.le_of_ble_eq_true rfl) ⟨Nat.le_refl _, Nat.le_refl _⟩ dX12_countOf_2 ?_
  refine z_if_eq C 10 dX12_countOf_5 (by decide) (fun c3 => ?_) (fun c3 => ?_)
  · replace hf := ite_t c3 hf
    refine z_iconst C 0 dX12_countOf_10 (by decide) ?_
    refine z_istore_n C [(2, .int 0), (0, .ref (G.1 + 90)), (1, .int x1)] dX12_countOf_11 rfl (by decide) rfl rfl ?_
    refine z_iconst C 0 dX12_countOf_12 (by decide) ?_
    refine z_istore_n C [(3, .int 0), (2, .int 0), (0, .ref (G.1 + 90)), (1, .int x1)] dX12_countOf_13 rfl (by decide) rfl rfl ?_
    refine z_lv (lv2 := [(0, .ref (G.1 + 90)), (1, .int x1), (2, .int 0), (3, .int 0)]) [2, 3, 1, 0] rfl ?_
    refine wX12_countOf_l14 C hs0 hL M _ pp ?_ FU x1 0 0 hf
    · intro y119 y120 hf
      refine z_iload_n C 2 2 dX12_countOf_116 rfl rfl ?_
      refine z_aload_n C 0 0 dX12_countOf_117 rfl rfl ?_
      refine z_getR C ok_X12 (lay_c90 hL) 20 (99) (by decide) rfl (lay_r90_20 hL) q_fl_X12_35 dX12_countOf_118 ?_
      refine z_iload_n C 1 1 dX12_countOf_121 rfl rfl ?_
      replace hf := gd_out hf
      obtain ⟨g121, hf⟩ := hf
      refine z_iald C (lay_c99 hL) (inb_in g121) dX12_countOf_122 ?_
      refine z_icmp_ge C 130 dX12_countOf_123 (by decide) (fun c122 => ?_) (fun c122 => ?_)
      · replace hf := ite_t c122 hf
        refine z_aload_n C 0 0 dX12_countOf_130 rfl rfl ?_
        refine z_getR C ok_X12 (lay_c90 hL) 20 (99) (by decide) rfl (lay_r90_20 hL) q_fl_X12_35 dX12_countOf_131 ?_
        refine z_iload_n C 1 1 dX12_countOf_134 rfl rfl ?_
        replace hf := gd_out hf
        obtain ⟨g123, hf⟩ := hf
        refine z_iald C (lay_c99 hL) (inb_in g123) dX12_countOf_135 ?_
        cases hf
        exact z_iret C rfl dX12_countOf_136
      · replace hf := ite_f c122 hf
        refine z_iload_n C 2 2 dX12_countOf_126 rfl rfl ?_
        refine z_goto C 136 dX12_countOf_127 (by decide) ?_
        cases hf
        exact z_iret C rfl dX12_countOf_136
  · replace hf := ite_f c3 hf
    refine z_iconst C 0 dX12_countOf_8 (by decide) ?_
    cases hf
    exact z_iret C rfl dX12_countOf_9
set_option maxHeartbeats 4000000 in
set_option maxRecDepth 100000 in
theorem wX12_sum_l8 (C : CX p s m args meth c cX12_sum 3 (some .int) RX12 G) (hs0 : s.heap.size = G.1 + K.1) (hL : Lay K)   (pp : (Int32 × MM))  : ∀ (n : Nat) (M3 : MM) (y4 : Int32) (y5 : Int32) (hf : fX12_sum_l8 n M3 y4 y5 = some pp), Z p l e (rmo 4 0 0) s m args below meth c 3 G (MQ below (QC G (some (.int pp.1)) K pp.2) args s 0 0 (AG G)) K 0 0 M3 8 [(0, .ref (G.1 + 90)), (1, .int y4), (2, .int y5)] [] := by
  intro n
  induction n with
  | zero => intro M3 y4 y5 hf; exact nomatch (show (none : Option (Int32 × MM)) = some pp from hf)
  | succ n ih =>
    intro M3 y4 y5 hf
    rw [fX12_sum_l8.eq_2] at hf
    refine z_iload_n C 2 2 dX12_sum_8 rfl rfl ?_
    refine z_aload_n C 0 0 dX12_sum_9 rfl rfl ?_
    refine z_getI C ok_X12 (lay_c90 hL) 14 (by decide) rfl q_fl_X12_216 dX12_sum_10 ?_
    refine z_icmp_ge C 30 dX12_sum_13 (by decide) (fun c6 => ?_) (fun c6 => ?_)
    · replace hf := ite_t c6 hf
      refine z_iload_n C 1 1 dX12_sum_30 rfl rfl ?_
      cases hf
      exact z_iret C rfl dX12_sum_31
    · replace hf := ite_f c6 hf
      refine z_iload_n C 1 1 dX12_sum_16 rfl rfl ?_
      refine z_aload_n C 0 0 dX12_sum_17 rfl rfl ?_
      refine z_iload_n C 2 2 dX12_sum_18 rfl rfl ?_
      replace hf := bd_out hf
      obtain ⟨p7, e8, hf⟩ := hf
      refine z_cV1 C [.int y4] (tX12_countOf l G hL M3 y5 _ e8) lk_X12_countOf ok_X12 (lay_c90 hL) q_ml_X12_276 rfl ⟨Nat.le_of_ble_eq_true rfl, Nat.le_of_ble_eq_true rfl⟩ rfl (Nat.le_of_ble_eq_true rfl) ⟨Nat.le_refl _, Nat.le_refl _⟩ dX12_sum_19 ?_
      refine z_iadd C dX12_sum_22 ?_
      refine z_topi (fun v9 e10 => ?_)
      replace hf := bnd_out e10 hf
      refine z_istore_n C [(1, .int v9), (0, .ref (G.1 + 90)), (2, .int y5)] dX12_sum_23 rfl (by decide) rfl rfl ?_
      refine z_iinc C 2 (y5 + 1) [(2, .int (y5 + 1)), (1, .int v9), (0, .ref (G.1 + 90))] dX12_sum_24 rfl rfl (by decide) rfl rfl ?_
      refine z_goto C 8 dX12_sum_27 (by decide) ?_
      refine z_lv (lv2 := [(0, .ref (G.1 + 90)), (1, .int v9), (2, .int (y5 + 1))]) [2, 1, 0] rfl ?_
      exact ih M3 v9 (y5 + 1)  hf
set_option maxHeartbeats 4000000 in
set_option maxRecDepth 100000 in
theorem tX12_sum (l : Launch) (G : GG) {K : SK} (hL : Lay K) (M : MM)  (pp : (Int32 × MM)) (hf : fX12_sum M = some pp) : Ct l yX12_sum cX12_sum 3 (some .int) 4 0 0 G K M [.ref (G.1 + 90)] (some (.int pp.1)) K pp.2 := by
  refine z_enter (lv := [(0, .ref (G.1 + 90))]) (by decide +kernel) (Nat.le_of_ble_eq_true rfl) rfl ?_
  intro p e s m args below meth c C hnm hs0
  replace C : CX p s m args meth c cX12_sum 3 (some .int) RX12 G := C
  unfold fX12_sum at hf
  refine z_aload_n C 0 0 dX12_sum_0 rfl rfl ?_
  replace hf := bd_out hf
  obtain ⟨p1, e2, hf⟩ := hf
  refine z_cV0 C [] (tX12_laysOut l G hL M  _ e2) lk_X12_laysOut ok_X12 (lay_c90 hL) q_ml_X12_258 rfl ⟨Nat.le_of_ble_eq_true rfl, Nat.le_of_ble_eq_true rfl⟩ rfl (Nat.le_of_ble_eq_true rfl) ⟨Nat.le_refl _, Nat.le_refl _⟩ dX12_sum_1 ?_
  refine z_iconst C 0 dX12_sum_4 (by decide) ?_
  refine z_istore_n C [(1, .int 0), (0, .ref (G.1 + 90))] dX12_sum_5 rfl (by decide) rfl rfl ?_
  refine z_iconst C 0 dX12_sum_6 (by decide) ?_
  refine z_istore_n C [(2, .int 0), (1, .int 0), (0, .ref (G.1 + 90))] dX12_sum_7 rfl (by decide) rfl rfl ?_
  refine z_lv (lv2 := [(0, .ref (G.1 + 90)), (1, .int 0), (2, .int 0)]) [2, 1, 0] rfl ?_
  exact wX12_sum_l8 C hs0 hL pp FU p1 0 0 hf
set_option maxHeartbeats 4000000 in
set_option maxRecDepth 100000 in
theorem tX12_areTold (l : Launch) (G : GG) {K : SK} (hL : Lay K) (M : MM) (x1 : Int32) (x2 : Int32) (pp : (Int32 × MM)) (hf : fX12_areTold M x1 x2 = some pp) : Ct l yX12_areTold cX12_areTold 3 (some .boolean) 3 0 0 G K M [.ref (G.1 + 90), .int x1, .int x2] (some (.int pp.1)) K pp.2 := by
  refine z_enter (lv := [(0, .ref (G.1 + 90)), (1, .int x1), (2, .int x2)]) (by decide +kernel) (Nat.le_of_ble_eq_true rfl) rfl ?_
  intro p e s m args below meth c C hnm hs0
  replace C : CX p s m args meth c cX12_areTold 3 (some .boolean) RX12 G := C
  unfold fX12_areTold at hf
  refine z_aload_n C 0 0 dX12_areTold_0 rfl rfl ?_
  refine z_iload_n C 1 1 dX12_areTold_1 rfl rfl ?_
  replace hf := bd_out hf
  obtain ⟨p1, e2, hf⟩ := hf
  refine z_cV1 C [] (tX12_isParish l G hL M x1 _ e2) lk_X12_isParish ok_X12 (lay_c90 hL) q_ml_X12_225 rfl ⟨Nat.le_of_ble_eq_true rfl, Nat.le_of_ble_eq_true rfl⟩ rfl (Nat.le_of_ble_eq_true rfl) ⟨Nat.le_refl _, Nat.le_refl _⟩ dX12_areTold_2 ?_
  refine z_if_eq C 20 dX12_areTold_5 (by decide) (fun c3 => ?_) (fun c3 => ?_)
  · replace hf := ite_t c3 hf
    refine z_iconst C 0 dX12_areTold_20 (by decide) ?_
    cases hf
    exact z_zret C rfl nb0 dX12_areTold_21
  · replace hf := ite_f c3 hf
    refine z_aload_n C 0 0 dX12_areTold_8 rfl rfl ?_
    refine z_iload_n C 2 2 dX12_areTold_9 rfl rfl ?_
    replace hf := bd_out hf
    obtain ⟨p4, e5, hf⟩ := hf
    refine z_cV1 C [] (tX12_isLaw l G hL p1.2 x2 _ e5) lk_X12_isLaw ok_X12 (lay_c90 hL) q_ml_X12_267 rfl ⟨Nat.le_of_ble_eq_true rfl, Nat.le_of_ble_eq_true rfl⟩ rfl (Nat.le_of_ble_eq_true rfl) ⟨Nat.le_refl _, Nat.le_refl _⟩ dX12_areTold_10 ?_
    refine z_if_eq C 20 dX12_areTold_13 (by decide) (fun c6 => ?_) (fun c6 => ?_)
    · replace hf := ite_t c6 hf
      refine z_iconst C 0 dX12_areTold_20 (by decide) ?_
      cases hf
      exact z_zret C rfl nb0 dX12_areTold_21
    · replace hf := ite_f c6 hf
      refine z_iconst C 1 dX12_areTold_16 (by decide) ?_
      refine z_goto C 21 dX12_areTold_17 (by decide) ?_
      cases hf
      exact z_zret C rfl nb1 dX12_areTold_21
set_option maxHeartbeats 4000000 in
set_option maxRecDepth 100000 in
theorem wX12_counted_j24 (C : CX p s m args meth c cX12_counted 5 (some .int) RX12 G) (hs0 : s.heap.size = G.1 + K.1) (hL : Lay K)   (pp : (Int32 × MM))  (M5 : MM) (y6 : Int32) (hf : fX12_counted_j24 M5 y6 = some pp) : Z p l e (rmo 5 0 0) s m args below meth c 5 G (MQ below (QC G (some (.int pp.1)) K pp.2) args s 0 0 (AG G)) K 0 0 M5 24 [(0, .ref (G.1 + 90)), (3, .int y6)] [] := by
  unfold fX12_counted_j24 at hf
  refine z_aload_n C 0 0 dX12_counted_24 rfl rfl ?_
  replace hf := bd_out hf
  obtain ⟨p7, e8, hf⟩ := hf
  refine z_cV1 C [] (tX12_sum l G hL M5  _ e8) lk_X12_sum ok_X12 (lay_c90 hL) q_ml_X12_282 rfl ⟨Nat.le_of_ble_eq_true rfl, Nat.le_of_ble_eq_true rfl⟩ rfl (Nat.le_of_ble_eq_true rfl) ⟨Nat.le_refl _, Nat.le_refl _⟩ dX12_counted_25 ?_
  refine z_istore C [(4, .int p7.1), (0, .ref (G.1 + 90)), (3, .int y6)] dX12_counted_28 (by decide) rfl rfl ?_
  refine z_iload_n C 2 3 dX12_counted_30 rfl rfl ?_
  refine z_iconst C (-1) dX12_counted_31 (by decide) ?_
  refine z_icmp_ne C 40 dX12_counted_32 (by decide) (fun c9 => ?_) (fun c9 => ?_)
  · replace hf := ite_f c9 hf
    refine z_aload_n C 1 0 dX12_counted_40 rfl rfl ?_
    refine z_iload_n C 2 3 dX12_counted_41 rfl rfl ?_
    replace hf := bd_out hf
    obtain ⟨p10, e11, hf⟩ := hf
    refine z_cV1 C [] (tX12_countOf l G hL p7.2 y6 _ e11) lk_X12_countOf ok_X12 (lay_c90 hL) q_ml_X12_276 rfl ⟨Nat.le_of_ble_eq_true rfl, Nat.le_of_ble_eq_true rfl⟩ rfl (Nat.le_of_ble_eq_true rfl) ⟨Nat.le_refl _, Nat.le_refl _⟩ dX12_counted_42 ?_
    cases hf
    exact z_iret C rfl dX12_counted_45
  · replace hf := ite_t c9 hf
    refine z_iload C 0 dX12_counted_35 rfl ?_
    refine z_goto C 45 dX12_counted_37 (by decide) ?_
    cases hf
    exact z_iret C rfl dX12_counted_45
set_option maxHeartbeats 4000000 in
set_option maxRecDepth 100000 in
theorem tX12_counted (l : Launch) (G : GG) {K : SK} (hL : Lay K) (M : MM) (x1 : Int32) (x2 : Int32) (x3 : Int32) (pp : (Int32 × MM)) (hf : fX12_counted M x1 x2 x3 = some pp) : Ct l yX12_counted cX12_counted 5 (some .int) 5 0 0 G K M [.ref (G.1 + 90), .int x1, .int x2, .int x3] (some (.int pp.1)) K pp.2 := by
  refine z_enter (lv := [(0, .ref (G.1 + 90)), (1, .int x1), (2, .int x2), (3, .int x3)]) (by decide +kernel) (Nat.le_of_ble_eq_true rfl) rfl ?_
  intro p e s m args below meth c C hnm hs0
  replace C : CX p s m args meth c cX12_counted 5 (some .int) RX12 G := C
  unfold fX12_counted at hf
  refine z_aload_n C 0 0 dX12_counted_0 rfl rfl ?_
  refine z_iload_n C 1 1 dX12_counted_1 rfl rfl ?_
  refine z_iload_n C 2 2 dX12_counted_2 rfl rfl ?_
  replace hf := bd_out hf
  obtain ⟨p1, e2, hf⟩ := hf
  refine z_cV1 C [] (tX12_areTold l G hL M x1 x2 _ e2) lk_X12_areTold ok_X12 (lay_c90 hL) q_ml_X12_279 rfl ⟨Nat.le_of_ble_eq_true rfl, Nat.le_of_ble_eq_true rfl⟩ rfl (Nat.le_of_ble_eq_true rfl) ⟨Nat.le_refl _, Nat.le_refl _⟩ dX12_counted_3 ?_
  refine z_if_eq C 22 dX12_counted_6 (by decide) (fun c3 => ?_) (fun c3 => ?_)
  · replace hf := ite_t c3 hf
    refine z_iconst C (-1) dX12_counted_22 (by decide) ?_
    cases hf
    exact z_iret C rfl dX12_counted_23
  · replace hf := ite_f c3 hf
    refine z_iload_n C 3 3 dX12_counted_9 rfl rfl ?_
    refine z_iconst C (-1) dX12_counted_10 (by decide) ?_
    refine z_icmp_eq C 24 dX12_counted_11 (by decide) (fun c4 => ?_) (fun c4 => ?_)
    · replace hf := ite_t c4 hf
      refine z_lv (lv2 := [(0, .ref (G.1 + 90)), (3, .int x3)]) [0, 3] rfl ?_
      exact wX12_counted_j24 C hs0 hL pp p1.2 x3 hf
    · replace hf := ite_f c4 hf
      refine z_aload_n C 0 0 dX12_counted_14 rfl rfl ?_
      refine z_iload_n C 3 3 dX12_counted_15 rfl rfl ?_
      replace hf := bd_out hf
      obtain ⟨p12, e13, hf⟩ := hf
      refine z_cV1 C [] (tX12_isShine l G hL p1.2 x3 _ e13) lk_X12_isShine ok_X12 (lay_c90 hL) q_ml_X12_234 rfl ⟨Nat.le_of_ble_eq_true rfl, Nat.le_of_ble_eq_true rfl⟩ rfl (Nat.le_of_ble_eq_true rfl) ⟨Nat.le_refl _, Nat.le_refl _⟩ dX12_counted_16 ?_
      refine z_if_ne C 24 dX12_counted_19 (by decide) (fun c14 => ?_) (fun c14 => ?_)
      · replace hf := ite_f c14 hf
        refine z_lv (lv2 := [(0, .ref (G.1 + 90)), (3, .int x3)]) [0, 3] rfl ?_
        exact wX12_counted_j24 C hs0 hL pp p1.2 x3 hf
      · replace hf := ite_t c14 hf
        refine z_iconst C (-1) dX12_counted_22 (by decide) ?_
        cases hf
        exact z_iret C rfl dX12_counted_23
set_option maxHeartbeats 4000000 in
set_option maxRecDepth 100000 in
theorem wX12_takesTotals_l6 (C : CX p s m args meth c cX12_takesTotals 2 none RX12 G) (hs0 : s.heap.size = G.1 + K.1) (hL : Lay K)  (k24 : MM → Option MM) (pp : MM) (hk24 : ∀ (M6 : MM), k24 M6 = some pp → Z p l e (rmo 4 0 0) s m args below meth c 2 G (MQ below (QC G none K pp) args s 0 0 (AG G)) K 0 0 M6 24 [(0, .ref (G.1 + 90))] []) : ∀ (n : Nat) (M3 : MM) (y4 : Int32) (hf : fX12_takesTotals_l6 k24 n M3 y4 = some pp), Z p l e (rmo 4 0 0) s m args below meth c 2 G (MQ below (QC G none K pp) args s 0 0 (AG G)) K 0 0 M3 6 [(0, .ref (G.1 + 90)), (1, .int y4)] [] := by
  intro n
  induction n with
  | zero => intro M3 y4 hf; exact nomatch (show (none : Option MM) = some pp from hf)
  | succ n ih =>
    intro M3 y4 hf
    rw [fX12_takesTotals_l6.eq_2] at hf
    refine z_iload_n C 1 1 dX12_takesTotals_6 rfl rfl ?_
    refine z_iconst C 4 dX12_takesTotals_7 (by decide) ?_
    refine z_icmp_ge C 24 dX12_takesTotals_8 (by decide) (fun c5 => ?_) (fun c5 => ?_)
    · replace hf := ite_t c5 hf
      refine z_lv (lv2 := [(0, .ref (G.1 + 90))]) [0] rfl ?_
      exact hk24 M3  hf
    · replace hf := ite_f c5 hf
      refine z_aload_n C 0 0 dX12_takesTotals_11 rfl rfl ?_
      refine z_getR C ok_X12 (lay_c90 hL) 28 (104) (by decide) rfl (lay_r90_28 hL) q_fl_X12_50 dX12_takesTotals_12 ?_
      refine z_iload_n C 1 1 dX12_takesTotals_15 rfl rfl ?_
      refine z_iconst C 0 dX12_takesTotals_16 (by decide) ?_
      replace hf := gd_out hf
      obtain ⟨g7, hf⟩ := hf
      refine z_iast C (lay_c104 hL) (inb_in g7) dX12_takesTotals_17 ?_
      refine z_M (fun M8 e9 => ?_)
      replace hf := bnd_out e9 hf
      refine z_iinc C 1 (y4 + 1) [(1, .int (y4 + 1)), (0, .ref (G.1 + 90))] dX12_takesTotals_18 rfl rfl (by decide) rfl rfl ?_
      refine z_goto C 6 dX12_takesTotals_21 (by decide) ?_
      refine z_lv (lv2 := [(0, .ref (G.1 + 90)), (1, .int (y4 + 1))]) [1, 0] rfl ?_
      exact ih M8 (y4 + 1)  hf
set_option maxHeartbeats 4000000 in
set_option maxRecDepth 100000 in
theorem wX12_takesTotals_l26 (C : CX p s m args meth c cX12_takesTotals 2 none RX12 G) (hs0 : s.heap.size = G.1 + K.1) (hL : Lay K)   (pp : MM)  : ∀ (n : Nat) (M11 : MM) (y12 : Int32) (hf : fX12_takesTotals_l26 n M11 y12 = some pp), Z p l e (rmo 4 0 0) s m args below meth c 2 G (MQ below (QC G none K pp) args s 0 0 (AG G)) K 0 0 M11 26 [(0, .ref (G.1 + 90)), (1, .int y12)] [] := by
  intro n
  induction n with
  | zero => intro M11 y12 hf; exact nomatch (show (none : Option MM) = some pp from hf)
  | succ n ih =>
    intro M11 y12 hf
    rw [fX12_takesTotals_l26.eq_2] at hf
    refine z_iload_n C 1 1 dX12_takesTotals_26 rfl rfl ?_
    refine z_aload_n C 0 0 dX12_takesTotals_27 rfl rfl ?_
    refine z_getI C ok_X12 (lay_c90 hL) 14 (by decide) rfl q_fl_X12_216 dX12_takesTotals_28 ?_
    refine z_icmp_ge C 59 dX12_takesTotals_31 (by decide) (fun c13 => ?_) (fun c13 => ?_)
    · replace hf := ite_t c13 hf
      cases hf
      exact z_vret C rfl dX12_takesTotals_59
    · replace hf := ite_f c13 hf
      refine z_aload_n C 0 0 dX12_takesTotals_34 rfl rfl ?_
      refine z_getR C ok_X12 (lay_c90 hL) 28 (104) (by decide) rfl (lay_r90_28 hL) q_fl_X12_50 dX12_takesTotals_35 ?_
      refine z_aload_n C 0 0 dX12_takesTotals_38 rfl rfl ?_
      refine z_getR C ok_X12 (lay_c90 hL) 21 (100) (by decide) rfl (lay_r90_21 hL) q_fl_X12_38 dX12_takesTotals_39 ?_
      refine z_iload_n C 1 1 dX12_takesTotals_42 rfl rfl ?_
      replace hf := gd_out hf
      obtain ⟨g14, hf⟩ := hf
      refine z_iald C (lay_c100 hL) (inb_in g14) dX12_takesTotals_43 ?_
      refine z_dup2 C rfl rfl dX12_takesTotals_44 ?_
      replace hf := gd_out hf
      obtain ⟨g15, hf⟩ := hf
      refine z_iald C (lay_c104 hL) (inb_in g15) dX12_takesTotals_45 ?_
      refine z_aload_n C 0 0 dX12_takesTotals_46 rfl rfl ?_
      refine z_iload_n C 1 1 dX12_takesTotals_47 rfl rfl ?_
      replace hf := bd_out hf
      obtain ⟨p16, e17, hf⟩ := hf
      refine z_cV1 C [.int (gI M11 104 (ix (gI M11 100 (ix y12)))), .int (gI M11 100 (ix y12)), .ref (G.1 + 104)] (tX12_countOf l G hL M11 y12 _ e17) lk_X12_countOf ok_X12 (lay_c90 hL) q_ml_X12_276 rfl ⟨Nat.le_of_ble_eq_true rfl, Nat.le_of_ble_eq_true rfl⟩ rfl (Nat.le_of_ble_eq_true rfl) ⟨Nat.le_refl _, Nat.le_refl _⟩ dX12_takesTotals_48 ?_
      refine z_iadd C dX12_takesTotals_51 ?_
      replace hf := gd_out hf
      obtain ⟨g18, hf⟩ := hf
      refine z_iast C (lay_c104 hL) (inb_in g18) dX12_takesTotals_52 ?_
      refine z_M (fun M19 e20 => ?_)
      replace hf := bnd_out e20 hf
      refine z_iinc C 1 (y12 + 1) [(1, .int (y12 + 1)), (0, .ref (G.1 + 90))] dX12_takesTotals_53 rfl rfl (by decide) rfl rfl ?_
      refine z_goto C 26 dX12_takesTotals_56 (by decide) ?_
      refine z_lv (lv2 := [(0, .ref (G.1 + 90)), (1, .int (y12 + 1))]) [1, 0] rfl ?_
      exact ih M19 (y12 + 1)  hf
set_option maxHeartbeats 4000000 in
set_option maxRecDepth 100000 in
theorem tX12_takesTotals (l : Launch) (G : GG) {K : SK} (hL : Lay K) (M : MM)  (pp : MM) (hf : fX12_takesTotals M = some pp) : Ct l yX12_takesTotals cX12_takesTotals 2 none 4 0 0 G K M [.ref (G.1 + 90)] none K pp := by
  refine z_enter (lv := [(0, .ref (G.1 + 90))]) (by decide +kernel) (Nat.le_of_ble_eq_true rfl) rfl ?_
  intro p e s m args below meth c C hnm hs0
  replace C : CX p s m args meth c cX12_takesTotals 2 none RX12 G := C
  unfold fX12_takesTotals at hf
  refine z_aload_n C 0 0 dX12_takesTotals_0 rfl rfl ?_
  replace hf := bd_out hf
  obtain ⟨p1, e2, hf⟩ := hf
  refine z_cV0 C [] (tX12_laysOut l G hL M  _ e2) lk_X12_laysOut ok_X12 (lay_c90 hL) q_ml_X12_258 rfl ⟨Nat.le_of_ble_eq_true rfl, Nat.le_of_ble_eq_true rfl⟩ rfl (Nat.le_of_ble_eq_true rfl) ⟨Nat.le_refl _, Nat.le_refl _⟩ dX12_takesTotals_1 ?_
  refine z_iconst C 0 dX12_takesTotals_4 (by decide) ?_
  refine z_istore_n C [(1, .int 0), (0, .ref (G.1 + 90))] dX12_takesTotals_5 rfl (by decide) rfl rfl ?_
  refine z_lv (lv2 := [(0, .ref (G.1 + 90)), (1, .int 0)]) [1, 0] rfl ?_
  refine wX12_takesTotals_l6 C hs0 hL _ pp ?_ FU p1 0 hf
  · intro M10 hf
    refine z_iconst C 0 dX12_takesTotals_24 (by decide) ?_
    refine z_istore_n C [(1, .int 0), (0, .ref (G.1 + 90))] dX12_takesTotals_25 rfl (by decide) rfl rfl ?_
    refine z_lv (lv2 := [(0, .ref (G.1 + 90)), (1, .int 0)]) [1, 0] rfl ?_
    exact wX12_takesTotals_l26 C hs0 hL pp FU M10 0 hf
set_option maxHeartbeats 4000000 in
set_option maxRecDepth 100000 in
theorem tX12_by (l : Launch) (G : GG) {K : SK} (hL : Lay K) (M : MM) (x1 : Int32) (pp : Int32) (hf : fX12_by M x1 = some pp) : Ct l yX12_by cX12_by 2 (some .int) 0 0 0 G K M [.ref (G.1 + 90), .int x1] (some (.int pp)) K M := by
  refine z_enter (lv := [(0, .ref (G.1 + 90)), (1, .int x1)]) (by decide +kernel) (Nat.le_of_ble_eq_true rfl) rfl ?_
  intro p e s m args below meth c C hnm hs0
  replace C : CX p s m args meth c cX12_by 2 (some .int) RX12 G := C
  unfold fX12_by at hf
  refine z_aload_n C 0 0 dX12_by_0 rfl rfl ?_
  refine z_getR C ok_X12 (lay_c90 hL) 0 (91) (by decide) rfl (lay_r90_0 hL) q_fl_X12_7 dX12_by_1 ?_
  refine z_aload_n C 0 0 dX12_by_4 rfl rfl ?_
  refine z_getI C ok_X12 (lay_c90 hL) 26 (by decide) rfl q_fl_X12_261 dX12_by_5 ?_
  refine z_iconst C 4 dX12_by_8 (by decide) ?_
  refine z_iadd C dX12_by_9 ?_
  replace hf := gd_out hf
  obtain ⟨g1, hf⟩ := hf
  refine z_iald C (lay_c91 hL) (inb_in g1) dX12_by_10 ?_
  refine z_if_ne C 25 dX12_by_11 (by decide) (fun c2 => ?_) (fun c2 => ?_)
  · replace hf := ite_f c2 hf
    refine z_iconst C 2 dX12_by_25 (by decide) ?_
    refine z_aload_n C 0 0 dX12_by_26 rfl rfl ?_
    refine z_getR C ok_X12 (lay_c90 hL) 29 (105) (by decide) rfl (lay_r90_29 hL) q_fl_X12_53 dX12_by_27 ?_
    refine z_iload_n C 1 1 dX12_by_30 rfl rfl ?_
    replace hf := gd_out hf
    obtain ⟨g3, hf⟩ := hf
    refine z_iald C (lay_c105 hL) (inb_in g3) dX12_by_31 ?_
    refine z_imul C dX12_by_32 ?_
    refine z_iconst C 1 dX12_by_33 (by decide) ?_
    refine z_iadd C dX12_by_34 ?_
    cases hf
    exact z_iret C rfl dX12_by_35
  · replace hf := ite_t c2 hf
    refine z_aload_n C 0 0 dX12_by_14 rfl rfl ?_
    refine z_getR C ok_X12 (lay_c90 hL) 29 (105) (by decide) rfl (lay_r90_29 hL) q_fl_X12_53 dX12_by_15 ?_
    refine z_iload_n C 1 1 dX12_by_18 rfl rfl ?_
    replace hf := gd_out hf
    obtain ⟨g4, hf⟩ := hf
    refine z_iald C (lay_c105 hL) (inb_in g4) dX12_by_19 ?_
    refine z_iconst C 1 dX12_by_20 (by decide) ?_
    refine z_iadd C dX12_by_21 ?_
    refine z_goto C 35 dX12_by_22 (by decide) ?_
    cases hf
    exact z_iret C rfl dX12_by_35
set_option maxHeartbeats 4000000 in
set_option maxRecDepth 100000 in
theorem wX12_gives_l8 (C : CX p s m args meth c cX12_gives 6 none RX12 G) (hs0 : s.heap.size = G.1 + K.1) (hL : Lay K)  (k35 : MM → Int32 → Option MM) (pp : MM) (hk35 : ∀ (M7 : MM) (y8 : Int32), k35 M7 y8 = some pp → Z p l e (rmo 5 0 0) s m args below meth c 6 G (MQ below (QC G none K pp) args s 0 0 (AG G)) K 0 0 M7 35 [(0, .ref (G.1 + 90)), (1, .int y8)] []) : ∀ (n : Nat) (M3 : MM) (y4 : Int32) (y5 : Int32) (hf : fX12_gives_l8 k35 n M3 y4 y5 = some pp), Z p l e (rmo 5 0 0) s m args below meth c 6 G (MQ below (QC G none K pp) args s 0 0 (AG G)) K 0 0 M3 8 [(0, .ref (G.1 + 90)), (1, .int y4), (2, .int y5)] [] := by
  intro n
  induction n with
  | zero => intro M3 y4 y5 hf; exact nomatch (show (none : Option MM) = some pp from hf)
  | succ n ih =>
    intro M3 y4 y5 hf
    rw [fX12_gives_l8.eq_2] at hf
    refine z_iload_n C 2 2 dX12_gives_8 rfl rfl ?_
    refine z_iconst C 4 dX12_gives_9 (by decide) ?_
    refine z_icmp_ge C 35 dX12_gives_10 (by decide) (fun c6 => ?_) (fun c6 => ?_)
    · replace hf := ite_t c6 hf
      refine z_lv (lv2 := [(0, .ref (G.1 + 90)), (1, .int y4)]) [0, 1] rfl ?_
      exact hk35 M3 y4  hf
    · replace hf := ite_f c6 hf
      refine z_iload_n C 1 1 dX12_gives_13 rfl rfl ?_
      refine z_aload_n C 0 0 dX12_gives_14 rfl rfl ?_
      refine z_getR C ok_X12 (lay_c90 hL) 28 (104) (by decide) rfl (lay_r90_28 hL) q_fl_X12_50 dX12_gives_15 ?_
      refine z_iload_n C 2 2 dX12_gives_18 rfl rfl ?_
      replace hf := gd_out hf
      obtain ⟨g9, hf⟩ := hf
      refine z_iald C (lay_c104 hL) (inb_in g9) dX12_gives_19 ?_
      refine z_iadd C dX12_gives_20 ?_
      refine z_topi (fun v10 e11 => ?_)
      replace hf := bnd_out e11 hf
      refine z_istore_n C [(1, .int v10), (0, .ref (G.1 + 90)), (2, .int y5)] dX12_gives_21 rfl (by decide) rfl rfl ?_
      refine z_aload_n C 1 0 dX12_gives_22 rfl rfl ?_
      refine z_getR C ok_X12 (lay_c90 hL) 29 (105) (by decide) rfl (lay_r90_29 hL) q_fl_X12_53 dX12_gives_23 ?_
      refine z_iload_n C 2 2 dX12_gives_26 rfl rfl ?_
      refine z_iconst C 0 dX12_gives_27 (by decide) ?_
      replace hf := gd_out hf
      obtain ⟨g12, hf⟩ := hf
      refine z_iast C (lay_c105 hL) (inb_in g12) dX12_gives_28 ?_
      refine z_M (fun M13 e14 => ?_)
      replace hf := bnd_out e14 hf
      refine z_iinc C 2 (y5 + 1) [(2, .int (y5 + 1)), (1, .int v10), (0, .ref (G.1 + 90))] dX12_gives_29 rfl rfl (by decide) rfl rfl ?_
      refine z_goto C 8 dX12_gives_32 (by decide) ?_
      refine z_lv (lv2 := [(0, .ref (G.1 + 90)), (1, .int v10), (2, .int (y5 + 1))]) [2, 1, 0] rfl ?_
      exact ih M13 v10 (y5 + 1)  hf
set_option maxHeartbeats 4000000 in
set_option maxRecDepth 100000 in
theorem wX12_gives_l76 (C : CX p s m args meth c cX12_gives 6 none RX12 G) (hs0 : s.heap.size = G.1 + K.1) (hL : Lay K)  (k158 : MM → Int32 → Int32 → Option MM) (pp : MM) (hk158 : ∀ (M33 : MM) (y34 : Int32) (y35 : Int32), k158 M33 y34 y35 = some pp → Z p l e (rmo 5 0 0) s m args below meth c 6 G (MQ below (QC G none K pp) args s 0 0 (AG G)) K 0 0 M33 158 [(0, .ref (G.1 + 90)), (2, .int y34), (3, .int y35)] []) : ∀ (n : Nat) (M27 : MM) (y28 : Int32) (y29 : Int32) (y30 : Int32) (y31 : Int32) (hf : fX12_gives_l76 k158 n M27 y28 y29 y30 y31 = some pp), Z p l e (rmo 5 0 0) s m args below meth c 6 G (MQ below (QC G none K pp) args s 0 0 (AG G)) K 0 0 M27 76 [(0, .ref (G.1 + 90)), (1, .int y28), (2, .int y29), (3, .int y30), (4, .int y31)] [] := by
  intro n
  induction n with
  | zero => intro M27 y28 y29 y30 y31 hf; exact nomatch (show (none : Option MM) = some pp from hf)
  | succ n ih =>
    intro M27 y28 y29 y30 y31 hf
    rw [fX12_gives_l76.eq_2] at hf
    refine z_iload C 4 dX12_gives_76 rfl ?_
    refine z_iconst C 4 dX12_gives_78 (by decide) ?_
    refine z_icmp_ge C 158 dX12_gives_79 (by decide) (fun c32 => ?_) (fun c32 => ?_)
    · replace hf := ite_t c32 hf
      refine z_lv (lv2 := [(0, .ref (G.1 + 90)), (2, .int y29), (3, .int y30)]) [0, 2, 3] rfl ?_
      exact hk158 M27 y29 y30  hf
    · replace hf := ite_f c32 hf
      refine z_iload_n C 3 3 dX12_gives_82 rfl rfl ?_
      refine z_if_eq C 158 dX12_gives_83 (by decide) (fun c36 => ?_) (fun c36 => ?_)
      · replace hf := ite_t c36 hf
        refine z_lv (lv2 := [(0, .ref (G.1 + 90)), (2, .int y29), (3, .int y30)]) [0, 2, 3] rfl ?_
        exact hk158 M27 y29 y30  hf
      · replace hf := ite_f c36 hf
        refine z_aload_n C 0 0 dX12_gives_86 rfl rfl ?_
        refine z_getR C ok_X12 (lay_c90 hL) 29 (105) (by decide) rfl (lay_r90_29 hL) q_fl_X12_53 dX12_gives_87 ?_
        refine z_iload C 4 dX12_gives_90 rfl ?_
        refine z_aload_n C 0 0 dX12_gives_92 rfl rfl ?_
        refine z_getR C ok_X12 (lay_c90 hL) 28 (104) (by decide) rfl (lay_r90_28 hL) q_fl_X12_50 dX12_gives_93 ?_
        refine z_iload C 4 dX12_gives_96 rfl ?_
        replace hf := gd_out hf
        obtain ⟨g37, hf⟩ := hf
        refine z_iald C (lay_c104 hL) (inb_in g37) dX12_gives_98 ?_
        refine z_aload_n C 0 0 dX12_gives_99 rfl rfl ?_
        refine z_getR C ok_X12 (lay_c90 hL) 0 (91) (by decide) rfl (lay_r90_0 hL) q_fl_X12_7 dX12_gives_100 ?_
        refine z_aload_n C 0 0 dX12_gives_103 rfl rfl ?_
        refine z_getI C ok_X12 (lay_c90 hL) 26 (by decide) rfl q_fl_X12_261 dX12_gives_104 ?_
        refine z_iconst C 3 dX12_gives_107 (by decide) ?_
        refine z_iadd C dX12_gives_108 ?_
        replace hf := gd_out hf
        obtain ⟨g38, hf⟩ := hf
        refine z_iald C (lay_c91 hL) (inb_in g38) dX12_gives_109 ?_
        refine z_imul C dX12_gives_110 ?_
        refine z_iload_n C 1 1 dX12_gives_111 rfl rfl ?_
        replace hf := gd_out hf
        obtain ⟨g39, hf⟩ := hf
        refine z_idiv C (nz_ne g39) dX12_gives_112 ?_
        replace hf := gd_out hf
        obtain ⟨g40, hf⟩ := hf
        refine z_iast C (lay_c105 hL) (inb_in g40) dX12_gives_113 ?_
        refine z_M (fun M41 e42 => ?_)
        replace hf := bnd_out e42 hf
        refine z_aload_n C 0 0 dX12_gives_114 rfl rfl ?_
        refine z_getR C ok_X12 (lay_c90 hL) 30 (106) (by decide) rfl (lay_r90_30 hL) q_fl_X12_56 dX12_gives_115 ?_
        refine z_iload C 4 dX12_gives_118 rfl ?_
        refine z_aload_n C 0 0 dX12_gives_120 rfl rfl ?_
        refine z_getR C ok_X12 (lay_c90 hL) 28 (104) (by decide) rfl (lay_r90_28 hL) q_fl_X12_50 dX12_gives_121 ?_
        refine z_iload C 4 dX12_gives_124 rfl ?_
        replace hf := gd_out hf
        obtain ⟨g43, hf⟩ := hf
        refine z_iald C (lay_c104 hL) (inb_in g43) dX12_gives_126 ?_
        refine z_aload_n C 0 0 dX12_gives_127 rfl rfl ?_
        refine z_getR C ok_X12 (lay_c90 hL) 0 (91) (by decide) rfl (lay_r90_0 hL) q_fl_X12_7 dX12_gives_128 ?_
        refine z_aload_n C 0 0 dX12_gives_131 rfl rfl ?_
        refine z_getI C ok_X12 (lay_c90 hL) 26 (by decide) rfl q_fl_X12_261 dX12_gives_132 ?_
        refine z_iconst C 3 dX12_gives_135 (by decide) ?_
        refine z_iadd C dX12_gives_136 ?_
        replace hf := gd_out hf
        obtain ⟨g44, hf⟩ := hf
        refine z_iald C (lay_c91 hL) (inb_in g44) dX12_gives_137 ?_
        refine z_imul C dX12_gives_138 ?_
        refine z_iload_n C 1 1 dX12_gives_139 rfl rfl ?_
        replace hf := gd_out hf
        obtain ⟨g45, hf⟩ := hf
        refine z_irem C (nz_ne g45) dX12_gives_140 ?_
        replace hf := gd_out hf
        obtain ⟨g46, hf⟩ := hf
        refine z_iast C (lay_c106 hL) (inb_in g46) dX12_gives_141 ?_
        refine z_M (fun M47 e48 => ?_)
        replace hf := bnd_out e48 hf
        refine z_iload_n C 2 2 dX12_gives_142 rfl rfl ?_
        refine z_aload_n C 0 0 dX12_gives_143 rfl rfl ?_
        refine z_getR C ok_X12 (lay_c90 hL) 29 (105) (by decide) rfl (lay_r90_29 hL) q_fl_X12_53 dX12_gives_144 ?_
        refine z_iload C 4 dX12_gives_147 rfl ?_
        replace hf := gd_out hf
        obtain ⟨g49, hf⟩ := hf
        refine z_iald C (lay_c105 hL) (inb_in g49) dX12_gives_149 ?_
        refine z_isub C dX12_gives_150 ?_
        refine z_topi (fun v50 e51 => ?_)
        replace hf := bnd_out e51 hf
        refine z_istore_n C [(2, .int v50), (0, .ref (G.1 + 90)), (1, .int y28), (3, .int y30), (4, .int y31)] dX12_gives_151 rfl (by decide) rfl rfl ?_
        refine z_iinc C 4 (y31 + 1) [(4, .int (y31 + 1)), (2, .int v50), (0, .ref (G.1 + 90)), (1, .int y28), (3, .int y30)] dX12_gives_152 rfl rfl (by decide) rfl rfl ?_
        refine z_goto C 76 dX12_gives_155 (by decide) ?_
        refine z_lv (lv2 := [(0, .ref (G.1 + 90)), (1, .int y28), (2, .int v50), (3, .int y30), (4, .int (y31 + 1))]) [2, 3, 1, 4, 0] rfl ?_
        exact ih M47 y28 v50 y30 (y31 + 1)  hf
set_option maxHeartbeats 4000000 in
set_option maxRecDepth 100000 in
theorem wX12_gives_j229 (C : CX p s m args meth c cX12_gives 6 none RX12 G) (hs0 : s.heap.size = G.1 + K.1) (hL : Lay K)  (k168 : MM → Int32 → Int32 → Int32 → Int32 → Option MM) (pp : MM) (hk168 : ∀ (M81 : MM) (y82 : Int32) (y83 : Int32) (y84 : Int32) (y85 : Int32), k168 M81 y82 y83 y84 y85 = some pp → Z p l e (rmo 5 0 0) s m args below meth c 6 G (MQ below (QC G none K pp) args s 0 0 (AG G)) K 0 0 M81 168 [(0, .ref (G.1 + 90)), (2, .int y82), (3, .int y83), (4, .int y84), (5, .int y85)] []) (M77 : MM) (y78 : Int32) (y79 : Int32) (y80 : Int32) (hf : fX12_gives_j229 k168 M77 y78 y79 y80 = some pp) : Z p l e (rmo 5 0 0) s m args below meth c 6 G (MQ below (QC G none K pp) args s 0 0 (AG G)) K 0 0 M77 229 [(0, .ref (G.1 + 90)), (2, .int y78), (3, .int y79), (5, .int y80)] [] := by
  unfold fX12_gives_j229 at hf
  refine z_iload C 3 dX12_gives_229 rfl ?_
  refine z_istore C [(4, .int y80), (0, .ref (G.1 + 90)), (2, .int y78), (3, .int y79), (5, .int y80)] dX12_gives_231 (by decide) rfl rfl ?_
  refine z_iinc C 4 (y80 + 1) [(5, .int (y80 + 1)), (4, .int y80), (0, .ref (G.1 + 90)), (2, .int y78), (3, .int y79)] dX12_gives_233 rfl rfl (by decide) rfl rfl ?_
  refine z_goto C 168 dX12_gives_236 (by decide) ?_
  refine z_lv (lv2 := [(0, .ref (G.1 + 90)), (2, .int y78), (3, .int y79), (4, .int y80), (5, .int (y80 + 1))]) [2, 3, 4, 1, 0] rfl ?_
  exact hk168 M77 y78 y79 y80 (y80 + 1)  hf
set_option maxHeartbeats 4000000 in
set_option maxRecDepth 100000 in
theorem wX12_gives_l168 (C : CX p s m args meth c cX12_gives 6 none RX12 G) (hs0 : s.heap.size = G.1 + K.1) (hL : Lay K)  (k239 : MM → Int32 → Int32 → Int32 → Option MM) (pp : MM) (hk239 : ∀ (M65 : MM) (y66 : Int32) (y67 : Int32) (y68 : Int32), k239 M65 y66 y67 y68 = some pp → Z p l e (rmo 5 0 0) s m args below meth c 6 G (MQ below (QC G none K pp) args s 0 0 (AG G)) K 0 0 M65 239 [(0, .ref (G.1 + 90)), (2, .int y66), (3, .int y67), (4, .int y68)] []) : ∀ (n : Nat) (M59 : MM) (y60 : Int32) (y61 : Int32) (y62 : Int32) (y63 : Int32) (hf : fX12_gives_l168 k239 n M59 y60 y61 y62 y63 = some pp), Z p l e (rmo 5 0 0) s m args below meth c 6 G (MQ below (QC G none K pp) args s 0 0 (AG G)) K 0 0 M59 168 [(0, .ref (G.1 + 90)), (2, .int y60), (3, .int y61), (4, .int y62), (5, .int y63)] [] := by
  intro n
  induction n with
  | zero => intro M59 y60 y61 y62 y63 hf; exact nomatch (show (none : Option MM) = some pp from hf)
  | succ n ih =>
    intro M59 y60 y61 y62 y63 hf
    rw [fX12_gives_l168.eq_2] at hf
    refine z_iload C 4 dX12_gives_168 rfl ?_
    refine z_iconst C 4 dX12_gives_170 (by decide) ?_
    refine z_icmp_ge C 239 dX12_gives_171 (by decide) (fun c64 => ?_) (fun c64 => ?_)
    · replace hf := ite_t c64 hf
      refine z_lv (lv2 := [(0, .ref (G.1 + 90)), (2, .int y60), (3, .int y61), (4, .int y62)]) [0, 1, 2, 3] rfl ?_
      exact hk239 M59 y60 y61 y62  hf
    · replace hf := ite_f c64 hf
      refine z_iload_n C 2 3 dX12_gives_174 rfl rfl ?_
      refine z_if_eq C 198 dX12_gives_175 (by decide) (fun c69 => ?_) (fun c69 => ?_)
      · replace hf := ite_t c69 hf
        refine z_aload_n C 0 0 dX12_gives_198 rfl rfl ?_
        refine z_getR C ok_X12 (lay_c90 hL) 28 (104) (by decide) rfl (lay_r90_28 hL) q_fl_X12_50 dX12_gives_199 ?_
        refine z_iload C 4 dX12_gives_202 rfl ?_
        replace hf := gd_out hf
        obtain ⟨g70, hf⟩ := hf
        refine z_iald C (lay_c104 hL) (inb_in g70) dX12_gives_204 ?_
        refine z_aload_n C 0 0 dX12_gives_205 rfl rfl ?_
        refine z_iload C 3 dX12_gives_206 rfl ?_
        replace hf := bd_out hf
        obtain ⟨p71, e72, hf⟩ := hf
        refine z_cV1 C [.int (gI M59 104 (ix y63))] (tX12_by l G hL M59 y62 _ e72) lk_X12_by ok_X12 (lay_c90 hL) q_ml_X12_288 rfl ⟨Nat.le_of_ble_eq_true rfl, Nat.le_of_ble_eq_true rfl⟩ rfl (Nat.le_of_ble_eq_true rfl) ⟨Nat.le_refl _, Nat.le_refl _⟩ dX12_gives_208 ?_
        refine z_imul C dX12_gives_211 ?_
        refine z_aload_n C 0 0 dX12_gives_212 rfl rfl ?_
        refine z_getR C ok_X12 (lay_c90 hL) 28 (104) (by decide) rfl (lay_r90_28 hL) q_fl_X12_50 dX12_gives_213 ?_
        refine z_iload C 3 dX12_gives_216 rfl ?_
        replace hf := gd_out hf
        obtain ⟨g73, hf⟩ := hf
        refine z_iald C (lay_c104 hL) (inb_in g73) dX12_gives_218 ?_
        refine z_aload_n C 0 0 dX12_gives_219 rfl rfl ?_
        refine z_iload C 4 dX12_gives_220 rfl ?_
        replace hf := bd_out hf
        obtain ⟨p74, e75, hf⟩ := hf
        refine z_cV1 C [.int (gI M59 104 (ix y62)), .int ((gI M59 104 (ix y63)) * p71)] (tX12_by l G hL M59 y63 _ e75) lk_X12_by ok_X12 (lay_c90 hL) q_ml_X12_288 rfl ⟨Nat.le_of_ble_eq_true rfl, Nat.le_of_ble_eq_true rfl⟩ rfl (Nat.le_of_ble_eq_true rfl) ⟨Nat.le_refl _, Nat.le_refl _⟩ dX12_gives_222 ?_
        refine z_imul C dX12_gives_225 ?_
        refine z_icmp_le C 233 dX12_gives_226 (by decide) (fun c76 => ?_) (fun c76 => ?_)
        · replace hf := ite_t c76 hf
          refine z_iinc C 4 (y63 + 1) [(5, .int (y63 + 1)), (0, .ref (G.1 + 90)), (2, .int y60), (3, .int y61), (4, .int y62)] dX12_gives_233 rfl rfl (by decide) rfl rfl ?_
          refine z_goto C 168 dX12_gives_236 (by decide) ?_
          refine z_lv (lv2 := [(0, .ref (G.1 + 90)), (2, .int y60), (3, .int y61), (4, .int y62), (5, .int (y63 + 1))]) [1, 2, 3, 4, 0] rfl ?_
          exact ih M59 y60 y61 y62 (y63 + 1)  hf
        · replace hf := ite_f c76 hf
          refine z_lv (lv2 := [(0, .ref (G.1 + 90)), (2, .int y60), (3, .int y61), (5, .int y63)]) [0, 1, 2, 4] rfl ?_
          refine wX12_gives_j229 C hs0 hL _ pp ?_ M59 y60 y61 y63 hf
          · intro M86 y87 y88 y89 y90 hf
            exact ih M86 y87 y88 y89 y90  hf
      · replace hf := ite_f c69 hf
        refine z_aload_n C 0 0 dX12_gives_178 rfl rfl ?_
        refine z_getR C ok_X12 (lay_c90 hL) 30 (106) (by decide) rfl (lay_r90_30 hL) q_fl_X12_56 dX12_gives_179 ?_
        refine z_iload C 4 dX12_gives_182 rfl ?_
        replace hf := gd_out hf
        obtain ⟨g91, hf⟩ := hf
        refine z_iald C (lay_c106 hL) (inb_in g91) dX12_gives_184 ?_
        refine z_aload_n C 0 0 dX12_gives_185 rfl rfl ?_
        refine z_getR C ok_X12 (lay_c90 hL) 30 (106) (by decide) rfl (lay_r90_30 hL) q_fl_X12_56 dX12_gives_186 ?_
        refine z_iload C 3 dX12_gives_189 rfl ?_
        replace hf := gd_out hf
        obtain ⟨g92, hf⟩ := hf
        refine z_iald C (lay_c106 hL) (inb_in g92) dX12_gives_191 ?_
        refine z_icmp_le C 233 dX12_gives_192 (by decide) (fun c93 => ?_) (fun c93 => ?_)
        · replace hf := ite_t c93 hf
          refine z_iinc C 4 (y63 + 1) [(5, .int (y63 + 1)), (0, .ref (G.1 + 90)), (2, .int y60), (3, .int y61), (4, .int y62)] dX12_gives_233 rfl rfl (by decide) rfl rfl ?_
          refine z_goto C 168 dX12_gives_236 (by decide) ?_
          refine z_lv (lv2 := [(0, .ref (G.1 + 90)), (2, .int y60), (3, .int y61), (4, .int y62), (5, .int (y63 + 1))]) [1, 2, 3, 4, 0] rfl ?_
          exact ih M59 y60 y61 y62 (y63 + 1)  hf
        · replace hf := ite_f c93 hf
          refine z_goto C 229 dX12_gives_195 (by decide) ?_
          refine z_lv (lv2 := [(0, .ref (G.1 + 90)), (2, .int y60), (3, .int y61), (5, .int y63)]) [0, 1, 2, 4] rfl ?_
          refine wX12_gives_j229 C hs0 hL _ pp ?_ M59 y60 y61 y63 hf
          · intro M94 y95 y96 y97 y98 hf
            exact ih M94 y95 y96 y97 y98  hf
set_option maxHeartbeats 4000000 in
set_option maxRecDepth 100000 in
theorem wX12_gives_l158 (C : CX p s m args meth c cX12_gives 6 none RX12 G) (hs0 : s.heap.size = G.1 + K.1) (hL : Lay K)   (pp : MM)  : ∀ (n : Nat) (M55 : MM) (y56 : Int32) (y57 : Int32) (hf : fX12_gives_l158 n M55 y56 y57 = some pp), Z p l e (rmo 5 0 0) s m args below meth c 6 G (MQ below (QC G none K pp) args s 0 0 (AG G)) K 0 0 M55 158 [(0, .ref (G.1 + 90)), (2, .int y56), (3, .int y57)] [] := by
  intro n
  induction n with
  | zero => intro M55 y56 y57 hf; exact nomatch (show (none : Option MM) = some pp from hf)
  | succ n ih =>
    intro M55 y56 y57 hf
    rw [fX12_gives_l158.eq_2] at hf
    refine z_iload_n C 1 2 dX12_gives_158 rfl rfl ?_
    refine z_if_le C 264 dX12_gives_159 (by decide) (fun c58 => ?_) (fun c58 => ?_)
    · replace hf := ite_t c58 hf
      cases hf
      exact z_vret C rfl dX12_gives_264
    · replace hf := ite_f c58 hf
      refine z_iconst C 0 dX12_gives_162 (by decide) ?_
      refine z_istore C [(4, .int 0), (0, .ref (G.1 + 90)), (2, .int y56), (3, .int y57)] dX12_gives_163 (by decide) rfl rfl ?_
      refine z_iconst C 1 dX12_gives_165 (by decide) ?_
      refine z_istore C [(5, .int 1), (4, .int 0), (0, .ref (G.1 + 90)), (2, .int y56), (3, .int y57)] dX12_gives_166 (by decide) rfl rfl ?_
      refine z_lv (lv2 := [(0, .ref (G.1 + 90)), (2, .int y56), (3, .int y57), (4, .int 0), (5, .int 1)]) [2, 3, 4, 1, 0] rfl ?_
      refine wX12_gives_l168 C hs0 hL _ pp ?_ FU M55 y56 y57 0 1 hf
      · intro M99 y100 y101 y102 hf
        refine z_aload_n C 0 0 dX12_gives_239 rfl rfl ?_
        refine z_getR C ok_X12 (lay_c90 hL) 29 (105) (by decide) rfl (lay_r90_29 hL) q_fl_X12_53 dX12_gives_240 ?_
        refine z_iload C 3 dX12_gives_243 rfl ?_
        refine z_dup2 C rfl rfl dX12_gives_245 ?_
        replace hf := gd_out hf
        obtain ⟨g103, hf⟩ := hf
        refine z_iald C (lay_c105 hL) (inb_in g103) dX12_gives_246 ?_
        refine z_iconst C 1 dX12_gives_247 (by decide) ?_
        refine z_iadd C dX12_gives_248 ?_
        replace hf := gd_out hf
        obtain ⟨g104, hf⟩ := hf
        refine z_iast C (lay_c105 hL) (inb_in g104) dX12_gives_249 ?_
        refine z_M (fun M105 e106 => ?_)
        replace hf := bnd_out e106 hf
        refine z_aload_n C 0 0 dX12_gives_250 rfl rfl ?_
        refine z_getR C ok_X12 (lay_c90 hL) 30 (106) (by decide) rfl (lay_r90_30 hL) q_fl_X12_56 dX12_gives_251 ?_
        refine z_iload C 3 dX12_gives_254 rfl ?_
        refine z_iconst C (-1) dX12_gives_256 (by decide) ?_
        replace hf := gd_out hf
        obtain ⟨g107, hf⟩ := hf
        refine z_iast C (lay_c106 hL) (inb_in g107) dX12_gives_257 ?_
        refine z_M (fun M108 e109 => ?_)
        replace hf := bnd_out e109 hf
        refine z_iinc C 1 (y100 + (-1)) [(2, .int (y100 + (-1))), (0, .ref (G.1 + 90)), (3, .int y101), (4, .int y102)] dX12_gives_258 rfl rfl (by decide) rfl rfl ?_
        refine z_goto C 158 dX12_gives_261 (by decide) ?_
        refine z_lv (lv2 := [(0, .ref (G.1 + 90)), (2, .int (y100 + (-1))), (3, .int y101)]) [1, 0, 2] rfl ?_
        exact ih M108 (y100 + (-1)) y101  hf
set_option maxHeartbeats 4000000 in
set_option maxRecDepth 100000 in
theorem wX12_gives_j72 (C : CX p s m args meth c cX12_gives 6 none RX12 G) (hs0 : s.heap.size = G.1 + K.1) (hL : Lay K)   (pp : MM)  (M23 : MM) (y24 : Int32) (y25 : Int32) (y26 : Int32) (hf : fX12_gives_j72 M23 y24 y25 y26 = some pp) : Z p l e (rmo 5 0 0) s m args below meth c 6 G (MQ below (QC G none K pp) args s 0 0 (AG G)) K 0 0 M23 72 [(0, .ref (G.1 + 90)), (1, .int y24), (2, .int y25)] [.int y26] := by
  unfold fX12_gives_j72 at hf
  refine z_istore_n C [(3, .int y26), (0, .ref (G.1 + 90)), (1, .int y24), (2, .int y25)] dX12_gives_72 rfl (by decide) rfl rfl ?_
  refine z_iconst C 0 dX12_gives_73 (by decide) ?_
  refine z_istore C [(4, .int 0), (3, .int y26), (0, .ref (G.1 + 90)), (1, .int y24), (2, .int y25)] dX12_gives_74 (by decide) rfl rfl ?_
  refine z_lv (lv2 := [(0, .ref (G.1 + 90)), (1, .int y24), (2, .int y25), (3, .int y26), (4, .int 0)]) [2, 3, 4, 1, 0] rfl ?_
  refine wX12_gives_l76 C hs0 hL _ pp ?_ FU M23 y24 y25 y26 0 hf
  · intro M52 y53 y54 hf
    exact wX12_gives_l158 C hs0 hL pp FU M52 y53 y54 hf
set_option maxHeartbeats 4000000 in
set_option maxRecDepth 100000 in
theorem tX12_gives (l : Launch) (G : GG) {K : SK} (hL : Lay K) (M : MM)  (pp : MM) (hf : fX12_gives M = some pp) : Ct l yX12_gives cX12_gives 6 none 5 0 0 G K M [.ref (G.1 + 90)] none K pp := by
  refine z_enter (lv := [(0, .ref (G.1 + 90))]) (by decide +kernel) (Nat.le_of_ble_eq_true rfl) rfl ?_
  intro p e s m args below meth c C hnm hs0
  replace C : CX p s m args meth c cX12_gives 6 none RX12 G := C
  unfold fX12_gives at hf
  refine z_aload_n C 0 0 dX12_gives_0 rfl rfl ?_
  replace hf := bd_out hf
  obtain ⟨p1, e2, hf⟩ := hf
  refine z_cV0 C [] (tX12_takesTotals l G hL M  _ e2) lk_X12_takesTotals ok_X12 (lay_c90 hL) q_ml_X12_285 rfl ⟨Nat.le_of_ble_eq_true rfl, Nat.le_of_ble_eq_true rfl⟩ rfl (Nat.le_of_ble_eq_true rfl) ⟨Nat.le_refl _, Nat.le_refl _⟩ dX12_gives_1 ?_
  refine z_iconst C 0 dX12_gives_4 (by decide) ?_
  refine z_istore_n C [(1, .int 0), (0, .ref (G.1 + 90))] dX12_gives_5 rfl (by decide) rfl rfl ?_
  refine z_iconst C 0 dX12_gives_6 (by decide) ?_
  refine z_istore_n C [(2, .int 0), (1, .int 0), (0, .ref (G.1 + 90))] dX12_gives_7 rfl (by decide) rfl rfl ?_
  refine z_lv (lv2 := [(0, .ref (G.1 + 90)), (1, .int 0), (2, .int 0)]) [2, 1, 0] rfl ?_
  refine wX12_gives_l8 C hs0 hL _ pp ?_ FU p1 0 0 hf
  · intro M15 y16 hf
    refine z_iload_n C 1 1 dX12_gives_35 rfl rfl ?_
    refine z_if_ne C 40 dX12_gives_36 (by decide) (fun c17 => ?_) (fun c17 => ?_)
    · replace hf := ite_f c17 hf
      refine z_aload_n C 0 0 dX12_gives_40 rfl rfl ?_
      refine z_getR C ok_X12 (lay_c90 hL) 0 (91) (by decide) rfl (lay_r90_0 hL) q_fl_X12_7 dX12_gives_41 ?_
      refine z_aload_n C 0 0 dX12_gives_44 rfl rfl ?_
      refine z_getI C ok_X12 (lay_c90 hL) 26 (by decide) rfl q_fl_X12_261 dX12_gives_45 ?_
      refine z_iconst C 3 dX12_gives_48 (by decide) ?_
      refine z_iadd C dX12_gives_49 ?_
      replace hf := gd_out hf
      obtain ⟨g18, hf⟩ := hf
      refine z_iald C (lay_c91 hL) (inb_in g18) dX12_gives_50 ?_
      refine z_topi (fun v19 e20 => ?_)
      replace hf := bnd_out e20 hf
      refine z_istore_n C [(2, .int v19), (0, .ref (G.1 + 90)), (1, .int y16)] dX12_gives_51 rfl (by decide) rfl rfl ?_
      refine z_aload_n C 1 0 dX12_gives_52 rfl rfl ?_
      refine z_getR C ok_X12 (lay_c90 hL) 0 (91) (by decide) rfl (lay_r90_0 hL) q_fl_X12_7 dX12_gives_53 ?_
      refine z_aload_n C 1 0 dX12_gives_56 rfl rfl ?_
      refine z_getI C ok_X12 (lay_c90 hL) 26 (by decide) rfl q_fl_X12_261 dX12_gives_57 ?_
      refine z_iconst C 4 dX12_gives_60 (by decide) ?_
      refine z_iadd C dX12_gives_61 ?_
      replace hf := gd_out hf
      obtain ⟨g21, hf⟩ := hf
      refine z_iald C (lay_c91 hL) (inb_in g21) dX12_gives_62 ?_
      refine z_iconst C 2 dX12_gives_63 (by decide) ?_
      refine z_icmp_ne C 71 dX12_gives_64 (by decide) (fun c22 => ?_) (fun c22 => ?_)
      · replace hf := ite_f c22 hf
        refine z_iconst C 0 dX12_gives_71 (by decide) ?_
        refine z_lv (lv2 := [(0, .ref (G.1 + 90)), (1, .int y16), (2, .int v19)]) [1, 2, 0] rfl ?_
        exact wX12_gives_j72 C hs0 hL pp M15 y16 v19 0 hf
      · replace hf := ite_t c22 hf
        refine z_iconst C 1 dX12_gives_67 (by decide) ?_
        refine z_goto C 72 dX12_gives_68 (by decide) ?_
        refine z_lv (lv2 := [(0, .ref (G.1 + 90)), (1, .int y16), (2, .int v19)]) [1, 2, 0] rfl ?_
        exact wX12_gives_j72 C hs0 hL pp M15 y16 v19 1 hf
    · replace hf := ite_t c17 hf
      cases hf
      exact z_vret C rfl dX12_gives_39
set_option maxHeartbeats 4000000 in
set_option maxRecDepth 100000 in
theorem tX12_party (l : Launch) (G : GG) {K : SK} (hL : Lay K) (M : MM) (x1 : Int32) (x2 : Int32) (x3 : Int32) (x4 : Int32) (pp : (Int32 × MM)) (hf : fX12_party M x1 x2 x3 x4 = some pp) : Ct l yX12_party cX12_party 5 (some .int) 6 0 0 G K M [.ref (G.1 + 90), .int x1, .int x2, .int x3, .int x4] (some (.int pp.1)) K pp.2 := by
  refine z_enter (lv := [(0, .ref (G.1 + 90)), (1, .int x1), (2, .int x2), (3, .int x3), (4, .int x4)]) (by decide +kernel) (Nat.le_of_ble_eq_true rfl) rfl ?_
  intro p e s m args below meth c C hnm hs0
  replace C : CX p s m args meth c cX12_party 5 (some .int) RX12 G := C
  unfold fX12_party at hf
  refine z_aload_n C 0 0 dX12_party_0 rfl rfl ?_
  refine z_iload_n C 1 1 dX12_party_1 rfl rfl ?_
  refine z_iload_n C 2 2 dX12_party_2 rfl rfl ?_
  replace hf := bd_out hf
  obtain ⟨p1, e2, hf⟩ := hf
  refine z_cV1 C [] (tX12_areTold l G hL M x1 x2 _ e2) lk_X12_areTold ok_X12 (lay_c90 hL) q_ml_X12_279 rfl ⟨Nat.le_of_ble_eq_true rfl, Nat.le_of_ble_eq_true rfl⟩ rfl (Nat.le_of_ble_eq_true rfl) ⟨Nat.le_refl _, Nat.le_refl _⟩ dX12_party_3 ?_
  refine z_if_eq C 18 dX12_party_6 (by decide) (fun c3 => ?_) (fun c3 => ?_)
  · replace hf := ite_t c3 hf
    refine z_iconst C (-1) dX12_party_18 (by decide) ?_
    cases hf
    exact z_iret C rfl dX12_party_19
  · replace hf := ite_f c3 hf
    refine z_iload_n C 3 3 dX12_party_9 rfl rfl ?_
    refine z_iconst C 0 dX12_party_10 (by decide) ?_
    refine z_iconst C 3 dX12_party_11 (by decide) ?_
    refine z_cS1 C [] (tX12_isIn l G hL p1.2 x3 0 3) lk_X12_isIn q_ml_X12_141 rfl ⟨Nat.le_of_ble_eq_true rfl, Nat.le_of_ble_eq_true rfl⟩ rfl (Nat.le_of_ble_eq_true rfl) ⟨Nat.le_refl _, Nat.le_refl _⟩ dX12_party_12 ?_
    refine z_if_ne C 20 dX12_party_15 (by decide) (fun c4 => ?_) (fun c4 => ?_)
    · replace hf := ite_f c4 hf
      refine z_aload_n C 0 0 dX12_party_20 rfl rfl ?_
      replace hf := bd_out hf
      obtain ⟨p5, e6, hf⟩ := hf
      refine z_cV0 C [] (tX12_gives l G hL p1.2  _ e6) lk_X12_gives ok_X12 (lay_c90 hL) q_ml_X12_291 rfl ⟨Nat.le_of_ble_eq_true rfl, Nat.le_of_ble_eq_true rfl⟩ rfl (Nat.le_of_ble_eq_true rfl) ⟨Nat.le_refl _, Nat.le_refl _⟩ dX12_party_21 ?_
      refine z_iload C 4 dX12_party_24 rfl ?_
      refine z_if_eq C 38 dX12_party_26 (by decide) (fun c7 => ?_) (fun c7 => ?_)
      · replace hf := ite_t c7 hf
        refine z_aload_n C 0 0 dX12_party_38 rfl rfl ?_
        refine z_getR C ok_X12 (lay_c90 hL) 28 (104) (by decide) rfl (lay_r90_28 hL) q_fl_X12_50 dX12_party_39 ?_
        refine z_iload_n C 3 3 dX12_party_42 rfl rfl ?_
        replace hf := gd_out hf
        obtain ⟨g8, hf⟩ := hf
        refine z_iald C (lay_c104 hL) (inb_in g8) dX12_party_43 ?_
        cases hf
        exact z_iret C rfl dX12_party_44
      · replace hf := ite_f c7 hf
        refine z_aload_n C 0 0 dX12_party_29 rfl rfl ?_
        refine z_getR C ok_X12 (lay_c90 hL) 29 (105) (by decide) rfl (lay_r90_29 hL) q_fl_X12_53 dX12_party_30 ?_
        refine z_iload_n C 3 3 dX12_party_33 rfl rfl ?_
        replace hf := gd_out hf
        obtain ⟨g9, hf⟩ := hf
        refine z_iald C (lay_c105 hL) (inb_in g9) dX12_party_34 ?_
        refine z_goto C 44 dX12_party_35 (by decide) ?_
        cases hf
        exact z_iret C rfl dX12_party_44
    · replace hf := ite_t c4 hf
      refine z_iconst C (-1) dX12_party_18 (by decide) ?_
      cases hf
      exact z_iret C rfl dX12_party_19
set_option maxHeartbeats 4000000 in
set_option maxRecDepth 100000 in
theorem tX12_isEvening (l : Launch) (G : GG) {K : SK} (hL : Lay K) (M : MM) (x1 : Int32) (pp : (Int32 × MM)) (hf : fX12_isEvening M x1 = some pp) : Ct l yX12_isEvening cX12_isEvening 2 (some .boolean) 2 0 0 G K M [.ref (G.1 + 90), .int x1] (some (.int pp.1)) K pp.2 := by
  refine z_enter (lv := [(0, .ref (G.1 + 90)), (1, .int x1)]) (by decide +kernel) (Nat.le_of_ble_eq_true rfl) rfl ?_
  intro p e s m args below meth c C hnm hs0
  replace C : CX p s m args meth c cX12_isEvening 2 (some .boolean) RX12 G := C
  unfold fX12_isEvening at hf
  refine z_aload_n C 0 0 dX12_isEvening_0 rfl rfl ?_
  refine z_iconst C 2 dX12_isEvening_1 (by decide) ?_
  refine z_iload_n C 1 1 dX12_isEvening_2 rfl rfl ?_
  replace hf := bd_out hf
  obtain ⟨p1, e2, hf⟩ := hf
  refine z_cV1 C [] (tX12_isOf l G hL M 2 x1 _ e2) lk_X12_isOf ok_X12 (lay_c90 hL) q_ml_X12_179 rfl ⟨Nat.le_of_ble_eq_true rfl, Nat.le_of_ble_eq_true rfl⟩ rfl (Nat.le_of_ble_eq_true rfl) ⟨Nat.le_refl _, Nat.le_refl _⟩ dX12_isEvening_3 ?_
  refine z_if_ne C 11 dX12_isEvening_6 (by decide) (fun c3 => ?_) (fun c3 => ?_)
  · replace hf := ite_f c3 hf
    refine z_aload_n C 0 0 dX12_isEvening_11 rfl rfl ?_
    refine z_iconst C 2 dX12_isEvening_12 (by decide) ?_
    refine z_iload_n C 1 1 dX12_isEvening_13 rfl rfl ?_
    refine z_cS1 C [.ref (G.1 + 90)] (tX12_placeOf l G hL M 2 x1) lk_X12_placeOf q_ml_X12_204 rfl ⟨Nat.le_of_ble_eq_true rfl, Nat.le_of_ble_eq_true rfl⟩ rfl (Nat.le_of_ble_eq_true rfl) ⟨Nat.le_refl _, Nat.le_refl _⟩ dX12_isEvening_14 ?_
    refine z_putI C ok_X12 (lay_c90 hL) 31 (by decide) rfl rfl rfl rfl q_fl_X12_294 dX12_isEvening_17 ?_
    refine z_M (fun M4 e5 => ?_)
    replace hf := bnd_out e5 hf
    refine z_iconst C 1 dX12_isEvening_20 (by decide) ?_
    cases hf
    exact z_zret C rfl nb1 dX12_isEvening_21
  · replace hf := ite_t c3 hf
    refine z_iconst C 0 dX12_isEvening_9 (by decide) ?_
    cases hf
    exact z_zret C rfl nb0 dX12_isEvening_10
set_option maxHeartbeats 4000000 in
set_option maxRecDepth 100000 in
theorem tX12_deedOf (l : Launch) (G : GG) {K : SK} (hL : Lay K) (M : MM) (x1 : Int32) (x2 : Int32) (pp : Int32) (hf : fX12_deedOf M x1 x2 = some pp) : Ct l yX12_deedOf cX12_deedOf 3 (some .int) 0 0 0 G K M [.ref (G.1 + 90), .int x1, .int x2] (some (.int pp)) K M := by
  refine z_enter (lv := [(0, .ref (G.1 + 90)), (1, .int x1), (2, .int x2)]) (by decide +kernel) (Nat.le_of_ble_eq_true rfl) rfl ?_
  intro p e s m args below meth c C hnm hs0
  replace C : CX p s m args meth c cX12_deedOf 3 (some .int) RX12 G := C
  unfold fX12_deedOf at hf
  refine z_aload_n C 0 0 dX12_deedOf_0 rfl rfl ?_
  refine z_getR C ok_X12 (lay_c90 hL) 0 (91) (by decide) rfl (lay_r90_0 hL) q_fl_X12_7 dX12_deedOf_1 ?_
  refine z_aload_n C 0 0 dX12_deedOf_4 rfl rfl ?_
  refine z_getI C ok_X12 (lay_c90 hL) 31 (by decide) rfl q_fl_X12_294 dX12_deedOf_5 ?_
  refine z_iconst C 1 dX12_deedOf_8 (by decide) ?_
  refine z_iadd C dX12_deedOf_9 ?_
  refine z_iconst C 3 dX12_deedOf_10 (by decide) ?_
  refine z_iload_n C 1 1 dX12_deedOf_11 rfl rfl ?_
  refine z_imul C dX12_deedOf_12 ?_
  refine z_iadd C dX12_deedOf_13 ?_
  refine z_iload_n C 2 2 dX12_deedOf_14 rfl rfl ?_
  refine z_iadd C dX12_deedOf_15 ?_
  replace hf := gd_out hf
  obtain ⟨g1, hf⟩ := hf
  refine z_iald C (lay_c91 hL) (inb_in g1) dX12_deedOf_16 ?_
  cases hf
  exact z_iret C rfl dX12_deedOf_17
set_option maxHeartbeats 4000000 in
set_option maxRecDepth 100000 in
theorem tX12_deed (l : Launch) (G : GG) {K : SK} (hL : Lay K) (M : MM) (x1 : Int32) (x2 : Int32) (x3 : Int32) (pp : (Int32 × MM)) (hf : fX12_deed M x1 x2 x3 = some pp) : Ct l yX12_deed cX12_deed 4 (some .int) 3 0 0 G K M [.ref (G.1 + 90), .int x1, .int x2, .int x3] (some (.int pp.1)) K pp.2 := by
  refine z_enter (lv := [(0, .ref (G.1 + 90)), (1, .int x1), (2, .int x2), (3, .int x3)]) (by decide +kernel) (Nat.le_of_ble_eq_true rfl) rfl ?_
  intro p e s m args below meth c C hnm hs0
  replace C : CX p s m args meth c cX12_deed 4 (some .int) RX12 G := C
  unfold fX12_deed at hf
  refine z_aload_n C 0 0 dX12_deed_0 rfl rfl ?_
  refine z_iload_n C 1 1 dX12_deed_1 rfl rfl ?_
  replace hf := bd_out hf
  obtain ⟨p1, e2, hf⟩ := hf
  refine z_cV1 C [] (tX12_isEvening l G hL M x1 _ e2) lk_X12_isEvening ok_X12 (lay_c90 hL) q_ml_X12_297 rfl ⟨Nat.le_of_ble_eq_true rfl, Nat.le_of_ble_eq_true rfl⟩ rfl (Nat.le_of_ble_eq_true rfl) ⟨Nat.le_refl _, Nat.le_refl _⟩ dX12_deed_2 ?_
  refine z_if_ne C 11 dX12_deed_5 (by decide) (fun c3 => ?_) (fun c3 => ?_)
  · replace hf := ite_f c3 hf
    refine z_iload_n C 2 2 dX12_deed_11 rfl rfl ?_
    refine z_iconst C (-1) dX12_deed_12 (by decide) ?_
    refine z_icmp_ne C 35 dX12_deed_13 (by decide) (fun c4 => ?_) (fun c4 => ?_)
    · replace hf := ite_f c4 hf
      refine z_iload_n C 2 2 dX12_deed_35 rfl rfl ?_
      refine z_iconst C 0 dX12_deed_36 (by decide) ?_
      refine z_aload_n C 0 0 dX12_deed_37 rfl rfl ?_
      refine z_getR C ok_X12 (lay_c90 hL) 0 (91) (by decide) rfl (lay_r90_0 hL) q_fl_X12_7 dX12_deed_38 ?_
      refine z_aload_n C 0 0 dX12_deed_41 rfl rfl ?_
      refine z_getI C ok_X12 (lay_c90 hL) 31 (by decide) rfl q_fl_X12_294 dX12_deed_42 ?_
      replace hf := gd_out hf
      obtain ⟨g5, hf⟩ := hf
      refine z_iald C (lay_c91 hL) (inb_in g5) dX12_deed_45 ?_
      refine z_iconst C 1 dX12_deed_46 (by decide) ?_
      refine z_isub C dX12_deed_47 ?_
      refine z_cS1 C [] (tX12_isIn l G hL p1.2 x2 0 ((gI p1.2 91 (ix (gI p1.2 90 31))) - 1)) lk_X12_isIn q_ml_X12_141 rfl ⟨Nat.le_of_ble_eq_true rfl, Nat.le_of_ble_eq_true rfl⟩ rfl (Nat.le_of_ble_eq_true rfl) ⟨Nat.le_refl _, Nat.le_refl _⟩ dX12_deed_48 ?_
      refine z_if_eq C 72 dX12_deed_51 (by decide) (fun c6 => ?_) (fun c6 => ?_)
      · replace hf := ite_t c6 hf
        refine z_bipush C (-2) dX12_deed_72 (by decide) ?_
        cases hf
        exact z_iret C rfl dX12_deed_74
      · replace hf := ite_f c6 hf
        refine z_iload_n C 3 3 dX12_deed_54 rfl rfl ?_
        refine z_iconst C 0 dX12_deed_55 (by decide) ?_
        refine z_iconst C 2 dX12_deed_56 (by decide) ?_
        refine z_cS1 C [] (tX12_isIn l G hL p1.2 x3 0 2) lk_X12_isIn q_ml_X12_141 rfl ⟨Nat.le_of_ble_eq_true rfl, Nat.le_of_ble_eq_true rfl⟩ rfl (Nat.le_of_ble_eq_true rfl) ⟨Nat.le_refl _, Nat.le_refl _⟩ dX12_deed_57 ?_
        refine z_if_eq C 72 dX12_deed_60 (by decide) (fun c7 => ?_) (fun c7 => ?_)
        · replace hf := ite_t c7 hf
          refine z_bipush C (-2) dX12_deed_72 (by decide) ?_
          cases hf
          exact z_iret C rfl dX12_deed_74
        · replace hf := ite_f c7 hf
          refine z_aload_n C 0 0 dX12_deed_63 rfl rfl ?_
          refine z_iload_n C 2 2 dX12_deed_64 rfl rfl ?_
          refine z_iload_n C 3 3 dX12_deed_65 rfl rfl ?_
          replace hf := bd_out hf
          obtain ⟨p8, e9, hf⟩ := hf
          refine z_cV1 C [] (tX12_deedOf l G hL p1.2 x2 x3 _ e9) lk_X12_deedOf ok_X12 (lay_c90 hL) q_ml_X12_300 rfl ⟨Nat.le_of_ble_eq_true rfl, Nat.le_of_ble_eq_true rfl⟩ rfl (Nat.le_of_ble_eq_true rfl) ⟨Nat.le_refl _, Nat.le_refl _⟩ dX12_deed_66 ?_
          refine z_goto C 74 dX12_deed_69 (by decide) ?_
          cases hf
          exact z_iret C rfl dX12_deed_74
    · replace hf := ite_t c4 hf
      refine z_iload_n C 3 3 dX12_deed_16 rfl rfl ?_
      refine z_if_ne C 32 dX12_deed_17 (by decide) (fun c10 => ?_) (fun c10 => ?_)
      · replace hf := ite_f c10 hf
        refine z_bipush C (-2) dX12_deed_32 (by decide) ?_
        cases hf
        exact z_iret C rfl dX12_deed_34
      · replace hf := ite_t c10 hf
        refine z_aload_n C 0 0 dX12_deed_20 rfl rfl ?_
        refine z_getR C ok_X12 (lay_c90 hL) 0 (91) (by decide) rfl (lay_r90_0 hL) q_fl_X12_7 dX12_deed_21 ?_
        refine z_aload_n C 0 0 dX12_deed_24 rfl rfl ?_
        refine z_getI C ok_X12 (lay_c90 hL) 31 (by decide) rfl q_fl_X12_294 dX12_deed_25 ?_
        replace hf := gd_out hf
        obtain ⟨g11, hf⟩ := hf
        refine z_iald C (lay_c91 hL) (inb_in g11) dX12_deed_28 ?_
        refine z_goto C 34 dX12_deed_29 (by decide) ?_
        cases hf
        exact z_iret C rfl dX12_deed_34
  · replace hf := ite_t c3 hf
    refine z_bipush C (-2) dX12_deed_8 (by decide) ?_
    cases hf
    exact z_iret C rfl dX12_deed_10
set_option maxHeartbeats 4000000 in
set_option maxRecDepth 100000 in
theorem wX12_begins_l12 (C : CX p s m args meth c cX12_begins 2 none RX12 G) (hs0 : s.heap.size = G.1 + K.1) (hL : Lay K)   (pp : MM)  : ∀ (n : Nat) (M5 : MM) (y6 : Int32) (hf : fX12_begins_l12 n M5 y6 = some pp), Z p l e (rmo 0 0 0) s m args below meth c 2 G (MQ below (QC G none K pp) args s 0 0 (AG G)) K 0 0 M5 12 [(0, .ref (G.1 + 90)), (1, .int y6)] [] := by
  intro n
  induction n with
  | zero => intro M5 y6 hf; exact nomatch (show (none : Option MM) = some pp from hf)
  | succ n ih =>
    intro M5 y6 hf
    rw [fX12_begins_l12.eq_2] at hf
    refine z_iload_n C 1 1 dX12_begins_12 rfl rfl ?_
    refine z_bipush C 8 dX12_begins_13 (by decide) ?_
    refine z_icmp_ge C 38 dX12_begins_15 (by decide) (fun c7 => ?_) (fun c7 => ?_)
    · replace hf := ite_t c7 hf
      cases hf
      exact z_vret C rfl dX12_begins_38
    · replace hf := ite_f c7 hf
      refine z_aload_n C 0 0 dX12_begins_18 rfl rfl ?_
      refine z_getR C ok_X12 (lay_c90 hL) 34 (107) (by decide) rfl (lay_r90_34 hL) q_fl_X12_59 dX12_begins_19 ?_
      refine z_iload_n C 1 1 dX12_begins_22 rfl rfl ?_
      refine z_iconst C 0 dX12_begins_23 (by decide) ?_
      replace hf := gd_out hf
      obtain ⟨g8, hf⟩ := hf
      refine z_iast C (lay_c107 hL) (inb_in g8) dX12_begins_24 ?_
      refine z_M (fun M9 e10 => ?_)
      replace hf := bnd_out e10 hf
      refine z_aload_n C 0 0 dX12_begins_25 rfl rfl ?_
      refine z_getR C ok_X12 (lay_c90 hL) 35 (108) (by decide) rfl (lay_r90_35 hL) q_fl_X12_62 dX12_begins_26 ?_
      refine z_iload_n C 1 1 dX12_begins_29 rfl rfl ?_
      refine z_iconst C 0 dX12_begins_30 (by decide) ?_
      replace hf := gd_out hf
      obtain ⟨g11, hf⟩ := hf
      refine z_iast C (lay_c108 hL) (inb_in g11) dX12_begins_31 ?_
      refine z_M (fun M12 e13 => ?_)
      replace hf := bnd_out e13 hf
      refine z_iinc C 1 (y6 + 1) [(1, .int (y6 + 1)), (0, .ref (G.1 + 90))] dX12_begins_32 rfl rfl (by decide) rfl rfl ?_
      refine z_goto C 12 dX12_begins_35 (by decide) ?_
      refine z_lv (lv2 := [(0, .ref (G.1 + 90)), (1, .int (y6 + 1))]) [1, 0] rfl ?_
      exact ih M12 (y6 + 1)  hf
set_option maxHeartbeats 4000000 in
set_option maxRecDepth 100000 in
theorem tX12_begins (l : Launch) (G : GG) {K : SK} (hL : Lay K) (M : MM)  (pp : MM) (hf : fX12_begins M = some pp) : Ct l yX12_begins cX12_begins 2 none 0 0 0 G K M [.ref (G.1 + 90)] none K pp := by
  refine z_enter (lv := [(0, .ref (G.1 + 90))]) (by decide +kernel) (Nat.le_of_ble_eq_true rfl) rfl ?_
  intro p e s m args below meth c C hnm hs0
  replace C : CX p s m args meth c cX12_begins 2 none RX12 G := C
  unfold fX12_begins at hf
  refine z_aload_n C 0 0 dX12_begins_0 rfl rfl ?_
  refine z_iconst C 0 dX12_begins_1 (by decide) ?_
  refine z_putI C ok_X12 (lay_c90 hL) 32 (by decide) rfl rfl rfl rfl q_fl_X12_303 dX12_begins_2 ?_
  refine z_M (fun M1 e2 => ?_)
  replace hf := bnd_out e2 hf
  refine z_aload_n C 0 0 dX12_begins_5 rfl rfl ?_
  refine z_iconst C 0 dX12_begins_6 (by decide) ?_
  refine z_putI C ok_X12 (lay_c90 hL) 33 (by decide) rfl rfl rfl rfl q_fl_X12_306 dX12_begins_7 ?_
  refine z_M (fun M3 e4 => ?_)
  replace hf := bnd_out e4 hf
  refine z_iconst C 0 dX12_begins_10 (by decide) ?_
  refine z_istore_n C [(1, .int 0), (0, .ref (G.1 + 90))] dX12_begins_11 rfl (by decide) rfl rfl ?_
  refine z_lv (lv2 := [(0, .ref (G.1 + 90)), (1, .int 0)]) [1, 0] rfl ?_
  exact wX12_begins_l12 C hs0 hL pp FU M3 0 hf
set_option maxHeartbeats 4000000 in
set_option maxRecDepth 100000 in
theorem wX12_can_j87 (C : CX p s m args meth c cX12_can 4 (some .boolean) RX12 G) (hs0 : s.heap.size = G.1 + K.1) (hL : Lay K) (M : MM)  (pp : Int32)  (y9 : Int32) (y10 : Int32) (hf : fX12_can_j87 M y9 y10 = some pp) : Z p l e (rmo 2 0 0) s m args below meth c 4 G (MQ below (QC G (some (.int pp)) K M) args s 0 0 (AG G)) K 0 0 M 87 [] [.int y10, .int y9] := by
  unfold fX12_can_j87 at hf
  refine z_icmp_ne C 94 dX12_can_87 (by decide) (fun c11 => ?_) (fun c11 => ?_)
  · replace hf := ite_f c11 hf
    refine z_iconst C 0 dX12_can_94 (by decide) ?_
    cases hf
    exact z_zret C rfl nb0 dX12_can_95
  · replace hf := ite_t c11 hf
    refine z_iconst C 1 dX12_can_90 (by decide) ?_
    refine z_goto C 95 dX12_can_91 (by decide) ?_
    cases hf
    exact z_zret C rfl nb1 dX12_can_95
set_option maxHeartbeats 4000000 in
set_option maxRecDepth 100000 in
theorem tX12_can (l : Launch) (G : GG) {K : SK} (hL : Lay K) (M : MM) (x1 : Int32) (x2 : Int32) (x3 : Int32) (pp : Int32) (hf : fX12_can M x1 x2 x3 = some pp) : Ct l yX12_can cX12_can 4 (some .boolean) 2 0 0 G K M [.ref (G.1 + 90), .int x1, .int x2, .int x3] (some (.int pp)) K M := by
  refine z_enter (lv := [(0, .ref (G.1 + 90)), (1, .int x1), (2, .int x2), (3, .int x3)]) (by decide +kernel) (Nat.le_of_ble_eq_true rfl) rfl ?_
  intro p e s m args below meth c C hnm hs0
  replace C : CX p s m args meth c cX12_can 4 (some .boolean) RX12 G := C
  unfold fX12_can at hf
  refine z_iload_n C 1 1 dX12_can_0 rfl rfl ?_
  refine z_iconst C 4 dX12_can_1 (by decide) ?_
  refine z_icmp_ne C 7 dX12_can_2 (by decide) (fun c1 => ?_) (fun c1 => ?_)
  · replace hf := ite_f c1 hf
    refine z_iload_n C 1 1 dX12_can_7 rfl rfl ?_
    refine z_if_ne C 58 dX12_can_8 (by decide) (fun c2 => ?_) (fun c2 => ?_)
    · replace hf := ite_f c2 hf
      refine z_aload_n C 0 0 dX12_can_58 rfl rfl ?_
      refine z_iload_n C 2 2 dX12_can_59 rfl rfl ?_
      replace hf := bd_out hf
      obtain ⟨p3, e4, hf⟩ := hf
      refine z_cV1 C [] (tX12_isShine l G hL M x2 _ e4) lk_X12_isShine ok_X12 (lay_c90 hL) q_ml_X12_234 rfl ⟨Nat.le_of_ble_eq_true rfl, Nat.le_of_ble_eq_true rfl⟩ rfl (Nat.le_of_ble_eq_true rfl) ⟨Nat.le_refl _, Nat.le_refl _⟩ dX12_can_60 ?_
      refine z_if_eq C 94 dX12_can_63 (by decide) (fun c5 => ?_) (fun c5 => ?_)
      · replace hf := ite_t c5 hf
        refine z_iconst C 0 dX12_can_94 (by decide) ?_
        cases hf
        exact z_zret C rfl nb0 dX12_can_95
      · replace hf := ite_f c5 hf
        refine z_iload_n C 1 1 dX12_can_66 rfl rfl ?_
        refine z_iconst C 1 dX12_can_67 (by decide) ?_
        refine z_icmp_eq C 90 dX12_can_68 (by decide) (fun c6 => ?_) (fun c6 => ?_)
        · replace hf := ite_t c6 hf
          refine z_iconst C 1 dX12_can_90 (by decide) ?_
          refine z_goto C 95 dX12_can_91 (by decide) ?_
          cases hf
          exact z_zret C rfl nb1 dX12_can_95
        · replace hf := ite_f c6 hf
          refine z_aload_n C 0 0 dX12_can_71 rfl rfl ?_
          refine z_getR C ok_X12 (lay_c90 hL) 22 (101) (by decide) rfl (lay_r90_22 hL) q_fl_X12_41 dX12_can_72 ?_
          refine z_iload_n C 2 2 dX12_can_75 rfl rfl ?_
          replace hf := gd_out hf
          obtain ⟨g7, hf⟩ := hf
          refine z_zald C (lay_c101 hL) (inb_in g7) dX12_can_76 ?_
          refine z_iload_n C 1 1 dX12_can_77 rfl rfl ?_
          refine z_iconst C 3 dX12_can_78 (by decide) ?_
          refine z_icmp_ne C 86 dX12_can_79 (by decide) (fun c8 => ?_) (fun c8 => ?_)
          · replace hf := ite_f c8 hf
            refine z_iconst C 0 dX12_can_86 (by decide) ?_
            refine z_lv (lv2 := []) [] rfl ?_
            exact wX12_can_j87 C hs0 hL M pp (gI M 101 (ix x2)) 0 hf
          · replace hf := ite_t c8 hf
            refine z_iconst C 1 dX12_can_82 (by decide) ?_
            refine z_goto C 87 dX12_can_83 (by decide) ?_
            refine z_lv (lv2 := []) [] rfl ?_
            exact wX12_can_j87 C hs0 hL M pp (gI M 101 (ix x2)) 1 hf
    · replace hf := ite_t c2 hf
      refine z_aload_n C 0 0 dX12_can_11 rfl rfl ?_
      refine z_iload_n C 2 2 dX12_can_12 rfl rfl ?_
      replace hf := bd_out hf
      obtain ⟨p12, e13, hf⟩ := hf
      refine z_cV1 C [] (tX12_isPerson l G hL M x2 _ e13) lk_X12_isPerson ok_X12 (lay_c90 hL) q_ml_X12_228 rfl ⟨Nat.le_of_ble_eq_true rfl, Nat.le_of_ble_eq_true rfl⟩ rfl (Nat.le_of_ble_eq_true rfl) ⟨Nat.le_refl _, Nat.le_refl _⟩ dX12_can_13 ?_
      refine z_if_eq C 56 dX12_can_16 (by decide) (fun c14 => ?_) (fun c14 => ?_)
      · replace hf := ite_t c14 hf
        refine z_iconst C 0 dX12_can_56 (by decide) ?_
        cases hf
        exact z_zret C rfl nb0 dX12_can_57
      · replace hf := ite_f c14 hf
        refine z_aload_n C 0 0 dX12_can_19 rfl rfl ?_
        refine z_aload_n C 0 0 dX12_can_20 rfl rfl ?_
        refine z_getR C ok_X12 (lay_c90 hL) 15 (94) (by decide) rfl (lay_r90_15 hL) q_fl_X12_20 dX12_can_21 ?_
        refine z_iload_n C 2 2 dX12_can_24 rfl rfl ?_
        replace hf := gd_out hf
        obtain ⟨g15, hf⟩ := hf
        refine z_iald C (lay_c94 hL) (inb_in g15) dX12_can_25 ?_
        refine z_iload_n C 3 3 dX12_can_26 rfl rfl ?_
        replace hf := bd_out hf
        obtain ⟨p16, e17, hf⟩ := hf
        refine z_cV1 C [] (tX12_beside l G hL M (gI M 94 (ix x2)) x3 _ e17) lk_X12_beside ok_X12 (lay_c90 hL) q_ml_X12_249 rfl ⟨Nat.le_of_ble_eq_true rfl, Nat.le_of_ble_eq_true rfl⟩ rfl (Nat.le_of_ble_eq_true rfl) ⟨Nat.le_refl _, Nat.le_refl _⟩ dX12_can_27 ?_
        refine z_iconst C (-1) dX12_can_30 (by decide) ?_
        refine z_icmp_eq C 56 dX12_can_31 (by decide) (fun c18 => ?_) (fun c18 => ?_)
        · replace hf := ite_t c18 hf
          refine z_iconst C 0 dX12_can_56 (by decide) ?_
          cases hf
          exact z_zret C rfl nb0 dX12_can_57
        · replace hf := ite_f c18 hf
          refine z_aload_n C 0 0 dX12_can_34 rfl rfl ?_
          refine z_aload_n C 0 0 dX12_can_35 rfl rfl ?_
          refine z_aload_n C 0 0 dX12_can_36 rfl rfl ?_
          refine z_getR C ok_X12 (lay_c90 hL) 15 (94) (by decide) rfl (lay_r90_15 hL) q_fl_X12_20 dX12_can_37 ?_
          refine z_iload_n C 2 2 dX12_can_40 rfl rfl ?_
          replace hf := gd_out hf
          obtain ⟨g19, hf⟩ := hf
          refine z_iald C (lay_c94 hL) (inb_in g19) dX12_can_41 ?_
          refine z_iload_n C 3 3 dX12_can_42 rfl rfl ?_
          replace hf := bd_out hf
          obtain ⟨p20, e21, hf⟩ := hf
          refine z_cV1 C [.ref (G.1 + 90)] (tX12_beside l G hL M (gI M 94 (ix x2)) x3 _ e21) lk_X12_beside ok_X12 (lay_c90 hL) q_ml_X12_249 rfl ⟨Nat.le_of_ble_eq_true rfl, Nat.le_of_ble_eq_true rfl⟩ rfl (Nat.le_of_ble_eq_true rfl) ⟨Nat.le_refl _, Nat.le_refl _⟩ dX12_can_43 ?_
          replace hf := bd_out hf
          obtain ⟨p22, e23, hf⟩ := hf
          refine z_cV1 C [] (tX12_on l G hL M p20 _ e23) lk_X12_on ok_X12 (lay_c90 hL) q_ml_X12_243 rfl ⟨Nat.le_of_ble_eq_true rfl, Nat.le_of_ble_eq_true rfl⟩ rfl (Nat.le_of_ble_eq_true rfl) ⟨Nat.le_refl _, Nat.le_refl _⟩ dX12_can_46 ?_
          refine z_if_ne C 56 dX12_can_49 (by decide) (fun c24 => ?_) (fun c24 => ?_)
          · replace hf := ite_f c24 hf
            refine z_iconst C 0 dX12_can_56 (by decide) ?_
            cases hf
            exact z_zret C rfl nb0 dX12_can_57
          · replace hf := ite_t c24 hf
            refine z_iconst C 1 dX12_can_52 (by decide) ?_
            refine z_goto C 57 dX12_can_53 (by decide) ?_
            cases hf
            exact z_zret C rfl nb1 dX12_can_57
  · replace hf := ite_t c1 hf
    refine z_iconst C 1 dX12_can_5 (by decide) ?_
    cases hf
    exact z_zret C rfl nb1 dX12_can_6
set_option maxHeartbeats 4000000 in
set_option maxRecDepth 100000 in
theorem wX12_counts_j87 (C : CX p s m args meth c cX12_counts 3 none RX12 G) (hs0 : s.heap.size = G.1 + K.1) (hL : Lay K)  (k40 : MM → Int32 → Int32 → Option MM) (pp : MM) (hk40 : ∀ (M38 : MM) (y39 : Int32) (y40 : Int32), k40 M38 y39 y40 = some pp → Z p l e (rmo 4 0 0) s m args below meth c 3 G (MQ below (QC G none K pp) args s 0 0 (AG G)) K 0 0 M38 40 [(0, .ref (G.1 + 90)), (1, .int y39), (2, .int y40)] []) (M29 : MM) (y30 : Int32) (y31 : Int32) (y32 : Int32) (y33 : Int32) (y34 : Int32) (hf : fX12_counts_j87 k40 M29 y30 y31 y32 y33 y34 = some pp) : Z p l e (rmo 4 0 0) s m args below meth c 3 G (MQ below (QC G none K pp) args s 0 0 (AG G)) K 0 0 M29 87 [(0, .ref (G.1 + 90)), (1, .int y30), (2, .int y31)] [.int y34, .int y33, .int y32, .ref (G.1 + 107)] := by
  unfold fX12_counts_j87 at hf
  refine z_iadd C dX12_counts_87 ?_
  replace hf := gd_out hf
  obtain ⟨g35, hf⟩ := hf
  refine z_iast C (lay_c107 hL) (inb_in g35) dX12_counts_88 ?_
  refine z_M (fun M36 e37 => ?_)
  replace hf := bnd_out e37 hf
  refine z_iinc C 2 (y31 + 1) [(2, .int (y31 + 1)), (0, .ref (G.1 + 90)), (1, .int y30)] dX12_counts_89 rfl rfl (by decide) rfl rfl ?_
  refine z_goto C 40 dX12_counts_92 (by decide) ?_
  refine z_lv (lv2 := [(0, .ref (G.1 + 90)), (1, .int y30), (2, .int (y31 + 1))]) [1, 2, 0] rfl ?_
  exact hk40 M36 y30 (y31 + 1)  hf
set_option maxHeartbeats 4000000 in
set_option maxRecDepth 100000 in
theorem wX12_counts_j86 (C : CX p s m args meth c cX12_counts 3 none RX12 G) (hs0 : s.heap.size = G.1 + K.1) (hL : Lay K)  (k40 : MM → Int32 → Int32 → Option MM) (pp : MM) (hk40 : ∀ (M44 : MM) (y45 : Int32) (y46 : Int32), k40 M44 y45 y46 = some pp → Z p l e (rmo 4 0 0) s m args below meth c 3 G (MQ below (QC G none K pp) args s 0 0 (AG G)) K 0 0 M44 40 [(0, .ref (G.1 + 90)), (1, .int y45), (2, .int y46)] []) (M24 : MM) (y25 : Int32) (y26 : Int32) (y27 : Int32) (y28 : Int32) (hf : fX12_counts_j86 k40 M24 y25 y26 y27 y28 = some pp) : Z p l e (rmo 4 0 0) s m args below meth c 3 G (MQ below (QC G none K pp) args s 0 0 (AG G)) K 0 0 M24 86 [(0, .ref (G.1 + 90)), (1, .int y25), (2, .int y26)] [.int y28, .int y27, .ref (G.1 + 107)] := by
  unfold fX12_counts_j86 at hf
  refine z_iconst C 0 dX12_counts_86 (by decide) ?_
  refine wX12_counts_j87 C hs0 hL _ pp ?_ M24 y25 y26 y27 y28 0 hf
  · intro M41 y42 y43 hf
    exact hk40 M41 y42 y43  hf
set_option maxHeartbeats 4000000 in
set_option maxRecDepth 100000 in
theorem wX12_counts_l40 (C : CX p s m args meth c cX12_counts 3 none RX12 G) (hs0 : s.heap.size = G.1 + K.1) (hL : Lay K)  (k95 : MM → Int32 → Option MM) (pp : MM) (hk95 : ∀ (M18 : MM) (y19 : Int32), k95 M18 y19 = some pp → Z p l e (rmo 4 0 0) s m args below meth c 3 G (MQ below (QC G none K pp) args s 0 0 (AG G)) K 0 0 M18 95 [(0, .ref (G.1 + 90)), (1, .int y19)] []) : ∀ (n : Nat) (M14 : MM) (y15 : Int32) (y16 : Int32) (hf : fX12_counts_l40 k95 n M14 y15 y16 = some pp), Z p l e (rmo 4 0 0) s m args below meth c 3 G (MQ below (QC G none K pp) args s 0 0 (AG G)) K 0 0 M14 40 [(0, .ref (G.1 + 90)), (1, .int y15), (2, .int y16)] [] := by
  intro n
  induction n with
  | zero => intro M14 y15 y16 hf; exact nomatch (show (none : Option MM) = some pp from hf)
  | succ n ih =>
    intro M14 y15 y16 hf
    rw [fX12_counts_l40.eq_2] at hf
    refine z_iload_n C 2 2 dX12_counts_40 rfl rfl ?_
    refine z_aload_n C 0 0 dX12_counts_41 rfl rfl ?_
    refine z_getI C ok_X12 (lay_c90 hL) 13 (by decide) rfl q_fl_X12_213 dX12_counts_42 ?_
    refine z_icmp_ge C 95 dX12_counts_45 (by decide) (fun c17 => ?_) (fun c17 => ?_)
    · replace hf := ite_t c17 hf
      refine z_lv (lv2 := [(0, .ref (G.1 + 90)), (1, .int y15)]) [0, 1] rfl ?_
      exact hk95 M14 y15  hf
    · replace hf := ite_f c17 hf
      refine z_aload_n C 0 0 dX12_counts_48 rfl rfl ?_
      refine z_getR C ok_X12 (lay_c90 hL) 34 (107) (by decide) rfl (lay_r90_34 hL) q_fl_X12_59 dX12_counts_49 ?_
      refine z_iload_n C 2 2 dX12_counts_52 rfl rfl ?_
      refine z_dup2 C rfl rfl dX12_counts_53 ?_
      replace hf := gd_out hf
      obtain ⟨g20, hf⟩ := hf
      refine z_iald C (lay_c107 hL) (inb_in g20) dX12_counts_54 ?_
      refine z_aload_n C 0 0 dX12_counts_55 rfl rfl ?_
      refine z_iload_n C 1 1 dX12_counts_56 rfl rfl ?_
      replace hf := bd_out hf
      obtain ⟨p21, e22, hf⟩ := hf
      refine z_cV1 C [.int (gI M14 107 (ix y16)), .int y16, .ref (G.1 + 107)] (tX12_isSoup l G hL M14 y15 _ e22) lk_X12_isSoup ok_X12 (lay_c90 hL) q_ml_X12_270 rfl ⟨Nat.le_of_ble_eq_true rfl, Nat.le_of_ble_eq_true rfl⟩ rfl (Nat.le_of_ble_eq_true rfl) ⟨Nat.le_refl _, Nat.le_refl _⟩ dX12_counts_57 ?_
      refine z_if_ne C 86 dX12_counts_60 (by decide) (fun c23 => ?_) (fun c23 => ?_)
      · replace hf := ite_f c23 hf
        refine wX12_counts_j86 C hs0 hL _ pp ?_ M14 y15 y16 y16 (gI M14 107 (ix y16)) hf
        · intro M47 y48 y49 hf
          exact ih M47 y48 y49  hf
      · replace hf := ite_t c23 hf
        refine z_aload_n C 0 0 dX12_counts_63 rfl rfl ?_
        refine z_iload_n C 1 1 dX12_counts_64 rfl rfl ?_
        refine z_iload_n C 2 2 dX12_counts_65 rfl rfl ?_
        replace hf := bd_out hf
        obtain ⟨p50, e51, hf⟩ := hf
        refine z_cV1 C [.int (gI M14 107 (ix y16)), .int y16, .ref (G.1 + 107)] (tX12_isNear l G hL M14 y15 y16 _ e51) lk_X12_isNear ok_X12 (lay_c90 hL) q_ml_X12_273 rfl ⟨Nat.le_of_ble_eq_true rfl, Nat.le_of_ble_eq_true rfl⟩ rfl (Nat.le_of_ble_eq_true rfl) ⟨Nat.le_refl _, Nat.le_refl _⟩ dX12_counts_66 ?_
        refine z_if_eq C 86 dX12_counts_69 (by decide) (fun c52 => ?_) (fun c52 => ?_)
        · replace hf := ite_t c52 hf
          refine wX12_counts_j86 C hs0 hL _ pp ?_ M14 y15 y16 y16 (gI M14 107 (ix y16)) hf
          · intro M53 y54 y55 hf
            exact ih M53 y54 y55  hf
        · replace hf := ite_f c52 hf
          refine z_aload_n C 0 0 dX12_counts_72 rfl rfl ?_
          refine z_getR C ok_X12 (lay_c90 hL) 0 (91) (by decide) rfl (lay_r90_0 hL) q_fl_X12_7 dX12_counts_73 ?_
          refine z_aload_n C 0 0 dX12_counts_76 rfl rfl ?_
          refine z_getI C ok_X12 (lay_c90 hL) 26 (by decide) rfl q_fl_X12_261 dX12_counts_77 ?_
          refine z_iconst C 5 dX12_counts_80 (by decide) ?_
          refine z_iadd C dX12_counts_81 ?_
          replace hf := gd_out hf
          obtain ⟨g56, hf⟩ := hf
          refine z_iald C (lay_c91 hL) (inb_in g56) dX12_counts_82 ?_
          refine z_goto C 87 dX12_counts_83 (by decide) ?_
          refine wX12_counts_j87 C hs0 hL _ pp ?_ M14 y15 y16 y16 (gI M14 107 (ix y16)) (gI M14 91 (ix ((gI M14 90 26) + 5))) hf
          · intro M57 y58 y59 hf
            exact ih M57 y58 y59  hf
set_option maxHeartbeats 4000000 in
set_option maxRecDepth 100000 in
theorem wX12_counts_l16 (C : CX p s m args meth c cX12_counts 3 none RX12 G) (hs0 : s.heap.size = G.1 + K.1) (hL : Lay K)   (pp : MM)  : ∀ (n : Nat) (M5 : MM) (y6 : Int32) (hf : fX12_counts_l16 n M5 y6 = some pp), Z p l e (rmo 4 0 0) s m args below meth c 3 G (MQ below (QC G none K pp) args s 0 0 (AG G)) K 0 0 M5 16 [(0, .ref (G.1 + 90)), (1, .int y6)] [] := by
  intro n
  induction n with
  | zero => intro M5 y6 hf; exact nomatch (show (none : Option MM) = some pp from hf)
  | succ n ih =>
    intro M5 y6 hf
    rw [fX12_counts_l16.eq_2] at hf
    refine z_iload_n C 1 1 dX12_counts_16 rfl rfl ?_
    refine z_aload_n C 0 0 dX12_counts_17 rfl rfl ?_
    refine z_getI C ok_X12 (lay_c90 hL) 14 (by decide) rfl q_fl_X12_216 dX12_counts_18 ?_
    refine z_icmp_ge C 101 dX12_counts_21 (by decide) (fun c7 => ?_) (fun c7 => ?_)
    · replace hf := ite_t c7 hf
      cases hf
      exact z_vret C rfl dX12_counts_101
    · replace hf := ite_f c7 hf
      refine z_aload_n C 0 0 dX12_counts_24 rfl rfl ?_
      refine z_getR C ok_X12 (lay_c90 hL) 35 (108) (by decide) rfl (lay_r90_35 hL) q_fl_X12_62 dX12_counts_25 ?_
      refine z_iload_n C 1 1 dX12_counts_28 rfl rfl ?_
      refine z_dup2 C rfl rfl dX12_counts_29 ?_
      replace hf := gd_out hf
      obtain ⟨g8, hf⟩ := hf
      refine z_iald C (lay_c108 hL) (inb_in g8) dX12_counts_30 ?_
      refine z_aload_n C 0 0 dX12_counts_31 rfl rfl ?_
      refine z_iload_n C 1 1 dX12_counts_32 rfl rfl ?_
      replace hf := bd_out hf
      obtain ⟨p9, e10, hf⟩ := hf
      refine z_cV1 C [.int (gI M5 108 (ix y6)), .int y6, .ref (G.1 + 108)] (tX12_countOf l G hL M5 y6 _ e10) lk_X12_countOf ok_X12 (lay_c90 hL) q_ml_X12_276 rfl ⟨Nat.le_of_ble_eq_true rfl, Nat.le_of_ble_eq_true rfl⟩ rfl (Nat.le_of_ble_eq_true rfl) ⟨Nat.le_refl _, Nat.le_refl _⟩ dX12_counts_33 ?_
      refine z_iadd C dX12_counts_36 ?_
      replace hf := gd_out hf
      obtain ⟨g11, hf⟩ := hf
      refine z_iast C (lay_c108 hL) (inb_in g11) dX12_counts_37 ?_
      refine z_M (fun M12 e13 => ?_)
      replace hf := bnd_out e13 hf
      refine z_iconst C 0 dX12_counts_38 (by decide) ?_
      refine z_istore_n C [(2, .int 0), (0, .ref (G.1 + 90)), (1, .int y6)] dX12_counts_39 rfl (by decide) rfl rfl ?_
      refine z_lv (lv2 := [(0, .ref (G.1 + 90)), (1, .int y6), (2, .int 0)]) [1, 2, 0] rfl ?_
      refine wX12_counts_l40 C hs0 hL _ pp ?_ FU M12 y6 0 hf
      · intro M60 y61 hf
        refine z_iinc C 1 (y61 + 1) [(1, .int (y61 + 1)), (0, .ref (G.1 + 90))] dX12_counts_95 rfl rfl (by decide) rfl rfl ?_
        refine z_goto C 16 dX12_counts_98 (by decide) ?_
        refine z_lv (lv2 := [(0, .ref (G.1 + 90)), (1, .int (y61 + 1))]) [1, 0] rfl ?_
        exact ih M60 (y61 + 1)  hf
set_option maxHeartbeats 4000000 in
set_option maxRecDepth 100000 in
theorem tX12_counts (l : Launch) (G : GG) {K : SK} (hL : Lay K) (M : MM)  (pp : MM) (hf : fX12_counts M = some pp) : Ct l yX12_counts cX12_counts 3 none 4 0 0 G K M [.ref (G.1 + 90)] none K pp := by
  refine z_enter (lv := [(0, .ref (G.1 + 90))]) (by decide +kernel) (Nat.le_of_ble_eq_true rfl) rfl ?_
  intro p e s m args below meth c C hnm hs0
  replace C : CX p s m args meth c cX12_counts 3 none RX12 G := C
  unfold fX12_counts at hf
  refine z_aload_n C 0 0 dX12_counts_0 rfl rfl ?_
  replace hf := bd_out hf
  obtain ⟨p1, e2, hf⟩ := hf
  refine z_cV0 C [] (tX12_laysOut l G hL M  _ e2) lk_X12_laysOut ok_X12 (lay_c90 hL) q_ml_X12_258 rfl ⟨Nat.le_of_ble_eq_true rfl, Nat.le_of_ble_eq_true rfl⟩ rfl (Nat.le_of_ble_eq_true rfl) ⟨Nat.le_refl _, Nat.le_refl _⟩ dX12_counts_1 ?_
  refine z_aload_n C 0 0 dX12_counts_4 rfl rfl ?_
  refine z_dup C rfl dX12_counts_5 ?_
  refine z_getI C ok_X12 (lay_c90 hL) 33 (by decide) rfl q_fl_X12_306 dX12_counts_6 ?_
  refine z_iconst C 1 dX12_counts_9 (by decide) ?_
  refine z_iadd C dX12_counts_10 ?_
  refine z_putI C ok_X12 (lay_c90 hL) 33 (by decide) rfl rfl rfl rfl q_fl_X12_306 dX12_counts_11 ?_
  refine z_M (fun M3 e4 => ?_)
  replace hf := bnd_out e4 hf
  refine z_iconst C 0 dX12_counts_14 (by decide) ?_
  refine z_istore_n C [(1, .int 0), (0, .ref (G.1 + 90))] dX12_counts_15 rfl (by decide) rfl rfl ?_
  refine z_lv (lv2 := [(0, .ref (G.1 + 90)), (1, .int 0)]) [1, 0] rfl ?_
  exact wX12_counts_l16 C hs0 hL pp FU M3 0 hf
set_option maxHeartbeats 4000000 in
set_option maxRecDepth 100000 in
theorem tX12_does (l : Launch) (G : GG) {K : SK} (hL : Lay K) (M : MM) (x1 : Int32) (x2 : Int32) (x3 : Int32) (pp : MM) (hf : fX12_does M x1 x2 x3 = some pp) : Ct l yX12_does cX12_does 4 none 5 0 0 G K M [.ref (G.1 + 90), .int x1, .int x2, .int x3] none K pp := by
  refine z_enter (lv := [(0, .ref (G.1 + 90)), (1, .int x1), (2, .int x2), (3, .int x3)]) (by decide +kernel) (Nat.le_of_ble_eq_true rfl) rfl ?_
  intro p e s m args below meth c C hnm hs0
  replace C : CX p s m args meth c cX12_does 4 none RX12 G := C
  unfold fX12_does at hf
  refine z_iload_n C 1 1 dX12_does_0 rfl rfl ?_
  by_cases c1 : x1 = 0
  · replace hf := ite_t c1 hf
    refine z_tableIn C 32 dX12_does_1 (by rw [c1]; decide) (by rw [c1]; decide) (by rw [c1]; rfl) (by decide) ?_
    refine z_aload_n C 0 0 dX12_does_32 rfl rfl ?_
    refine z_getR C ok_X12 (lay_c90 hL) 15 (94) (by decide) rfl (lay_r90_15 hL) q_fl_X12_20 dX12_does_33 ?_
    refine z_iload_n C 2 2 dX12_does_36 rfl rfl ?_
    refine z_aload_n C 0 0 dX12_does_37 rfl rfl ?_
    refine z_aload_n C 0 0 dX12_does_38 rfl rfl ?_
    refine z_getR C ok_X12 (lay_c90 hL) 15 (94) (by decide) rfl (lay_r90_15 hL) q_fl_X12_20 dX12_does_39 ?_
    refine z_iload_n C 2 2 dX12_does_42 rfl rfl ?_
    replace hf := gd_out hf
    obtain ⟨g2, hf⟩ := hf
    refine z_iald C (lay_c94 hL) (inb_in g2) dX12_does_43 ?_
    refine z_iload_n C 3 3 dX12_does_44 rfl rfl ?_
    replace hf := bd_out hf
    obtain ⟨p3, e4, hf⟩ := hf
    refine z_cV1 C [.int x2, .ref (G.1 + 94)] (tX12_beside l G hL M (gI M 94 (ix x2)) x3 _ e4) lk_X12_beside ok_X12 (lay_c90 hL) q_ml_X12_249 rfl ⟨Nat.le_of_ble_eq_true rfl, Nat.le_of_ble_eq_true rfl⟩ rfl (Nat.le_of_ble_eq_true rfl) ⟨Nat.le_refl _, Nat.le_refl _⟩ dX12_does_45 ?_
    replace hf := gd_out hf
    obtain ⟨g5, hf⟩ := hf
    refine z_iast C (lay_c94 hL) (inb_in g5) dX12_does_48 ?_
    refine z_M (fun M6 e7 => ?_)
    replace hf := bnd_out e7 hf
    refine z_goto C 86 dX12_does_49 (by decide) ?_
    cases hf
    exact z_vret C rfl dX12_does_86
  · replace hf := ite_f c1 hf
    by_cases c8 : x1 = 1
    · replace hf := ite_t c8 hf
      refine z_tableIn C 52 dX12_does_1 (by rw [c8]; decide) (by rw [c8]; decide) (by rw [c8]; rfl) (by decide) ?_
      refine z_aload_n C 0 0 dX12_does_52 rfl rfl ?_
      refine z_getR C ok_X12 (lay_c90 hL) 19 (98) (by decide) rfl (lay_r90_19 hL) q_fl_X12_32 dX12_does_53 ?_
      refine z_iload_n C 2 2 dX12_does_56 rfl rfl ?_
      refine z_iload_n C 3 3 dX12_does_57 rfl rfl ?_
      replace hf := gd_out hf
      obtain ⟨g9, hf⟩ := hf
      refine z_iast C (lay_c98 hL) (inb_in g9) dX12_does_58 ?_
      refine z_M (fun M10 e11 => ?_)
      replace hf := bnd_out e11 hf
      refine z_goto C 86 dX12_does_59 (by decide) ?_
      cases hf
      exact z_vret C rfl dX12_does_86
    · replace hf := ite_f c8 hf
      by_cases c12 : x1 = 2
      · replace hf := ite_t c12 hf
        refine z_tableIn C 62 dX12_does_1 (by rw [c12]; decide) (by rw [c12]; decide) (by rw [c12]; rfl) (by decide) ?_
        refine z_aload_n C 0 0 dX12_does_62 rfl rfl ?_
        refine z_getR C ok_X12 (lay_c90 hL) 22 (101) (by decide) rfl (lay_r90_22 hL) q_fl_X12_41 dX12_does_63 ?_
        refine z_iload_n C 2 2 dX12_does_66 rfl rfl ?_
        refine z_iconst C 1 dX12_does_67 (by decide) ?_
        replace hf := gd_out hf
        obtain ⟨g13, hf⟩ := hf
        refine z_zast C (lay_c101 hL) (inb_in g13) dX12_does_68 ?_
        refine z_M (fun M14 e15 => ?_)
        replace hf := bnd_out e15 hf
        refine z_goto C 86 dX12_does_69 (by decide) ?_
        cases hf
        exact z_vret C rfl dX12_does_86
      · replace hf := ite_f c12 hf
        by_cases c16 : x1 = 3
        · replace hf := ite_t c16 hf
          refine z_tableIn C 72 dX12_does_1 (by rw [c16]; decide) (by rw [c16]; decide) (by rw [c16]; rfl) (by decide) ?_
          refine z_aload_n C 0 0 dX12_does_72 rfl rfl ?_
          refine z_getR C ok_X12 (lay_c90 hL) 22 (101) (by decide) rfl (lay_r90_22 hL) q_fl_X12_41 dX12_does_73 ?_
          refine z_iload_n C 2 2 dX12_does_76 rfl rfl ?_
          refine z_iconst C 0 dX12_does_77 (by decide) ?_
          replace hf := gd_out hf
          obtain ⟨g17, hf⟩ := hf
          refine z_zast C (lay_c101 hL) (inb_in g17) dX12_does_78 ?_
          refine z_M (fun M18 e19 => ?_)
          replace hf := bnd_out e19 hf
          refine z_goto C 86 dX12_does_79 (by decide) ?_
          cases hf
          exact z_vret C rfl dX12_does_86
        · replace hf := ite_f c16 hf
          have ic1 : (x1).toInt ≠ 0 := fun q => c1 (Int32.toInt_inj.mp (q.trans (by decide)))
          have ic8 : (x1).toInt ≠ 1 := fun q => c8 (Int32.toInt_inj.mp (q.trans (by decide)))
          have ic12 : (x1).toInt ≠ 2 := fun q => c12 (Int32.toInt_inj.mp (q.trans (by decide)))
          have ic16 : (x1).toInt ≠ 3 := fun q => c16 (Int32.toInt_inj.mp (q.trans (by decide)))
          refine z_tableOut C 82 dX12_does_1 (by omega) (by decide) ?_
          refine z_aload_n C 0 0 dX12_does_82 rfl rfl ?_
          replace hf := bd_out hf
          obtain ⟨p20, e21, hf⟩ := hf
          refine z_cV0 C [] (tX12_counts l G hL M  _ e21) lk_X12_counts ok_X12 (lay_c90 hL) q_ml_X12_309 rfl ⟨Nat.le_of_ble_eq_true rfl, Nat.le_of_ble_eq_true rfl⟩ rfl (Nat.le_of_ble_eq_true rfl) ⟨Nat.le_refl _, Nat.le_refl _⟩ dX12_does_83 ?_
          cases hf
          exact z_vret C rfl dX12_does_86
set_option maxHeartbeats 4000000 in
set_option maxRecDepth 100000 in
theorem wX12_runs_l4 (C : CX p s m args meth c cX12_runs 2 none RX12 G) (hs0 : s.heap.size = G.1 + K.1) (hL : Lay K)   (pp : MM)  : ∀ (n : Nat) (M3 : MM) (y4 : Int32) (hf : fX12_runs_l4 n M3 y4 = some pp), Z p l e (rmo 6 0 0) s m args below meth c 2 G (MQ below (QC G none K pp) args s 0 0 (AG G)) K 0 0 M3 4 [(0, .ref (G.1 + 90)), (1, .int y4)] [] := by
  intro n
  induction n with
  | zero => intro M3 y4 hf; exact nomatch (show (none : Option MM) = some pp from hf)
  | succ n ih =>
    intro M3 y4 hf
    rw [fX12_runs_l4.eq_2] at hf
    refine z_aload_n C 0 0 dX12_runs_4 rfl rfl ?_
    refine z_getI C ok_X12 (lay_c90 hL) 32 (by decide) rfl q_fl_X12_303 dX12_runs_5 ?_
    refine z_iload_n C 1 1 dX12_runs_8 rfl rfl ?_
    refine z_icmp_ge C 106 dX12_runs_9 (by decide) (fun c5 => ?_) (fun c5 => ?_)
    · replace hf := ite_t c5 hf
      cases hf
      exact z_vret C rfl dX12_runs_106
    · replace hf := ite_f c5 hf
      refine z_aload_n C 0 0 dX12_runs_12 rfl rfl ?_
      refine z_getI C ok_X12 (lay_c90 hL) 32 (by decide) rfl q_fl_X12_303 dX12_runs_13 ?_
      refine z_aload_n C 0 0 dX12_runs_16 rfl rfl ?_
      refine z_getR C ok_X12 (lay_c90 hL) 0 (91) (by decide) rfl (lay_r90_0 hL) q_fl_X12_7 dX12_runs_17 ?_
      refine z_aload_n C 0 0 dX12_runs_20 rfl rfl ?_
      refine z_getI C ok_X12 (lay_c90 hL) 31 (by decide) rfl q_fl_X12_294 dX12_runs_21 ?_
      replace hf := gd_out hf
      obtain ⟨g6, hf⟩ := hf
      refine z_iald C (lay_c91 hL) (inb_in g6) dX12_runs_24 ?_
      refine z_icmp_ge C 106 dX12_runs_25 (by decide) (fun c7 => ?_) (fun c7 => ?_)
      · replace hf := ite_t c7 hf
        cases hf
        exact z_vret C rfl dX12_runs_106
      · replace hf := ite_f c7 hf
        refine z_aload_n C 0 0 dX12_runs_28 rfl rfl ?_
        refine z_aload_n C 0 0 dX12_runs_29 rfl rfl ?_
        refine z_aload_n C 0 0 dX12_runs_30 rfl rfl ?_
        refine z_getI C ok_X12 (lay_c90 hL) 32 (by decide) rfl q_fl_X12_303 dX12_runs_31 ?_
        refine z_iconst C 0 dX12_runs_34 (by decide) ?_
        replace hf := bd_out hf
        obtain ⟨p8, e9, hf⟩ := hf
        refine z_cV1 C [.ref (G.1 + 90)] (tX12_deedOf l G hL M3 (gI M3 90 32) 0 _ e9) lk_X12_deedOf ok_X12 (lay_c90 hL) q_ml_X12_300 rfl ⟨Nat.le_of_ble_eq_true rfl, Nat.le_of_ble_eq_true rfl⟩ rfl (Nat.le_of_ble_eq_true rfl) ⟨Nat.le_refl _, Nat.le_refl _⟩ dX12_runs_35 ?_
        refine z_aload_n C 0 0 dX12_runs_38 rfl rfl ?_
        refine z_aload_n C 0 0 dX12_runs_39 rfl rfl ?_
        refine z_getI C ok_X12 (lay_c90 hL) 32 (by decide) rfl q_fl_X12_303 dX12_runs_40 ?_
        refine z_iconst C 1 dX12_runs_43 (by decide) ?_
        replace hf := bd_out hf
        obtain ⟨p10, e11, hf⟩ := hf
        refine z_cV1 C [.int p8, .ref (G.1 + 90)] (tX12_deedOf l G hL M3 (gI M3 90 32) 1 _ e11) lk_X12_deedOf ok_X12 (lay_c90 hL) q_ml_X12_300 rfl ⟨Nat.le_of_ble_eq_true rfl, Nat.le_of_ble_eq_true rfl⟩ rfl (Nat.le_of_ble_eq_true rfl) ⟨Nat.le_refl _, Nat.le_refl _⟩ dX12_runs_44 ?_
        refine z_aload_n C 0 0 dX12_runs_47 rfl rfl ?_
        refine z_aload_n C 0 0 dX12_runs_48 rfl rfl ?_
        refine z_getI C ok_X12 (lay_c90 hL) 32 (by decide) rfl q_fl_X12_303 dX12_runs_49 ?_
        refine z_iconst C 2 dX12_runs_52 (by decide) ?_
        replace hf := bd_out hf
        obtain ⟨p12, e13, hf⟩ := hf
        refine z_cV1 C [.int p10, .int p8, .ref (G.1 + 90)] (tX12_deedOf l G hL M3 (gI M3 90 32) 2 _ e13) lk_X12_deedOf ok_X12 (lay_c90 hL) q_ml_X12_300 rfl ⟨Nat.le_of_ble_eq_true rfl, Nat.le_of_ble_eq_true rfl⟩ rfl (Nat.le_of_ble_eq_true rfl) ⟨Nat.le_refl _, Nat.le_refl _⟩ dX12_runs_53 ?_
        replace hf := bd_out hf
        obtain ⟨p14, e15, hf⟩ := hf
        refine z_cV1 C [] (tX12_can l G hL M3 p8 p10 p12 _ e15) lk_X12_can ok_X12 (lay_c90 hL) q_ml_X12_315 rfl ⟨Nat.le_of_ble_eq_true rfl, Nat.le_of_ble_eq_true rfl⟩ rfl (Nat.le_of_ble_eq_true rfl) ⟨Nat.le_refl _, Nat.le_refl _⟩ dX12_runs_56 ?_
        refine z_if_eq C 106 dX12_runs_59 (by decide) (fun c16 => ?_) (fun c16 => ?_)
        · replace hf := ite_t c16 hf
          cases hf
          exact z_vret C rfl dX12_runs_106
        · replace hf := ite_f c16 hf
          refine z_aload_n C 0 0 dX12_runs_62 rfl rfl ?_
          refine z_aload_n C 0 0 dX12_runs_63 rfl rfl ?_
          refine z_aload_n C 0 0 dX12_runs_64 rfl rfl ?_
          refine z_getI C ok_X12 (lay_c90 hL) 32 (by decide) rfl q_fl_X12_303 dX12_runs_65 ?_
          refine z_iconst C 0 dX12_runs_68 (by decide) ?_
          replace hf := bd_out hf
          obtain ⟨p17, e18, hf⟩ := hf
          refine z_cV1 C [.ref (G.1 + 90)] (tX12_deedOf l G hL M3 (gI M3 90 32) 0 _ e18) lk_X12_deedOf ok_X12 (lay_c90 hL) q_ml_X12_300 rfl ⟨Nat.le_of_ble_eq_true rfl, Nat.le_of_ble_eq_true rfl⟩ rfl (Nat.le_of_ble_eq_true rfl) ⟨Nat.le_refl _, Nat.le_refl _⟩ dX12_runs_69 ?_
          refine z_aload_n C 0 0 dX12_runs_72 rfl rfl ?_
          refine z_aload_n C 0 0 dX12_runs_73 rfl rfl ?_
          refine z_getI C ok_X12 (lay_c90 hL) 32 (by decide) rfl q_fl_X12_303 dX12_runs_74 ?_
          refine z_iconst C 1 dX12_runs_77 (by decide) ?_
          replace hf := bd_out hf
          obtain ⟨p19, e20, hf⟩ := hf
          refine z_cV1 C [.int p17, .ref (G.1 + 90)] (tX12_deedOf l G hL M3 (gI M3 90 32) 1 _ e20) lk_X12_deedOf ok_X12 (lay_c90 hL) q_ml_X12_300 rfl ⟨Nat.le_of_ble_eq_true rfl, Nat.le_of_ble_eq_true rfl⟩ rfl (Nat.le_of_ble_eq_true rfl) ⟨Nat.le_refl _, Nat.le_refl _⟩ dX12_runs_78 ?_
          refine z_aload_n C 0 0 dX12_runs_81 rfl rfl ?_
          refine z_aload_n C 0 0 dX12_runs_82 rfl rfl ?_
          refine z_getI C ok_X12 (lay_c90 hL) 32 (by decide) rfl q_fl_X12_303 dX12_runs_83 ?_
          refine z_iconst C 2 dX12_runs_86 (by decide) ?_
          replace hf := bd_out hf
          obtain ⟨p21, e22, hf⟩ := hf
          refine z_cV1 C [.int p19, .int p17, .ref (G.1 + 90)] (tX12_deedOf l G hL M3 (gI M3 90 32) 2 _ e22) lk_X12_deedOf ok_X12 (lay_c90 hL) q_ml_X12_300 rfl ⟨Nat.le_of_ble_eq_true rfl, Nat.le_of_ble_eq_true rfl⟩ rfl (Nat.le_of_ble_eq_true rfl) ⟨Nat.le_refl _, Nat.le_refl _⟩ dX12_runs_87 ?_
          replace hf := bd_out hf
          obtain ⟨p23, e24, hf⟩ := hf
          refine z_cV0 C [] (tX12_does l G hL M3 p17 p19 p21 _ e24) lk_X12_does ok_X12 (lay_c90 hL) q_ml_X12_318 rfl ⟨Nat.le_of_ble_eq_true rfl, Nat.le_of_ble_eq_true rfl⟩ rfl (Nat.le_of_ble_eq_true rfl) ⟨Nat.le_refl _, Nat.le_refl _⟩ dX12_runs_90 ?_
          refine z_aload_n C 0 0 dX12_runs_93 rfl rfl ?_
          refine z_dup C rfl dX12_runs_94 ?_
          refine z_getI C ok_X12 (lay_c90 hL) 32 (by decide) rfl q_fl_X12_303 dX12_runs_95 ?_
          refine z_iconst C 1 dX12_runs_98 (by decide) ?_
          refine z_iadd C dX12_runs_99 ?_
          refine z_putI C ok_X12 (lay_c90 hL) 32 (by decide) rfl rfl rfl rfl q_fl_X12_303 dX12_runs_100 ?_
          refine z_M (fun M25 e26 => ?_)
          replace hf := bnd_out e26 hf
          refine z_goto C 4 dX12_runs_103 (by decide) ?_
          exact ih M25 y4  hf
set_option maxHeartbeats 4000000 in
set_option maxRecDepth 100000 in
theorem tX12_runs (l : Launch) (G : GG) {K : SK} (hL : Lay K) (M : MM) (x1 : Int32) (pp : MM) (hf : fX12_runs M x1 = some pp) : Ct l yX12_runs cX12_runs 2 none 6 0 0 G K M [.ref (G.1 + 90), .int x1] none K pp := by
  refine z_enter (lv := [(0, .ref (G.1 + 90)), (1, .int x1)]) (by decide +kernel) (Nat.le_of_ble_eq_true rfl) rfl ?_
  intro p e s m args below meth c C hnm hs0
  replace C : CX p s m args meth c cX12_runs 2 none RX12 G := C
  unfold fX12_runs at hf
  refine z_aload_n C 0 0 dX12_runs_0 rfl rfl ?_
  replace hf := bd_out hf
  obtain ⟨p1, e2, hf⟩ := hf
  refine z_cV0 C [] (tX12_begins l G hL M  _ e2) lk_X12_begins ok_X12 (lay_c90 hL) q_ml_X12_312 rfl ⟨Nat.le_of_ble_eq_true rfl, Nat.le_of_ble_eq_true rfl⟩ rfl (Nat.le_of_ble_eq_true rfl) ⟨Nat.le_refl _, Nat.le_refl _⟩ dX12_runs_1 ?_
  exact wX12_runs_l4 C hs0 hL pp FU p1 x1 hf
set_option maxHeartbeats 4000000 in
set_option maxRecDepth 100000 in
theorem tX12_stop (l : Launch) (G : GG) {K : SK} (hL : Lay K) (M : MM) (x1 : Int32) (x2 : Int32) (x3 : Int32) (pp : (Int32 × MM)) (hf : fX12_stop M x1 x2 x3 = some pp) : Ct l yX12_stop cX12_stop 4 (some .int) 7 0 0 G K M [.ref (G.1 + 90), .int x1, .int x2, .int x3] (some (.int pp.1)) K pp.2 := by
  refine z_enter (lv := [(0, .ref (G.1 + 90)), (1, .int x1), (2, .int x2), (3, .int x3)]) (by decide +kernel) (Nat.le_of_ble_eq_true rfl) rfl ?_
  intro p e s m args below meth c C hnm hs0
  replace C : CX p s m args meth c cX12_stop 4 (some .int) RX12 G := C
  unfold fX12_stop at hf
  refine z_aload_n C 0 0 dX12_stop_0 rfl rfl ?_
  refine z_iload_n C 1 1 dX12_stop_1 rfl rfl ?_
  refine z_iload_n C 2 2 dX12_stop_2 rfl rfl ?_
  replace hf := bd_out hf
  obtain ⟨p1, e2, hf⟩ := hf
  refine z_cV1 C [] (tX12_areTold l G hL M x1 x2 _ e2) lk_X12_areTold ok_X12 (lay_c90 hL) q_ml_X12_279 rfl ⟨Nat.le_of_ble_eq_true rfl, Nat.le_of_ble_eq_true rfl⟩ rfl (Nat.le_of_ble_eq_true rfl) ⟨Nat.le_refl _, Nat.le_refl _⟩ dX12_stop_3 ?_
  refine z_if_eq C 17 dX12_stop_6 (by decide) (fun c3 => ?_) (fun c3 => ?_)
  · replace hf := ite_t c3 hf
    refine z_iconst C (-1) dX12_stop_17 (by decide) ?_
    cases hf
    exact z_iret C rfl dX12_stop_18
  · replace hf := ite_f c3 hf
    refine z_aload_n C 0 0 dX12_stop_9 rfl rfl ?_
    refine z_iload_n C 3 3 dX12_stop_10 rfl rfl ?_
    replace hf := bd_out hf
    obtain ⟨p4, e5, hf⟩ := hf
    refine z_cV1 C [] (tX12_isEvening l G hL p1.2 x3 _ e5) lk_X12_isEvening ok_X12 (lay_c90 hL) q_ml_X12_297 rfl ⟨Nat.le_of_ble_eq_true rfl, Nat.le_of_ble_eq_true rfl⟩ rfl (Nat.le_of_ble_eq_true rfl) ⟨Nat.le_refl _, Nat.le_refl _⟩ dX12_stop_11 ?_
    refine z_if_ne C 19 dX12_stop_14 (by decide) (fun c6 => ?_) (fun c6 => ?_)
    · replace hf := ite_f c6 hf
      refine z_aload_n C 0 0 dX12_stop_19 rfl rfl ?_
      refine z_bipush C 40 dX12_stop_20 (by decide) ?_
      replace hf := bd_out hf
      obtain ⟨p7, e8, hf⟩ := hf
      refine z_cV0 C [] (tX12_runs l G hL p4.2 40 _ e8) lk_X12_runs ok_X12 (lay_c90 hL) q_ml_X12_322 rfl ⟨Nat.le_of_ble_eq_true rfl, Nat.le_of_ble_eq_true rfl⟩ rfl (Nat.le_of_ble_eq_true rfl) ⟨Nat.le_refl _, Nat.le_refl _⟩ dX12_stop_22 ?_
      refine z_aload_n C 0 0 dX12_stop_25 rfl rfl ?_
      refine z_getI C ok_X12 (lay_c90 hL) 32 (by decide) rfl q_fl_X12_303 dX12_stop_26 ?_
      cases hf
      exact z_iret C rfl dX12_stop_29
    · replace hf := ite_t c6 hf
      refine z_iconst C (-1) dX12_stop_17 (by decide) ?_
      cases hf
      exact z_iret C rfl dX12_stop_18
set_option maxHeartbeats 4000000 in
set_option maxRecDepth 100000 in
theorem tX12_nowOf (l : Launch) (G : GG) {K : SK} (hL : Lay K) (M : MM) (x1 : Int32) (pp : (Int32 × MM)) (hf : fX12_nowOf M x1 = some pp) : Ct l yX12_nowOf cX12_nowOf 3 (some .int) 5 0 0 G K M [.ref (G.1 + 90), .int x1] (some (.int pp.1)) K pp.2 := by
  refine z_enter (lv := [(0, .ref (G.1 + 90)), (1, .int x1)]) (by decide +kernel) (Nat.le_of_ble_eq_true rfl) rfl ?_
  intro p e s m args below meth c C hnm hs0
  replace C : CX p s m args meth c cX12_nowOf 3 (some .int) RX12 G := C
  unfold fX12_nowOf at hf
  refine z_iload_n C 1 1 dX12_nowOf_0 rfl rfl ?_
  refine z_bipush C 10 dX12_nowOf_1 (by decide) ?_
  refine z_irem C (by decide) dX12_nowOf_3 ?_
  refine z_topi (fun v1 e2 => ?_)
  replace hf := bnd_out e2 hf
  refine z_istore_n C [(2, .int v1), (0, .ref (G.1 + 90)), (1, .int x1)] dX12_nowOf_4 rfl (by decide) rfl rfl ?_
  refine z_iload_n C 2 1 dX12_nowOf_5 rfl rfl ?_
  refine z_bipush C 10 dX12_nowOf_6 (by decide) ?_
  refine z_bipush C 29 dX12_nowOf_8 (by decide) ?_
  refine z_cS1 C [] (tX12_isIn l G hL M x1 10 29) lk_X12_isIn q_ml_X12_141 rfl ⟨Nat.le_of_ble_eq_true rfl, Nat.le_of_ble_eq_true rfl⟩ rfl (Nat.le_of_ble_eq_true rfl) ⟨Nat.le_refl _, Nat.le_refl _⟩ dX12_nowOf_10 ?_
  refine z_if_eq C 55 dX12_nowOf_13 (by decide) (fun c3 => ?_) (fun c3 => ?_)
  · replace hf := ite_t c3 hf
    refine z_iload_n C 2 1 dX12_nowOf_55 rfl rfl ?_
    refine z_bipush C 10 dX12_nowOf_56 (by decide) ?_
    refine z_icmp_ge C 87 dX12_nowOf_58 (by decide) (fun c4 => ?_) (fun c4 => ?_)
    · replace hf := ite_t c4 hf
      refine z_iload_n C 2 1 dX12_nowOf_87 rfl rfl ?_
      refine z_bipush C 30 dX12_nowOf_88 (by decide) ?_
      refine z_bipush C 69 dX12_nowOf_90 (by decide) ?_
      refine z_cS1 C [] (tX12_isIn l G hL M x1 30 69) lk_X12_isIn q_ml_X12_141 rfl ⟨Nat.le_of_ble_eq_true rfl, Nat.le_of_ble_eq_true rfl⟩ rfl (Nat.le_of_ble_eq_true rfl) ⟨Nat.le_refl _, Nat.le_refl _⟩ dX12_nowOf_92 ?_
      refine z_if_eq C 106 dX12_nowOf_95 (by decide) (fun c5 => ?_) (fun c5 => ?_)
      · replace hf := ite_t c5 hf
        refine z_bipush C (-2) dX12_nowOf_106 (by decide) ?_
        cases hf
        exact z_iret C rfl dX12_nowOf_108
      · replace hf := ite_f c5 hf
        refine z_aload_n C 1 0 dX12_nowOf_98 rfl rfl ?_
        refine z_iload_n C 0 2 dX12_nowOf_99 rfl rfl ?_
        replace hf := bd_out hf
        obtain ⟨p6, e7, hf⟩ := hf
        refine z_cV1 C [] (tX12_isShine l G hL M v1 _ e7) lk_X12_isShine ok_X12 (lay_c90 hL) q_ml_X12_234 rfl ⟨Nat.le_of_ble_eq_true rfl, Nat.le_of_ble_eq_true rfl⟩ rfl (Nat.le_of_ble_eq_true rfl) ⟨Nat.le_refl _, Nat.le_refl _⟩ dX12_nowOf_100 ?_
        refine z_if_ne C 109 dX12_nowOf_103 (by decide) (fun c8 => ?_) (fun c8 => ?_)
        · replace hf := ite_f c8 hf
          refine z_aload_n C 1 0 dX12_nowOf_109 rfl rfl ?_
          replace hf := bd_out hf
          obtain ⟨p9, e10, hf⟩ := hf
          refine z_cV0 C [] (tX12_laysOut l G hL M  _ e10) lk_X12_laysOut ok_X12 (lay_c90 hL) q_ml_X12_258 rfl ⟨Nat.le_of_ble_eq_true rfl, Nat.le_of_ble_eq_true rfl⟩ rfl (Nat.le_of_ble_eq_true rfl) ⟨Nat.le_refl _, Nat.le_refl _⟩ dX12_nowOf_110 ?_
          refine z_iload_n C 2 1 dX12_nowOf_113 rfl rfl ?_
          refine z_bipush C 40 dX12_nowOf_114 (by decide) ?_
          refine z_icmp_ge C 128 dX12_nowOf_116 (by decide) (fun c11 => ?_) (fun c11 => ?_)
          · replace hf := ite_t c11 hf
            refine z_iload_n C 2 1 dX12_nowOf_128 rfl rfl ?_
            refine z_bipush C 50 dX12_nowOf_129 (by decide) ?_
            refine z_icmp_ge C 143 dX12_nowOf_131 (by decide) (fun c12 => ?_) (fun c12 => ?_)
            · replace hf := ite_t c12 hf
              refine z_iload_n C 2 1 dX12_nowOf_143 rfl rfl ?_
              refine z_bipush C 60 dX12_nowOf_144 (by decide) ?_
              refine z_icmp_ge C 166 dX12_nowOf_146 (by decide) (fun c13 => ?_) (fun c13 => ?_)
              · replace hf := ite_t c13 hf
                refine z_aload_n C 1 0 dX12_nowOf_166 rfl rfl ?_
                refine z_iload_n C 0 2 dX12_nowOf_167 rfl rfl ?_
                replace hf := bd_out hf
                obtain ⟨p14, e15, hf⟩ := hf
                refine z_cV1 C [] (tX12_countOf l G hL p9 v1 _ e15) lk_X12_countOf ok_X12 (lay_c90 hL) q_ml_X12_276 rfl ⟨Nat.le_of_ble_eq_true rfl, Nat.le_of_ble_eq_true rfl⟩ rfl (Nat.le_of_ble_eq_true rfl) ⟨Nat.le_refl _, Nat.le_refl _⟩ dX12_nowOf_168 ?_
                cases hf
                exact z_iret C rfl dX12_nowOf_171
              · replace hf := ite_f c13 hf
                refine z_aload_n C 1 0 dX12_nowOf_149 rfl rfl ?_
                refine z_getR C ok_X12 (lay_c90 hL) 22 (101) (by decide) rfl (lay_r90_22 hL) q_fl_X12_41 dX12_nowOf_150 ?_
                refine z_iload_n C 0 2 dX12_nowOf_153 rfl rfl ?_
                replace hf := gd_out hf
                obtain ⟨g16, hf⟩ := hf
                refine z_zald C (lay_c101 hL) (inb_in g16) dX12_nowOf_154 ?_
                refine z_if_eq C 162 dX12_nowOf_155 (by decide) (fun c17 => ?_) (fun c17 => ?_)
                · replace hf := ite_t c17 hf
                  refine z_iconst C 0 dX12_nowOf_162 (by decide) ?_
                  refine z_goto C 171 dX12_nowOf_163 (by decide) ?_
                  cases hf
                  exact z_iret C rfl dX12_nowOf_171
                · replace hf := ite_f c17 hf
                  refine z_iconst C 1 dX12_nowOf_158 (by decide) ?_
                  refine z_goto C 171 dX12_nowOf_159 (by decide) ?_
                  cases hf
                  exact z_iret C rfl dX12_nowOf_171
            · replace hf := ite_f c12 hf
              refine z_aload_n C 1 0 dX12_nowOf_134 rfl rfl ?_
              refine z_getR C ok_X12 (lay_c90 hL) 35 (108) (by decide) rfl (lay_r90_35 hL) q_fl_X12_62 dX12_nowOf_135 ?_
              refine z_iload_n C 0 2 dX12_nowOf_138 rfl rfl ?_
              replace hf := gd_out hf
              obtain ⟨g18, hf⟩ := hf
              refine z_iald C (lay_c108 hL) (inb_in g18) dX12_nowOf_139 ?_
              refine z_goto C 171 dX12_nowOf_140 (by decide) ?_
              cases hf
              exact z_iret C rfl dX12_nowOf_171
          · replace hf := ite_f c11 hf
            refine z_aload_n C 1 0 dX12_nowOf_119 rfl rfl ?_
            refine z_getR C ok_X12 (lay_c90 hL) 19 (98) (by decide) rfl (lay_r90_19 hL) q_fl_X12_32 dX12_nowOf_120 ?_
            refine z_iload_n C 0 2 dX12_nowOf_123 rfl rfl ?_
            replace hf := gd_out hf
            obtain ⟨g19, hf⟩ := hf
            refine z_iald C (lay_c98 hL) (inb_in g19) dX12_nowOf_124 ?_
            refine z_goto C 171 dX12_nowOf_125 (by decide) ?_
            cases hf
            exact z_iret C rfl dX12_nowOf_171
        · replace hf := ite_t c8 hf
          refine z_bipush C (-2) dX12_nowOf_106 (by decide) ?_
          cases hf
          exact z_iret C rfl dX12_nowOf_108
    · replace hf := ite_f c4 hf
      refine z_iload_n C 2 1 dX12_nowOf_61 rfl rfl ?_
      refine z_if_ne C 72 dX12_nowOf_62 (by decide) (fun c20 => ?_) (fun c20 => ?_)
      · replace hf := ite_f c20 hf
        refine z_iload_n C 2 1 dX12_nowOf_72 rfl rfl ?_
        refine z_iconst C 1 dX12_nowOf_73 (by decide) ?_
        refine z_icmp_ne C 84 dX12_nowOf_74 (by decide) (fun c21 => ?_) (fun c21 => ?_)
        · replace hf := ite_f c21 hf
          refine z_bipush C (-2) dX12_nowOf_84 (by decide) ?_
          cases hf
          exact z_iret C rfl dX12_nowOf_86
        · replace hf := ite_t c21 hf
          refine z_aload_n C 1 0 dX12_nowOf_77 rfl rfl ?_
          replace hf := bd_out hf
          obtain ⟨p22, e23, hf⟩ := hf
          refine z_cV1 C [] (tX12_sum l G hL M  _ e23) lk_X12_sum ok_X12 (lay_c90 hL) q_ml_X12_282 rfl ⟨Nat.le_of_ble_eq_true rfl, Nat.le_of_ble_eq_true rfl⟩ rfl (Nat.le_of_ble_eq_true rfl) ⟨Nat.le_refl _, Nat.le_refl _⟩ dX12_nowOf_78 ?_
          refine z_goto C 86 dX12_nowOf_81 (by decide) ?_
          cases hf
          exact z_iret C rfl dX12_nowOf_86
      · replace hf := ite_t c20 hf
        refine z_aload_n C 1 0 dX12_nowOf_65 rfl rfl ?_
        refine z_getI C ok_X12 (lay_c90 hL) 33 (by decide) rfl q_fl_X12_306 dX12_nowOf_66 ?_
        refine z_goto C 86 dX12_nowOf_69 (by decide) ?_
        cases hf
        exact z_iret C rfl dX12_nowOf_86
  · replace hf := ite_f c3 hf
    refine z_aload_n C 1 0 dX12_nowOf_16 rfl rfl ?_
    refine z_iload_n C 0 2 dX12_nowOf_17 rfl rfl ?_
    replace hf := bd_out hf
    obtain ⟨p24, e25, hf⟩ := hf
    refine z_cV1 C [] (tX12_isPerson l G hL M v1 _ e25) lk_X12_isPerson ok_X12 (lay_c90 hL) q_ml_X12_228 rfl ⟨Nat.le_of_ble_eq_true rfl, Nat.le_of_ble_eq_true rfl⟩ rfl (Nat.le_of_ble_eq_true rfl) ⟨Nat.le_refl _, Nat.le_refl _⟩ dX12_nowOf_18 ?_
    refine z_if_ne C 29 dX12_nowOf_21 (by decide) (fun c26 => ?_) (fun c26 => ?_)
    · replace hf := ite_f c26 hf
      refine z_iload_n C 2 1 dX12_nowOf_29 rfl rfl ?_
      refine z_bipush C 20 dX12_nowOf_30 (by decide) ?_
      refine z_icmp_ge C 48 dX12_nowOf_32 (by decide) (fun c27 => ?_) (fun c27 => ?_)
      · replace hf := ite_t c27 hf
        refine z_aload_n C 1 0 dX12_nowOf_48 rfl rfl ?_
        refine z_getR C ok_X12 (lay_c90 hL) 34 (107) (by decide) rfl (lay_r90_34 hL) q_fl_X12_59 dX12_nowOf_49 ?_
        refine z_iload_n C 0 2 dX12_nowOf_52 rfl rfl ?_
        replace hf := gd_out hf
        obtain ⟨g28, hf⟩ := hf
        refine z_iald C (lay_c107 hL) (inb_in g28) dX12_nowOf_53 ?_
        cases hf
        exact z_iret C rfl dX12_nowOf_54
      · replace hf := ite_f c27 hf
        refine z_aload_n C 1 0 dX12_nowOf_35 rfl rfl ?_
        refine z_aload_n C 1 0 dX12_nowOf_36 rfl rfl ?_
        refine z_getR C ok_X12 (lay_c90 hL) 15 (94) (by decide) rfl (lay_r90_15 hL) q_fl_X12_20 dX12_nowOf_37 ?_
        refine z_iload_n C 0 2 dX12_nowOf_40 rfl rfl ?_
        replace hf := gd_out hf
        obtain ⟨g29, hf⟩ := hf
        refine z_iald C (lay_c94 hL) (inb_in g29) dX12_nowOf_41 ?_
        replace hf := bd_out hf
        obtain ⟨p30, e31, hf⟩ := hf
        refine z_cV1 C [] (tX12_outside l G hL M (gI M 94 (ix v1)) _ e31) lk_X12_outside ok_X12 (lay_c90 hL) q_ml_X12_231 rfl ⟨Nat.le_of_ble_eq_true rfl, Nat.le_of_ble_eq_true rfl⟩ rfl (Nat.le_of_ble_eq_true rfl) ⟨Nat.le_refl _, Nat.le_refl _⟩ dX12_nowOf_42 ?_
        refine z_goto C 54 dX12_nowOf_45 (by decide) ?_
        cases hf
        exact z_iret C rfl dX12_nowOf_54
    · replace hf := ite_t c26 hf
      refine z_bipush C (-2) dX12_nowOf_24 (by decide) ?_
      refine z_goto C 54 dX12_nowOf_26 (by decide) ?_
      cases hf
      exact z_iret C rfl dX12_nowOf_54
set_option maxHeartbeats 4000000 in
set_option maxRecDepth 100000 in
theorem tX12_state (l : Launch) (G : GG) {K : SK} (hL : Lay K) (M : MM) (x1 : Int32) (x2 : Int32) (x3 : Int32) (x4 : Int32) (x5 : Int32) (pp : (Int32 × MM)) (hf : fX12_state M x1 x2 x3 x4 x5 = some pp) : Ct l yX12_state cX12_state 6 (some .int) 7 0 0 G K M [.ref (G.1 + 90), .int x1, .int x2, .int x3, .int x4, .int x5] (some (.int pp.1)) K pp.2 := by
  refine z_enter (lv := [(0, .ref (G.1 + 90)), (1, .int x1), (2, .int x2), (3, .int x3), (4, .int x4), (5, .int x5)]) (by decide +kernel) (Nat.le_of_ble_eq_true rfl) rfl ?_
  intro p e s m args below meth c C hnm hs0
  replace C : CX p s m args meth c cX12_state 6 (some .int) RX12 G := C
  unfold fX12_state at hf
  refine z_aload_n C 0 0 dX12_state_0 rfl rfl ?_
  refine z_iload_n C 1 1 dX12_state_1 rfl rfl ?_
  refine z_iload_n C 2 2 dX12_state_2 rfl rfl ?_
  replace hf := bd_out hf
  obtain ⟨p1, e2, hf⟩ := hf
  refine z_cV1 C [] (tX12_areTold l G hL M x1 x2 _ e2) lk_X12_areTold ok_X12 (lay_c90 hL) q_ml_X12_279 rfl ⟨Nat.le_of_ble_eq_true rfl, Nat.le_of_ble_eq_true rfl⟩ rfl (Nat.le_of_ble_eq_true rfl) ⟨Nat.le_refl _, Nat.le_refl _⟩ dX12_state_3 ?_
  refine z_if_eq C 22 dX12_state_6 (by decide) (fun c3 => ?_) (fun c3 => ?_)
  · replace hf := ite_t c3 hf
    refine z_bipush C (-2) dX12_state_22 (by decide) ?_
    cases hf
    exact z_iret C rfl dX12_state_24
  · replace hf := ite_f c3 hf
    refine z_aload_n C 0 0 dX12_state_9 rfl rfl ?_
    refine z_iload_n C 3 3 dX12_state_10 rfl rfl ?_
    replace hf := bd_out hf
    obtain ⟨p4, e5, hf⟩ := hf
    refine z_cV1 C [] (tX12_isEvening l G hL p1.2 x3 _ e5) lk_X12_isEvening ok_X12 (lay_c90 hL) q_ml_X12_297 rfl ⟨Nat.le_of_ble_eq_true rfl, Nat.le_of_ble_eq_true rfl⟩ rfl (Nat.le_of_ble_eq_true rfl) ⟨Nat.le_refl _, Nat.le_refl _⟩ dX12_state_11 ?_
    refine z_if_eq C 22 dX12_state_14 (by decide) (fun c6 => ?_) (fun c6 => ?_)
    · replace hf := ite_t c6 hf
      refine z_bipush C (-2) dX12_state_22 (by decide) ?_
      cases hf
      exact z_iret C rfl dX12_state_24
    · replace hf := ite_f c6 hf
      refine z_iload C 4 dX12_state_17 rfl ?_
      refine z_if_ge C 25 dX12_state_19 (by decide) (fun c7 => ?_) (fun c7 => ?_)
      · replace hf := ite_t c7 hf
        refine z_aload_n C 0 0 dX12_state_25 rfl rfl ?_
        refine z_iload C 4 dX12_state_26 rfl ?_
        replace hf := bd_out hf
        obtain ⟨p8, e9, hf⟩ := hf
        refine z_cV0 C [] (tX12_runs l G hL p4.2 x4 _ e9) lk_X12_runs ok_X12 (lay_c90 hL) q_ml_X12_322 rfl ⟨Nat.le_of_ble_eq_true rfl, Nat.le_of_ble_eq_true rfl⟩ rfl (Nat.le_of_ble_eq_true rfl) ⟨Nat.le_refl _, Nat.le_refl _⟩ dX12_state_28 ?_
        refine z_aload_n C 0 0 dX12_state_31 rfl rfl ?_
        refine z_getI C ok_X12 (lay_c90 hL) 32 (by decide) rfl q_fl_X12_303 dX12_state_32 ?_
        refine z_iload C 4 dX12_state_35 rfl ?_
        refine z_icmp_ne C 49 dX12_state_37 (by decide) (fun c10 => ?_) (fun c10 => ?_)
        · replace hf := ite_f c10 hf
          refine z_bipush C (-2) dX12_state_49 (by decide) ?_
          cases hf
          exact z_iret C rfl dX12_state_51
        · replace hf := ite_t c10 hf
          refine z_aload_n C 0 0 dX12_state_40 rfl rfl ?_
          refine z_iload C 5 dX12_state_41 rfl ?_
          replace hf := bd_out hf
          obtain ⟨p11, e12, hf⟩ := hf
          refine z_cV1 C [] (tX12_nowOf l G hL p8 x5 _ e12) lk_X12_nowOf ok_X12 (lay_c90 hL) q_ml_X12_325 rfl ⟨Nat.le_of_ble_eq_true rfl, Nat.le_of_ble_eq_true rfl⟩ rfl (Nat.le_of_ble_eq_true rfl) ⟨Nat.le_refl _, Nat.le_refl _⟩ dX12_state_43 ?_
          refine z_goto C 51 dX12_state_46 (by decide) ?_
          cases hf
          exact z_iret C rfl dX12_state_51
      · replace hf := ite_f c7 hf
        refine z_bipush C (-2) dX12_state_22 (by decide) ?_
        cases hf
        exact z_iret C rfl dX12_state_24
set_option maxHeartbeats 4000000 in
set_option maxRecDepth 100000 in
theorem tX12_isFreeFor (l : Launch) (G : GG) {K : SK} (hL : Lay K) (M : MM) (x1 : Int32) (x2 : Int32) (x3 : Int32) (pp : Int32) (hf : fX12_isFreeFor M x1 x2 x3 = some pp) : Ct l yX12_isFreeFor cX12_isFreeFor 4 (some .boolean) 1 0 0 G K M [.ref (G.1 + 90), .int x1, .int x2, .int x3] (some (.int pp)) K M := by
  refine z_enter (lv := [(0, .ref (G.1 + 90)), (1, .int x1), (2, .int x2), (3, .int x3)]) (by decide +kernel) (Nat.le_of_ble_eq_true rfl) rfl ?_
  intro p e s m args below meth c C hnm hs0
  replace C : CX p s m args meth c cX12_isFreeFor 4 (some .boolean) RX12 G := C
  unfold fX12_isFreeFor at hf
  refine z_aload_n C 0 0 dX12_isFreeFor_0 rfl rfl ?_
  refine z_iload_n C 1 1 dX12_isFreeFor_1 rfl rfl ?_
  replace hf := bd_out hf
  obtain ⟨p1, e2, hf⟩ := hf
  refine z_cV1 C [] (tX12_on l G hL M x1 _ e2) lk_X12_on ok_X12 (lay_c90 hL) q_ml_X12_243 rfl ⟨Nat.le_of_ble_eq_true rfl, Nat.le_of_ble_eq_true rfl⟩ rfl (Nat.le_of_ble_eq_true rfl) ⟨Nat.le_refl _, Nat.le_refl _⟩ dX12_isFreeFor_2 ?_
  refine z_if_eq C 32 dX12_isFreeFor_5 (by decide) (fun c3 => ?_) (fun c3 => ?_)
  · replace hf := ite_t c3 hf
    refine z_iconst C 1 dX12_isFreeFor_32 (by decide) ?_
    refine z_goto C 37 dX12_isFreeFor_33 (by decide) ?_
    cases hf
    exact z_zret C rfl nb1 dX12_isFreeFor_37
  · replace hf := ite_f c3 hf
    refine z_aload_n C 0 0 dX12_isFreeFor_8 rfl rfl ?_
    refine z_iload_n C 1 1 dX12_isFreeFor_9 rfl rfl ?_
    replace hf := bd_out hf
    obtain ⟨p4, e5, hf⟩ := hf
    refine z_cV1 C [] (tX12_on l G hL M x1 _ e5) lk_X12_on ok_X12 (lay_c90 hL) q_ml_X12_243 rfl ⟨Nat.le_of_ble_eq_true rfl, Nat.le_of_ble_eq_true rfl⟩ rfl (Nat.le_of_ble_eq_true rfl) ⟨Nat.le_refl _, Nat.le_refl _⟩ dX12_isFreeFor_10 ?_
    refine z_bipush C 10 dX12_isFreeFor_13 (by decide) ?_
    refine z_iload_n C 2 2 dX12_isFreeFor_15 rfl rfl ?_
    refine z_iadd C dX12_isFreeFor_16 ?_
    refine z_icmp_eq C 32 dX12_isFreeFor_17 (by decide) (fun c6 => ?_) (fun c6 => ?_)
    · replace hf := ite_t c6 hf
      refine z_iconst C 1 dX12_isFreeFor_32 (by decide) ?_
      refine z_goto C 37 dX12_isFreeFor_33 (by decide) ?_
      cases hf
      exact z_zret C rfl nb1 dX12_isFreeFor_37
    · replace hf := ite_f c6 hf
      refine z_aload_n C 0 0 dX12_isFreeFor_20 rfl rfl ?_
      refine z_iload_n C 1 1 dX12_isFreeFor_21 rfl rfl ?_
      replace hf := bd_out hf
      obtain ⟨p7, e8, hf⟩ := hf
      refine z_cV1 C [] (tX12_on l G hL M x1 _ e8) lk_X12_on ok_X12 (lay_c90 hL) q_ml_X12_243 rfl ⟨Nat.le_of_ble_eq_true rfl, Nat.le_of_ble_eq_true rfl⟩ rfl (Nat.le_of_ble_eq_true rfl) ⟨Nat.le_refl _, Nat.le_refl _⟩ dX12_isFreeFor_22 ?_
      refine z_bipush C 10 dX12_isFreeFor_25 (by decide) ?_
      refine z_iload_n C 3 3 dX12_isFreeFor_27 rfl rfl ?_
      refine z_iadd C dX12_isFreeFor_28 ?_
      refine z_icmp_ne C 36 dX12_isFreeFor_29 (by decide) (fun c9 => ?_) (fun c9 => ?_)
      · replace hf := ite_f c9 hf
        refine z_iconst C 0 dX12_isFreeFor_36 (by decide) ?_
        cases hf
        exact z_zret C rfl nb0 dX12_isFreeFor_37
      · replace hf := ite_t c9 hf
        refine z_iconst C 1 dX12_isFreeFor_32 (by decide) ?_
        refine z_goto C 37 dX12_isFreeFor_33 (by decide) ?_
        cases hf
        exact z_zret C rfl nb1 dX12_isFreeFor_37
set_option maxHeartbeats 4000000 in
set_option maxRecDepth 100000 in
theorem wX12_stand_j120 (C : CX p s m args meth c cX12_stand 11 (some .int) RX12 G) (hs0 : s.heap.size = G.1 + K.1) (hL : Lay K)  (k36 : MM → Int32 → Int32 → Int32 → Int32 → Int32 → Int32 → Int32 → Option (Int32 × MM)) (pp : (Int32 × MM)) (hk36 : ∀ (M48 : MM) (y49 : Int32) (y50 : Int32) (y51 : Int32) (y52 : Int32) (y53 : Int32) (y54 : Int32) (y55 : Int32), k36 M48 y49 y50 y51 y52 y53 y54 y55 = some pp → Z p l e (rmo 5 0 0) s m args below meth c 11 G (MQ below (QC G (some (.int pp.1)) K pp.2) args s 0 0 (AG G)) K 0 0 M48 36 [(0, .ref (G.1 + 90)), (3, .int y49), (4, .int y50), (5, .int y51), (6, .int y52), (7, .int y53), (8, .int y54), (9, .int y55)] []) (M41 : MM) (y42 : Int32) (y43 : Int32) (y44 : Int32) (y45 : Int32) (y46 : Int32) (y47 : Int32) (hf : fX12_stand_j120 k36 M41 y42 y43 y44 y45 y46 y47 = some pp) : Z p l e (rmo 5 0 0) s m args below meth c 11 G (MQ below (QC G (some (.int pp.1)) K pp.2) args s 0 0 (AG G)) K 0 0 M41 120 [(0, .ref (G.1 + 90)), (3, .int y42), (4, .int y43), (5, .int y44), (6, .int y45), (9, .int y46), (10, .int y47)] [] := by
  unfold fX12_stand_j120 at hf
  refine z_iload C 5 dX12_stand_120 rfl ?_
  refine z_istore C [(7, .int y46), (0, .ref (G.1 + 90)), (3, .int y42), (4, .int y43), (5, .int y44), (6, .int y45), (9, .int y46), (10, .int y47)] dX12_stand_122 (by decide) rfl rfl ?_
  refine z_iload C 7 dX12_stand_124 rfl ?_
  refine z_istore C [(8, .int y47), (7, .int y46), (0, .ref (G.1 + 90)), (3, .int y42), (4, .int y43), (5, .int y44), (6, .int y45), (9, .int y46), (10, .int y47)] dX12_stand_126 (by decide) rfl rfl ?_
  refine z_iinc C 7 (y46 + 1) [(9, .int (y46 + 1)), (8, .int y47), (7, .int y46), (0, .ref (G.1 + 90)), (3, .int y42), (4, .int y43), (5, .int y44), (6, .int y45), (10, .int y47)] dX12_stand_128 rfl rfl (by decide) rfl rfl ?_
  refine z_goto C 36 dX12_stand_131 (by decide) ?_
  refine z_lv (lv2 := [(0, .ref (G.1 + 90)), (3, .int y42), (4, .int y43), (5, .int y44), (6, .int y45), (7, .int y46), (8, .int y47), (9, .int (y46 + 1))]) [3, 4, 5, 6, 7, 2, 1, 0] rfl ?_
  exact hk36 M41 y42 y43 y44 y45 y46 y47 (y46 + 1)  hf
set_option maxHeartbeats 4000000 in
set_option maxRecDepth 100000 in
theorem wX12_stand_l36 (C : CX p s m args meth c cX12_stand 11 (some .int) RX12 G) (hs0 : s.heap.size = G.1 + K.1) (hL : Lay K)  (k134 : MM → Int32 → Int32 → Int32 → Option (Int32 × MM)) (pp : (Int32 × MM)) (hk134 : ∀ (M21 : MM) (y22 : Int32) (y23 : Int32) (y24 : Int32), k134 M21 y22 y23 y24 = some pp → Z p l e (rmo 5 0 0) s m args below meth c 11 G (MQ below (QC G (some (.int pp.1)) K pp.2) args s 0 0 (AG G)) K 0 0 M21 134 [(5, .int y22), (7, .int y23), (8, .int y24)] []) : ∀ (n : Nat) (M10 : MM) (y11 : Int32) (y12 : Int32) (y13 : Int32) (y14 : Int32) (y15 : Int32) (y16 : Int32) (y17 : Int32) (hf : fX12_stand_l36 k134 n M10 y11 y12 y13 y14 y15 y16 y17 = some pp), Z p l e (rmo 5 0 0) s m args below meth c 11 G (MQ below (QC G (some (.int pp.1)) K pp.2) args s 0 0 (AG G)) K 0 0 M10 36 [(0, .ref (G.1 + 90)), (3, .int y11), (4, .int y12), (5, .int y13), (6, .int y14), (7, .int y15), (8, .int y16), (9, .int y17)] [] := by
  intro n
  induction n with
  | zero => intro M10 y11 y12 y13 y14 y15 y16 y17 hf; exact nomatch (show (none : Option (Int32 × MM)) = some pp from hf)
  | succ n ih =>
    intro M10 y11 y12 y13 y14 y15 y16 y17 hf
    rw [fX12_stand_l36.eq_2] at hf
    refine z_aload_n C 0 0 dX12_stand_36 rfl rfl ?_
    refine z_iload C 7 dX12_stand_37 rfl ?_
    replace hf := bd_out hf
    obtain ⟨p18, e19, hf⟩ := hf
    refine z_cV1 C [] (tX12_isSquare l G hL M10 y17 _ e19) lk_X12_isSquare ok_X12 (lay_c90 hL) q_ml_X12_237 rfl ⟨Nat.le_of_ble_eq_true rfl, Nat.le_of_ble_eq_true rfl⟩ rfl (Nat.le_of_ble_eq_true rfl) ⟨Nat.le_refl _, Nat.le_refl _⟩ dX12_stand_39 ?_
    refine z_if_eq C 134 dX12_stand_42 (by decide) (fun c20 => ?_) (fun c20 => ?_)
    · replace hf := ite_t c20 hf
      refine z_lv (lv2 := [(5, .int y13), (7, .int y15), (8, .int y16)]) [3, 5, 6] rfl ?_
      exact hk134 M10 y13 y15 y16  hf
    · replace hf := ite_f c20 hf
      refine z_aload_n C 0 0 dX12_stand_45 rfl rfl ?_
      refine z_getR C ok_X12 (lay_c90 hL) 15 (94) (by decide) rfl (lay_r90_15 hL) q_fl_X12_20 dX12_stand_46 ?_
      refine z_iload_n C 1 3 dX12_stand_49 rfl rfl ?_
      refine z_iload C 4 dX12_stand_50 rfl ?_
      replace hf := gd_out hf
      obtain ⟨g25, hf⟩ := hf
      refine z_iast C (lay_c94 hL) (inb_in g25) dX12_stand_52 ?_
      refine z_M (fun M26 e27 => ?_)
      replace hf := bnd_out e27 hf
      refine z_aload_n C 0 0 dX12_stand_53 rfl rfl ?_
      refine z_aload_n C 0 0 dX12_stand_54 rfl rfl ?_
      refine z_iload C 7 dX12_stand_55 rfl ?_
      replace hf := bd_out hf
      obtain ⟨p28, e29, hf⟩ := hf
      refine z_cV1 C [.ref (G.1 + 90)] (tX12_inside l G hL M26 y17 _ e29) lk_X12_inside ok_X12 (lay_c90 hL) q_ml_X12_240 rfl ⟨Nat.le_of_ble_eq_true rfl, Nat.le_of_ble_eq_true rfl⟩ rfl (Nat.le_of_ble_eq_true rfl) ⟨Nat.le_refl _, Nat.le_refl _⟩ dX12_stand_57 ?_
      refine z_iload_n C 1 3 dX12_stand_60 rfl rfl ?_
      refine z_iload_n C 1 3 dX12_stand_61 rfl rfl ?_
      replace hf := bd_out hf
      obtain ⟨p30, e31, hf⟩ := hf
      refine z_cV1 C [] (tX12_isFreeFor l G hL M26 p28 y11 y11 _ e31) lk_X12_isFreeFor ok_X12 (lay_c90 hL) q_ml_X12_328 rfl ⟨Nat.le_of_ble_eq_true rfl, Nat.le_of_ble_eq_true rfl⟩ rfl (Nat.le_of_ble_eq_true rfl) ⟨Nat.le_refl _, Nat.le_refl _⟩ dX12_stand_62 ?_
      refine z_if_ne C 71 dX12_stand_65 (by decide) (fun c32 => ?_) (fun c32 => ?_)
      · replace hf := ite_f c32 hf
        refine z_aload_n C 0 0 dX12_stand_71 rfl rfl ?_
        refine z_getR C ok_X12 (lay_c90 hL) 15 (94) (by decide) rfl (lay_r90_15 hL) q_fl_X12_20 dX12_stand_72 ?_
        refine z_iload_n C 1 3 dX12_stand_75 rfl rfl ?_
        refine z_aload_n C 0 0 dX12_stand_76 rfl rfl ?_
        refine z_iload C 7 dX12_stand_77 rfl ?_
        replace hf := bd_out hf
        obtain ⟨p33, e34, hf⟩ := hf
        refine z_cV1 C [.int y11, .ref (G.1 + 94)] (tX12_inside l G hL M26 y17 _ e34) lk_X12_inside ok_X12 (lay_c90 hL) q_ml_X12_240 rfl ⟨Nat.le_of_ble_eq_true rfl, Nat.le_of_ble_eq_true rfl⟩ rfl (Nat.le_of_ble_eq_true rfl) ⟨Nat.le_refl _, Nat.le_refl _⟩ dX12_stand_79 ?_
        replace hf := gd_out hf
        obtain ⟨g35, hf⟩ := hf
        refine z_iast C (lay_c94 hL) (inb_in g35) dX12_stand_82 ?_
        refine z_M (fun M36 e37 => ?_)
        replace hf := bnd_out e37 hf
        refine z_aload_n C 0 0 dX12_stand_83 rfl rfl ?_
        replace hf := bd_out hf
        obtain ⟨p38, e39, hf⟩ := hf
        refine z_cV1 C [] (tX12_sum l G hL M36  _ e39) lk_X12_sum ok_X12 (lay_c90 hL) q_ml_X12_282 rfl ⟨Nat.le_of_ble_eq_true rfl, Nat.le_of_ble_eq_true rfl⟩ rfl (Nat.le_of_ble_eq_true rfl) ⟨Nat.le_refl _, Nat.le_refl _⟩ dX12_stand_84 ?_
        refine z_istore C [(10, .int p38.1), (0, .ref (G.1 + 90)), (3, .int y11), (4, .int y12), (5, .int y13), (6, .int y14), (7, .int y15), (8, .int y16), (9, .int y17)] dX12_stand_87 (by decide) rfl rfl ?_
        refine z_iload C 6 dX12_stand_89 rfl ?_
        refine z_iconst C (-1) dX12_stand_91 (by decide) ?_
        refine z_icmp_eq C 120 dX12_stand_92 (by decide) (fun c40 => ?_) (fun c40 => ?_)
        · replace hf := ite_t c40 hf
          refine z_lv (lv2 := [(0, .ref (G.1 + 90)), (3, .int y11), (4, .int y12), (5, .int y13), (6, .int y14), (9, .int y17), (10, .int p38.1)]) [1, 2, 3, 4, 5, 8, 0] rfl ?_
          refine wX12_stand_j120 C hs0 hL _ pp ?_ p38.2 y11 y12 y13 y14 y17 p38.1 hf
          · intro M56 y57 y58 y59 y60 y61 y62 y63 hf
            exact ih M56 y57 y58 y59 y60 y61 y62 y63  hf
        · replace hf := ite_f c40 hf
          refine z_iload C 3 dX12_stand_95 rfl ?_
          refine z_if_eq C 110 dX12_stand_97 (by decide) (fun c64 => ?_) (fun c64 => ?_)
          · replace hf := ite_t c64 hf
            refine z_iload C 0 dX12_stand_110 rfl ?_
            refine z_iload C 7 dX12_stand_112 rfl ?_
            refine z_icmp_gt C 120 dX12_stand_114 (by decide) (fun c65 => ?_) (fun c65 => ?_)
            · replace hf := ite_t c65 hf
              refine z_lv (lv2 := [(0, .ref (G.1 + 90)), (3, .int y11), (4, .int y12), (5, .int y13), (6, .int y14), (9, .int y17), (10, .int p38.1)]) [1, 2, 3, 4, 5, 8, 0] rfl ?_
              refine wX12_stand_j120 C hs0 hL _ pp ?_ p38.2 y11 y12 y13 y14 y17 p38.1 hf
              · intro M66 y67 y68 y69 y70 y71 y72 y73 hf
                exact ih M66 y67 y68 y69 y70 y71 y72 y73  hf
            · replace hf := ite_f c65 hf
              refine z_goto C 128 dX12_stand_117 (by decide) ?_
              refine z_iinc C 8 (y17 + 1) [(9, .int (y17 + 1)), (10, .int p38.1), (0, .ref (G.1 + 90)), (3, .int y11), (4, .int y12), (5, .int y13), (6, .int y14), (7, .int y15), (8, .int y16)] dX12_stand_128 rfl rfl (by decide) rfl rfl ?_
              refine z_goto C 36 dX12_stand_131 (by decide) ?_
              refine z_lv (lv2 := [(0, .ref (G.1 + 90)), (3, .int y11), (4, .int y12), (5, .int y13), (6, .int y14), (7, .int y15), (8, .int y16), (9, .int (y17 + 1))]) [2, 3, 4, 5, 6, 7, 8, 0] rfl ?_
              exact ih p38.2 y11 y12 y13 y14 y15 y16 (y17 + 1)  hf
          · replace hf := ite_f c64 hf
            refine z_iload C 0 dX12_stand_100 rfl ?_
            refine z_iload C 7 dX12_stand_102 rfl ?_
            refine z_icmp_lt C 120 dX12_stand_104 (by decide) (fun c74 => ?_) (fun c74 => ?_)
            · replace hf := ite_t c74 hf
              refine z_lv (lv2 := [(0, .ref (G.1 + 90)), (3, .int y11), (4, .int y12), (5, .int y13), (6, .int y14), (9, .int y17), (10, .int p38.1)]) [1, 2, 3, 4, 5, 8, 0] rfl ?_
              refine wX12_stand_j120 C hs0 hL _ pp ?_ p38.2 y11 y12 y13 y14 y17 p38.1 hf
              · intro M75 y76 y77 y78 y79 y80 y81 y82 hf
                exact ih M75 y76 y77 y78 y79 y80 y81 y82  hf
            · replace hf := ite_f c74 hf
              refine z_goto C 128 dX12_stand_107 (by decide) ?_
              refine z_iinc C 8 (y17 + 1) [(9, .int (y17 + 1)), (10, .int p38.1), (0, .ref (G.1 + 90)), (3, .int y11), (4, .int y12), (5, .int y13), (6, .int y14), (7, .int y15), (8, .int y16)] dX12_stand_128 rfl rfl (by decide) rfl rfl ?_
              refine z_goto C 36 dX12_stand_131 (by decide) ?_
              refine z_lv (lv2 := [(0, .ref (G.1 + 90)), (3, .int y11), (4, .int y12), (5, .int y13), (6, .int y14), (7, .int y15), (8, .int y16), (9, .int (y17 + 1))]) [2, 3, 4, 5, 6, 7, 8, 0] rfl ?_
              exact ih p38.2 y11 y12 y13 y14 y15 y16 (y17 + 1)  hf
      · replace hf := ite_t c32 hf
        refine z_goto C 128 dX12_stand_68 (by decide) ?_
        refine z_iinc C 7 (y17 + 1) [(9, .int (y17 + 1)), (0, .ref (G.1 + 90)), (3, .int y11), (4, .int y12), (5, .int y13), (6, .int y14), (7, .int y15), (8, .int y16)] dX12_stand_128 rfl rfl (by decide) rfl rfl ?_
        refine z_goto C 36 dX12_stand_131 (by decide) ?_
        refine z_lv (lv2 := [(0, .ref (G.1 + 90)), (3, .int y11), (4, .int y12), (5, .int y13), (6, .int y14), (7, .int y15), (8, .int y16), (9, .int (y17 + 1))]) [1, 2, 3, 4, 5, 6, 7, 0] rfl ?_
        exact ih M26 y11 y12 y13 y14 y15 y16 (y17 + 1)  hf
set_option maxHeartbeats 4000000 in
set_option maxRecDepth 100000 in
theorem tX12_stand (l : Launch) (G : GG) {K : SK} (hL : Lay K) (M : MM) (x1 : Int32) (x2 : Int32) (x3 : Int32) (x4 : Int32) (x5 : Int32) (pp : (Int32 × MM)) (hf : fX12_stand M x1 x2 x3 x4 x5 = some pp) : Ct l yX12_stand cX12_stand 11 (some .int) 5 0 0 G K M [.ref (G.1 + 90), .int x1, .int x2, .int x3, .int x4, .int x5] (some (.int pp.1)) K pp.2 := by
  refine z_enter (lv := [(0, .ref (G.1 + 90)), (1, .int x1), (2, .int x2), (3, .int x3), (4, .int x4), (5, .int x5)]) (by decide +kernel) (Nat.le_of_ble_eq_true rfl) rfl ?_
  intro p e s m args below meth c C hnm hs0
  replace C : CX p s m args meth c cX12_stand 11 (some .int) RX12 G := C
  unfold fX12_stand at hf
  refine z_aload_n C 0 0 dX12_stand_0 rfl rfl ?_
  refine z_iload_n C 1 1 dX12_stand_1 rfl rfl ?_
  refine z_iload_n C 2 2 dX12_stand_2 rfl rfl ?_
  replace hf := bd_out hf
  obtain ⟨p1, e2, hf⟩ := hf
  refine z_cV1 C [] (tX12_areTold l G hL M x1 x2 _ e2) lk_X12_areTold ok_X12 (lay_c90 hL) q_ml_X12_279 rfl ⟨Nat.le_of_ble_eq_true rfl, Nat.le_of_ble_eq_true rfl⟩ rfl (Nat.le_of_ble_eq_true rfl) ⟨Nat.le_refl _, Nat.le_refl _⟩ dX12_stand_3 ?_
  refine z_if_eq C 17 dX12_stand_6 (by decide) (fun c3 => ?_) (fun c3 => ?_)
  · replace hf := ite_t c3 hf
    refine z_iconst C (-1) dX12_stand_17 (by decide) ?_
    cases hf
    exact z_iret C rfl dX12_stand_18
  · replace hf := ite_f c3 hf
    refine z_aload_n C 0 0 dX12_stand_9 rfl rfl ?_
    refine z_iload_n C 3 3 dX12_stand_10 rfl rfl ?_
    replace hf := bd_out hf
    obtain ⟨p4, e5, hf⟩ := hf
    refine z_cV1 C [] (tX12_isPerson l G hL p1.2 x3 _ e5) lk_X12_isPerson ok_X12 (lay_c90 hL) q_ml_X12_228 rfl ⟨Nat.le_of_ble_eq_true rfl, Nat.le_of_ble_eq_true rfl⟩ rfl (Nat.le_of_ble_eq_true rfl) ⟨Nat.le_refl _, Nat.le_refl _⟩ dX12_stand_11 ?_
    refine z_if_ne C 19 dX12_stand_14 (by decide) (fun c6 => ?_) (fun c6 => ?_)
    · replace hf := ite_f c6 hf
      refine z_aload_n C 0 0 dX12_stand_19 rfl rfl ?_
      refine z_getR C ok_X12 (lay_c90 hL) 15 (94) (by decide) rfl (lay_r90_15 hL) q_fl_X12_20 dX12_stand_20 ?_
      refine z_iload_n C 3 3 dX12_stand_23 rfl rfl ?_
      replace hf := gd_out hf
      obtain ⟨g7, hf⟩ := hf
      refine z_iald C (lay_c94 hL) (inb_in g7) dX12_stand_24 ?_
      refine z_topi (fun v8 e9 => ?_)
      replace hf := bnd_out e9 hf
      refine z_istore C [(6, .int v8), (0, .ref (G.1 + 90)), (1, .int x1), (2, .int x2), (3, .int x3), (4, .int x4), (5, .int x5)] dX12_stand_25 (by decide) rfl rfl ?_
      refine z_iconst C (-1) dX12_stand_27 (by decide) ?_
      refine z_istore C [(7, .int (-1)), (6, .int v8), (0, .ref (G.1 + 90)), (1, .int x1), (2, .int x2), (3, .int x3), (4, .int x4), (5, .int x5)] dX12_stand_28 (by decide) rfl rfl ?_
      refine z_iconst C 0 dX12_stand_30 (by decide) ?_
      refine z_istore C [(8, .int 0), (7, .int (-1)), (6, .int v8), (0, .ref (G.1 + 90)), (1, .int x1), (2, .int x2), (3, .int x3), (4, .int x4), (5, .int x5)] dX12_stand_31 (by decide) rfl rfl ?_
      refine z_iconst C 0 dX12_stand_33 (by decide) ?_
      refine z_istore C [(9, .int 0), (8, .int 0), (7, .int (-1)), (6, .int v8), (0, .ref (G.1 + 90)), (1, .int x1), (2, .int x2), (3, .int x3), (4, .int x4), (5, .int x5)] dX12_stand_34 (by decide) rfl rfl ?_
      refine z_lv (lv2 := [(0, .ref (G.1 + 90)), (3, .int x3), (4, .int x4), (5, .int x5), (6, .int v8), (7, .int (-1)), (8, .int 0), (9, .int 0)]) [4, 7, 8, 9, 3, 2, 1, 0] rfl ?_
      refine wX12_stand_l36 C hs0 hL _ pp ?_ FU p1.2 x3 x4 x5 v8 (-1) 0 0 hf
      · intro M83 y84 y85 y86 hf
        refine z_iload C 0 dX12_stand_134 rfl ?_
        refine z_if_eq C 144 dX12_stand_136 (by decide) (fun c87 => ?_) (fun c87 => ?_)
        · replace hf := ite_t c87 hf
          refine z_iload C 1 dX12_stand_144 rfl ?_
          cases hf
          exact z_iret C rfl dX12_stand_146
        · replace hf := ite_f c87 hf
          refine z_iload C 2 dX12_stand_139 rfl ?_
          refine z_goto C 146 dX12_stand_141 (by decide) ?_
          cases hf
          exact z_iret C rfl dX12_stand_146
    · replace hf := ite_t c6 hf
      refine z_iconst C (-1) dX12_stand_17 (by decide) ?_
      cases hf
      exact z_iret C rfl dX12_stand_18
set_option maxHeartbeats 4000000 in
set_option maxRecDepth 100000 in
theorem wX12_together_j206 (C : CX p s m args meth c cX12_together 14 (some .int) RX12 G) (hs0 : s.heap.size = G.1 + K.1) (hL : Lay K)  (k60 : MM → Int32 → Int32 → Int32 → Int32 → Int32 → Int32 → Int32 → Int32 → Option (Int32 × MM)) (pp : (Int32 × MM)) (hk60 : ∀ (M79 : MM) (y80 : Int32) (y81 : Int32) (y82 : Int32) (y83 : Int32) (y84 : Int32) (y85 : Int32) (y86 : Int32) (y87 : Int32), k60 M79 y80 y81 y82 y83 y84 y85 y86 y87 = some pp → Z p l e (rmo 5 0 0) s m args below meth c 14 G (MQ below (QC G (some (.int pp.1)) K pp.2) args s 0 0 (AG G)) K 0 0 M79 60 [(0, .ref (G.1 + 90)), (3, .int y80), (4, .int y81), (5, .int y82), (6, .int y83), (7, .int y84), (8, .int y85), (9, .int y86), (10, .int y87)] []) (M71 : MM) (y72 : Int32) (y73 : Int32) (y74 : Int32) (y75 : Int32) (y76 : Int32) (y77 : Int32) (y78 : Int32) (hf : fX12_together_j206 k60 M71 y72 y73 y74 y75 y76 y77 y78 = some pp) : Z p l e (rmo 5 0 0) s m args below meth c 14 G (MQ below (QC G (some (.int pp.1)) K pp.2) args s 0 0 (AG G)) K 0 0 M71 206 [(0, .ref (G.1 + 90)), (3, .int y72), (4, .int y73), (5, .int y74), (6, .int y75), (7, .int y76), (10, .int y77), (13, .int y78)] [] := by
  unfold fX12_together_j206 at hf
  refine z_iload C 6 dX12_together_206 rfl ?_
  refine z_istore C [(8, .int y77), (0, .ref (G.1 + 90)), (3, .int y72), (4, .int y73), (5, .int y74), (6, .int y75), (7, .int y76), (10, .int y77), (13, .int y78)] dX12_together_208 (by decide) rfl rfl ?_
  refine z_iload C 8 dX12_together_210 rfl ?_
  refine z_istore C [(9, .int y78), (8, .int y77), (0, .ref (G.1 + 90)), (3, .int y72), (4, .int y73), (5, .int y74), (6, .int y75), (7, .int y76), (10, .int y77), (13, .int y78)] dX12_together_212 (by decide) rfl rfl ?_
  refine z_iinc C 8 (y77 + 1) [(10, .int (y77 + 1)), (9, .int y78), (8, .int y77), (0, .ref (G.1 + 90)), (3, .int y72), (4, .int y73), (5, .int y74), (6, .int y75), (7, .int y76), (13, .int y78)] dX12_together_214 rfl rfl (by decide) rfl rfl ?_
  refine z_goto C 60 dX12_together_217 (by decide) ?_
  refine z_lv (lv2 := [(0, .ref (G.1 + 90)), (3, .int y72), (4, .int y73), (5, .int y74), (6, .int y75), (7, .int y76), (8, .int y77), (9, .int y78), (10, .int (y77 + 1))]) [3, 4, 5, 6, 7, 8, 2, 1, 0] rfl ?_
  exact hk60 M71 y72 y73 y74 y75 y76 y77 y78 (y77 + 1)  hf
set_option maxHeartbeats 4000000 in
set_option maxRecDepth 100000 in
theorem wX12_together_l60 (C : CX p s m args meth c cX12_together 14 (some .int) RX12 G) (hs0 : s.heap.size = G.1 + K.1) (hL : Lay K)  (k220 : MM → Int32 → Int32 → Int32 → Option (Int32 × MM)) (pp : (Int32 × MM)) (hk220 : ∀ (M27 : MM) (y28 : Int32) (y29 : Int32) (y30 : Int32), k220 M27 y28 y29 y30 = some pp → Z p l e (rmo 5 0 0) s m args below meth c 14 G (MQ below (QC G (some (.int pp.1)) K pp.2) args s 0 0 (AG G)) K 0 0 M27 220 [(5, .int y28), (8, .int y29), (9, .int y30)] []) : ∀ (n : Nat) (M17 : MM) (y18 : Int32) (y19 : Int32) (y20 : Int32) (y21 : Int32) (y22 : Int32) (y23 : Int32) (y24 : Int32) (y25 : Int32) (hf : fX12_together_l60 k220 n M17 y18 y19 y20 y21 y22 y23 y24 y25 = some pp), Z p l e (rmo 5 0 0) s m args below meth c 14 G (MQ below (QC G (some (.int pp.1)) K pp.2) args s 0 0 (AG G)) K 0 0 M17 60 [(0, .ref (G.1 + 90)), (3, .int y18), (4, .int y19), (5, .int y20), (6, .int y21), (7, .int y22), (8, .int y23), (9, .int y24), (10, .int y25)] [] := by
  intro n
  induction n with
  | zero => intro M17 y18 y19 y20 y21 y22 y23 y24 y25 hf; exact nomatch (show (none : Option (Int32 × MM)) = some pp from hf)
  | succ n ih =>
    intro M17 y18 y19 y20 y21 y22 y23 y24 y25 hf
    rw [fX12_together_l60.eq_2] at hf
    refine z_iload C 8 dX12_together_60 rfl ?_
    refine z_sipush C 4096 dX12_together_62 (by decide) ?_
    refine z_icmp_ge C 220 dX12_together_65 (by decide) (fun c26 => ?_) (fun c26 => ?_)
    · replace hf := ite_t c26 hf
      refine z_lv (lv2 := [(5, .int y20), (8, .int y23), (9, .int y24)]) [3, 6, 7] rfl ?_
      exact hk220 M17 y20 y23 y24  hf
    · replace hf := ite_f c26 hf
      refine z_iload C 8 dX12_together_68 rfl ?_
      refine z_bipush C 64 dX12_together_70 (by decide) ?_
      refine z_idiv C (by decide) dX12_together_72 ?_
      refine z_topi (fun v31 e32 => ?_)
      replace hf := bnd_out e32 hf
      refine z_istore C [(11, .int v31), (0, .ref (G.1 + 90)), (3, .int y18), (4, .int y19), (5, .int y20), (6, .int y21), (7, .int y22), (8, .int y23), (9, .int y24), (10, .int y25)] dX12_together_73 (by decide) rfl rfl ?_
      refine z_iload C 9 dX12_together_75 rfl ?_
      refine z_bipush C 64 dX12_together_77 (by decide) ?_
      refine z_irem C (by decide) dX12_together_79 ?_
      refine z_topi (fun v33 e34 => ?_)
      replace hf := bnd_out e34 hf
      refine z_istore C [(12, .int v33), (11, .int v31), (0, .ref (G.1 + 90)), (3, .int y18), (4, .int y19), (5, .int y20), (6, .int y21), (7, .int y22), (8, .int y23), (9, .int y24), (10, .int y25)] dX12_together_80 (by decide) rfl rfl ?_
      refine z_aload_n C 2 0 dX12_together_82 rfl rfl ?_
      refine z_getR C ok_X12 (lay_c90 hL) 15 (94) (by decide) rfl (lay_r90_15 hL) q_fl_X12_20 dX12_together_83 ?_
      refine z_iload_n C 3 3 dX12_together_86 rfl rfl ?_
      refine z_iload C 6 dX12_together_87 rfl ?_
      replace hf := gd_out hf
      obtain ⟨g35, hf⟩ := hf
      refine z_iast C (lay_c94 hL) (inb_in g35) dX12_together_89 ?_
      refine z_M (fun M36 e37 => ?_)
      replace hf := bnd_out e37 hf
      refine z_aload_n C 2 0 dX12_together_90 rfl rfl ?_
      refine z_getR C ok_X12 (lay_c90 hL) 15 (94) (by decide) rfl (lay_r90_15 hL) q_fl_X12_20 dX12_together_91 ?_
      refine z_iload C 4 dX12_together_94 rfl ?_
      refine z_iload C 7 dX12_together_96 rfl ?_
      replace hf := gd_out hf
      obtain ⟨g38, hf⟩ := hf
      refine z_iast C (lay_c94 hL) (inb_in g38) dX12_together_98 ?_
      refine z_M (fun M39 e40 => ?_)
      replace hf := bnd_out e40 hf
      refine z_iload C 1 dX12_together_99 rfl ?_
      refine z_iload C 0 dX12_together_101 rfl ?_
      refine z_icmp_eq C 214 dX12_together_103 (by decide) (fun c41 => ?_) (fun c41 => ?_)
      · replace hf := ite_t c41 hf
        refine z_iinc C 10 (y25 + 1) [(10, .int (y25 + 1)), (12, .int v33), (11, .int v31), (0, .ref (G.1 + 90)), (3, .int y18), (4, .int y19), (5, .int y20), (6, .int y21), (7, .int y22), (8, .int y23), (9, .int y24)] dX12_together_214 rfl rfl (by decide) rfl rfl ?_
        refine z_goto C 60 dX12_together_217 (by decide) ?_
        refine z_lv (lv2 := [(0, .ref (G.1 + 90)), (3, .int y18), (4, .int y19), (5, .int y20), (6, .int y21), (7, .int y22), (8, .int y23), (9, .int y24), (10, .int (y25 + 1))]) [3, 4, 5, 6, 7, 8, 9, 10, 0] rfl ?_
        exact ih M39 y18 y19 y20 y21 y22 y23 y24 (y25 + 1)  hf
      · replace hf := ite_f c41 hf
        refine z_aload_n C 2 0 dX12_together_106 rfl rfl ?_
        refine z_iload C 1 dX12_together_107 rfl ?_
        replace hf := bd_out hf
        obtain ⟨p42, e43, hf⟩ := hf
        refine z_cV1 C [] (tX12_isSquare l G hL M39 v31 _ e43) lk_X12_isSquare ok_X12 (lay_c90 hL) q_ml_X12_237 rfl ⟨Nat.le_of_ble_eq_true rfl, Nat.le_of_ble_eq_true rfl⟩ rfl (Nat.le_of_ble_eq_true rfl) ⟨Nat.le_refl _, Nat.le_refl _⟩ dX12_together_109 ?_
        refine z_if_eq C 214 dX12_together_112 (by decide) (fun c44 => ?_) (fun c44 => ?_)
        · replace hf := ite_t c44 hf
          refine z_iinc C 10 (y25 + 1) [(10, .int (y25 + 1)), (12, .int v33), (11, .int v31), (0, .ref (G.1 + 90)), (3, .int y18), (4, .int y19), (5, .int y20), (6, .int y21), (7, .int y22), (8, .int y23), (9, .int y24)] dX12_together_214 rfl rfl (by decide) rfl rfl ?_
          refine z_goto C 60 dX12_together_217 (by decide) ?_
          refine z_lv (lv2 := [(0, .ref (G.1 + 90)), (3, .int y18), (4, .int y19), (5, .int y20), (6, .int y21), (7, .int y22), (8, .int y23), (9, .int y24), (10, .int (y25 + 1))]) [3, 4, 5, 6, 7, 8, 9, 10, 0] rfl ?_
          exact ih M39 y18 y19 y20 y21 y22 y23 y24 (y25 + 1)  hf
        · replace hf := ite_f c44 hf
          refine z_aload_n C 2 0 dX12_together_115 rfl rfl ?_
          refine z_iload C 0 dX12_together_116 rfl ?_
          replace hf := bd_out hf
          obtain ⟨p45, e46, hf⟩ := hf
          refine z_cV1 C [] (tX12_isSquare l G hL M39 v33 _ e46) lk_X12_isSquare ok_X12 (lay_c90 hL) q_ml_X12_237 rfl ⟨Nat.le_of_ble_eq_true rfl, Nat.le_of_ble_eq_true rfl⟩ rfl (Nat.le_of_ble_eq_true rfl) ⟨Nat.le_refl _, Nat.le_refl _⟩ dX12_together_118 ?_
          refine z_if_eq C 214 dX12_together_121 (by decide) (fun c47 => ?_) (fun c47 => ?_)
          · replace hf := ite_t c47 hf
            refine z_iinc C 10 (y25 + 1) [(10, .int (y25 + 1)), (12, .int v33), (11, .int v31), (0, .ref (G.1 + 90)), (3, .int y18), (4, .int y19), (5, .int y20), (6, .int y21), (7, .int y22), (8, .int y23), (9, .int y24)] dX12_together_214 rfl rfl (by decide) rfl rfl ?_
            refine z_goto C 60 dX12_together_217 (by decide) ?_
            refine z_lv (lv2 := [(0, .ref (G.1 + 90)), (3, .int y18), (4, .int y19), (5, .int y20), (6, .int y21), (7, .int y22), (8, .int y23), (9, .int y24), (10, .int (y25 + 1))]) [3, 4, 5, 6, 7, 8, 9, 10, 0] rfl ?_
            exact ih M39 y18 y19 y20 y21 y22 y23 y24 (y25 + 1)  hf
          · replace hf := ite_f c47 hf
            refine z_aload_n C 2 0 dX12_together_124 rfl rfl ?_
            refine z_aload_n C 2 0 dX12_together_125 rfl rfl ?_
            refine z_iload C 1 dX12_together_126 rfl ?_
            replace hf := bd_out hf
            obtain ⟨p48, e49, hf⟩ := hf
            refine z_cV1 C [.ref (G.1 + 90)] (tX12_inside l G hL M39 v31 _ e49) lk_X12_inside ok_X12 (lay_c90 hL) q_ml_X12_240 rfl ⟨Nat.le_of_ble_eq_true rfl, Nat.le_of_ble_eq_true rfl⟩ rfl (Nat.le_of_ble_eq_true rfl) ⟨Nat.le_refl _, Nat.le_refl _⟩ dX12_together_128 ?_
            refine z_iload_n C 3 3 dX12_together_131 rfl rfl ?_
            refine z_iload C 4 dX12_together_132 rfl ?_
            replace hf := bd_out hf
            obtain ⟨p50, e51, hf⟩ := hf
            refine z_cV1 C [] (tX12_isFreeFor l G hL M39 p48 y18 y19 _ e51) lk_X12_isFreeFor ok_X12 (lay_c90 hL) q_ml_X12_328 rfl ⟨Nat.le_of_ble_eq_true rfl, Nat.le_of_ble_eq_true rfl⟩ rfl (Nat.le_of_ble_eq_true rfl) ⟨Nat.le_refl _, Nat.le_refl _⟩ dX12_together_134 ?_
            refine z_if_eq C 214 dX12_together_137 (by decide) (fun c52 => ?_) (fun c52 => ?_)
            · replace hf := ite_t c52 hf
              refine z_iinc C 10 (y25 + 1) [(10, .int (y25 + 1)), (12, .int v33), (11, .int v31), (0, .ref (G.1 + 90)), (3, .int y18), (4, .int y19), (5, .int y20), (6, .int y21), (7, .int y22), (8, .int y23), (9, .int y24)] dX12_together_214 rfl rfl (by decide) rfl rfl ?_
              refine z_goto C 60 dX12_together_217 (by decide) ?_
              refine z_lv (lv2 := [(0, .ref (G.1 + 90)), (3, .int y18), (4, .int y19), (5, .int y20), (6, .int y21), (7, .int y22), (8, .int y23), (9, .int y24), (10, .int (y25 + 1))]) [3, 4, 5, 6, 7, 8, 9, 10, 0] rfl ?_
              exact ih M39 y18 y19 y20 y21 y22 y23 y24 (y25 + 1)  hf
            · replace hf := ite_f c52 hf
              refine z_aload_n C 2 0 dX12_together_140 rfl rfl ?_
              refine z_aload_n C 2 0 dX12_together_141 rfl rfl ?_
              refine z_iload C 0 dX12_together_142 rfl ?_
              replace hf := bd_out hf
              obtain ⟨p53, e54, hf⟩ := hf
              refine z_cV1 C [.ref (G.1 + 90)] (tX12_inside l G hL M39 v33 _ e54) lk_X12_inside ok_X12 (lay_c90 hL) q_ml_X12_240 rfl ⟨Nat.le_of_ble_eq_true rfl, Nat.le_of_ble_eq_true rfl⟩ rfl (Nat.le_of_ble_eq_true rfl) ⟨Nat.le_refl _, Nat.le_refl _⟩ dX12_together_144 ?_
              refine z_iload_n C 3 3 dX12_together_147 rfl rfl ?_
              refine z_iload C 4 dX12_together_148 rfl ?_
              replace hf := bd_out hf
              obtain ⟨p55, e56, hf⟩ := hf
              refine z_cV1 C [] (tX12_isFreeFor l G hL M39 p53 y18 y19 _ e56) lk_X12_isFreeFor ok_X12 (lay_c90 hL) q_ml_X12_328 rfl ⟨Nat.le_of_ble_eq_true rfl, Nat.le_of_ble_eq_true rfl⟩ rfl (Nat.le_of_ble_eq_true rfl) ⟨Nat.le_refl _, Nat.le_refl _⟩ dX12_together_150 ?_
              refine z_if_ne C 159 dX12_together_153 (by decide) (fun c57 => ?_) (fun c57 => ?_)
              · replace hf := ite_f c57 hf
                refine z_aload_n C 2 0 dX12_together_159 rfl rfl ?_
                refine z_getR C ok_X12 (lay_c90 hL) 15 (94) (by decide) rfl (lay_r90_15 hL) q_fl_X12_20 dX12_together_160 ?_
                refine z_iload_n C 3 3 dX12_together_163 rfl rfl ?_
                refine z_aload_n C 2 0 dX12_together_164 rfl rfl ?_
                refine z_iload C 1 dX12_together_165 rfl ?_
                replace hf := bd_out hf
                obtain ⟨p58, e59, hf⟩ := hf
                refine z_cV1 C [.int y18, .ref (G.1 + 94)] (tX12_inside l G hL M39 v31 _ e59) lk_X12_inside ok_X12 (lay_c90 hL) q_ml_X12_240 rfl ⟨Nat.le_of_ble_eq_true rfl, Nat.le_of_ble_eq_true rfl⟩ rfl (Nat.le_of_ble_eq_true rfl) ⟨Nat.le_refl _, Nat.le_refl _⟩ dX12_together_167 ?_
                replace hf := gd_out hf
                obtain ⟨g60, hf⟩ := hf
                refine z_iast C (lay_c94 hL) (inb_in g60) dX12_together_170 ?_
                refine z_M (fun M61 e62 => ?_)
                replace hf := bnd_out e62 hf
                refine z_aload_n C 2 0 dX12_together_171 rfl rfl ?_
                refine z_getR C ok_X12 (lay_c90 hL) 15 (94) (by decide) rfl (lay_r90_15 hL) q_fl_X12_20 dX12_together_172 ?_
                refine z_iload C 4 dX12_together_175 rfl ?_
                refine z_aload_n C 2 0 dX12_together_177 rfl rfl ?_
                refine z_iload C 0 dX12_together_178 rfl ?_
                replace hf := bd_out hf
                obtain ⟨p63, e64, hf⟩ := hf
                refine z_cV1 C [.int y19, .ref (G.1 + 94)] (tX12_inside l G hL M61 v33 _ e64) lk_X12_inside ok_X12 (lay_c90 hL) q_ml_X12_240 rfl ⟨Nat.le_of_ble_eq_true rfl, Nat.le_of_ble_eq_true rfl⟩ rfl (Nat.le_of_ble_eq_true rfl) ⟨Nat.le_refl _, Nat.le_refl _⟩ dX12_together_180 ?_
                replace hf := gd_out hf
                obtain ⟨g65, hf⟩ := hf
                refine z_iast C (lay_c94 hL) (inb_in g65) dX12_together_183 ?_
                refine z_M (fun M66 e67 => ?_)
                replace hf := bnd_out e67 hf
                refine z_aload_n C 2 0 dX12_together_184 rfl rfl ?_
                replace hf := bd_out hf
                obtain ⟨p68, e69, hf⟩ := hf
                refine z_cV1 C [] (tX12_sum l G hL M66  _ e69) lk_X12_sum ok_X12 (lay_c90 hL) q_ml_X12_282 rfl ⟨Nat.le_of_ble_eq_true rfl, Nat.le_of_ble_eq_true rfl⟩ rfl (Nat.le_of_ble_eq_true rfl) ⟨Nat.le_refl _, Nat.le_refl _⟩ dX12_together_185 ?_
                refine z_istore C [(13, .int p68.1), (12, .int v33), (11, .int v31), (0, .ref (G.1 + 90)), (3, .int y18), (4, .int y19), (5, .int y20), (6, .int y21), (7, .int y22), (8, .int y23), (9, .int y24), (10, .int y25)] dX12_together_188 (by decide) rfl rfl ?_
                refine z_iload C 9 dX12_together_190 rfl ?_
                refine z_iconst C (-1) dX12_together_192 (by decide) ?_
                refine z_icmp_eq C 206 dX12_together_193 (by decide) (fun c70 => ?_) (fun c70 => ?_)
                · replace hf := ite_t c70 hf
                  refine z_lv (lv2 := [(0, .ref (G.1 + 90)), (3, .int y18), (4, .int y19), (5, .int y20), (6, .int y21), (7, .int y22), (10, .int y25), (13, .int p68.1)]) [3, 4, 5, 6, 7, 8, 11, 0] rfl ?_
                  refine wX12_together_j206 C hs0 hL _ pp ?_ p68.2 y18 y19 y20 y21 y22 y25 p68.1 hf
                  · intro M88 y89 y90 y91 y92 y93 y94 y95 y96 hf
                    exact ih M88 y89 y90 y91 y92 y93 y94 y95 y96  hf
                · replace hf := ite_f c70 hf
                  refine z_iload C 0 dX12_together_196 rfl ?_
                  refine z_iload C 10 dX12_together_198 rfl ?_
                  refine z_icmp_gt C 206 dX12_together_200 (by decide) (fun c97 => ?_) (fun c97 => ?_)
                  · replace hf := ite_t c97 hf
                    refine z_lv (lv2 := [(0, .ref (G.1 + 90)), (3, .int y18), (4, .int y19), (5, .int y20), (6, .int y21), (7, .int y22), (10, .int y25), (13, .int p68.1)]) [3, 4, 5, 6, 7, 8, 11, 0] rfl ?_
                    refine wX12_together_j206 C hs0 hL _ pp ?_ p68.2 y18 y19 y20 y21 y22 y25 p68.1 hf
                    · intro M98 y99 y100 y101 y102 y103 y104 y105 y106 hf
                      exact ih M98 y99 y100 y101 y102 y103 y104 y105 y106  hf
                  · replace hf := ite_f c97 hf
                    refine z_goto C 214 dX12_together_203 (by decide) ?_
                    refine z_iinc C 11 (y25 + 1) [(10, .int (y25 + 1)), (13, .int p68.1), (12, .int v33), (11, .int v31), (0, .ref (G.1 + 90)), (3, .int y18), (4, .int y19), (5, .int y20), (6, .int y21), (7, .int y22), (8, .int y23), (9, .int y24)] dX12_together_214 rfl rfl (by decide) rfl rfl ?_
                    refine z_goto C 60 dX12_together_217 (by decide) ?_
                    refine z_lv (lv2 := [(0, .ref (G.1 + 90)), (3, .int y18), (4, .int y19), (5, .int y20), (6, .int y21), (7, .int y22), (8, .int y23), (9, .int y24), (10, .int (y25 + 1))]) [4, 5, 6, 7, 8, 9, 10, 11, 0] rfl ?_
                    exact ih p68.2 y18 y19 y20 y21 y22 y23 y24 (y25 + 1)  hf
              · replace hf := ite_t c57 hf
                refine z_goto C 214 dX12_together_156 (by decide) ?_
                refine z_iinc C 10 (y25 + 1) [(10, .int (y25 + 1)), (12, .int v33), (11, .int v31), (0, .ref (G.1 + 90)), (3, .int y18), (4, .int y19), (5, .int y20), (6, .int y21), (7, .int y22), (8, .int y23), (9, .int y24)] dX12_together_214 rfl rfl (by decide) rfl rfl ?_
                refine z_goto C 60 dX12_together_217 (by decide) ?_
                refine z_lv (lv2 := [(0, .ref (G.1 + 90)), (3, .int y18), (4, .int y19), (5, .int y20), (6, .int y21), (7, .int y22), (8, .int y23), (9, .int y24), (10, .int (y25 + 1))]) [3, 4, 5, 6, 7, 8, 9, 10, 0] rfl ?_
                exact ih M39 y18 y19 y20 y21 y22 y23 y24 (y25 + 1)  hf
set_option maxHeartbeats 4000000 in
set_option maxRecDepth 100000 in
theorem tX12_together (l : Launch) (G : GG) {K : SK} (hL : Lay K) (M : MM) (x1 : Int32) (x2 : Int32) (x3 : Int32) (x4 : Int32) (x5 : Int32) (pp : (Int32 × MM)) (hf : fX12_together M x1 x2 x3 x4 x5 = some pp) : Ct l yX12_together cX12_together 14 (some .int) 5 0 0 G K M [.ref (G.1 + 90), .int x1, .int x2, .int x3, .int x4, .int x5] (some (.int pp.1)) K pp.2 := by
  refine z_enter (lv := [(0, .ref (G.1 + 90)), (1, .int x1), (2, .int x2), (3, .int x3), (4, .int x4), (5, .int x5)]) (by decide +kernel) (Nat.le_of_ble_eq_true rfl) rfl ?_
  intro p e s m args below meth c C hnm hs0
  replace C : CX p s m args meth c cX12_together 14 (some .int) RX12 G := C
  unfold fX12_together at hf
  refine z_aload_n C 0 0 dX12_together_0 rfl rfl ?_
  refine z_iload_n C 1 1 dX12_together_1 rfl rfl ?_
  refine z_iload_n C 2 2 dX12_together_2 rfl rfl ?_
  replace hf := bd_out hf
  obtain ⟨p1, e2, hf⟩ := hf
  refine z_cV1 C [] (tX12_areTold l G hL M x1 x2 _ e2) lk_X12_areTold ok_X12 (lay_c90 hL) q_ml_X12_279 rfl ⟨Nat.le_of_ble_eq_true rfl, Nat.le_of_ble_eq_true rfl⟩ rfl (Nat.le_of_ble_eq_true rfl) ⟨Nat.le_refl _, Nat.le_refl _⟩ dX12_together_3 ?_
  refine z_if_eq C 32 dX12_together_6 (by decide) (fun c3 => ?_) (fun c3 => ?_)
  · replace hf := ite_t c3 hf
    refine z_iconst C (-1) dX12_together_32 (by decide) ?_
    cases hf
    exact z_iret C rfl dX12_together_33
  · replace hf := ite_f c3 hf
    refine z_aload_n C 0 0 dX12_together_9 rfl rfl ?_
    refine z_iload_n C 3 3 dX12_together_10 rfl rfl ?_
    replace hf := bd_out hf
    obtain ⟨p4, e5, hf⟩ := hf
    refine z_cV1 C [] (tX12_isPerson l G hL p1.2 x3 _ e5) lk_X12_isPerson ok_X12 (lay_c90 hL) q_ml_X12_228 rfl ⟨Nat.le_of_ble_eq_true rfl, Nat.le_of_ble_eq_true rfl⟩ rfl (Nat.le_of_ble_eq_true rfl) ⟨Nat.le_refl _, Nat.le_refl _⟩ dX12_together_11 ?_
    refine z_if_eq C 32 dX12_together_14 (by decide) (fun c6 => ?_) (fun c6 => ?_)
    · replace hf := ite_t c6 hf
      refine z_iconst C (-1) dX12_together_32 (by decide) ?_
      cases hf
      exact z_iret C rfl dX12_together_33
    · replace hf := ite_f c6 hf
      refine z_aload_n C 0 0 dX12_together_17 rfl rfl ?_
      refine z_iload C 4 dX12_together_18 rfl ?_
      replace hf := bd_out hf
      obtain ⟨p7, e8, hf⟩ := hf
      refine z_cV1 C [] (tX12_isPerson l G hL p1.2 x4 _ e8) lk_X12_isPerson ok_X12 (lay_c90 hL) q_ml_X12_228 rfl ⟨Nat.le_of_ble_eq_true rfl, Nat.le_of_ble_eq_true rfl⟩ rfl (Nat.le_of_ble_eq_true rfl) ⟨Nat.le_refl _, Nat.le_refl _⟩ dX12_together_20 ?_
      refine z_if_eq C 32 dX12_together_23 (by decide) (fun c9 => ?_) (fun c9 => ?_)
      · replace hf := ite_t c9 hf
        refine z_iconst C (-1) dX12_together_32 (by decide) ?_
        cases hf
        exact z_iret C rfl dX12_together_33
      · replace hf := ite_f c9 hf
        refine z_iload_n C 3 3 dX12_together_26 rfl rfl ?_
        refine z_iload C 4 dX12_together_27 rfl ?_
        refine z_icmp_ne C 34 dX12_together_29 (by decide) (fun c10 => ?_) (fun c10 => ?_)
        · replace hf := ite_f c10 hf
          refine z_aload_n C 0 0 dX12_together_34 rfl rfl ?_
          refine z_getR C ok_X12 (lay_c90 hL) 15 (94) (by decide) rfl (lay_r90_15 hL) q_fl_X12_20 dX12_together_35 ?_
          refine z_iload_n C 3 3 dX12_together_38 rfl rfl ?_
          replace hf := gd_out hf
          obtain ⟨g11, hf⟩ := hf
          refine z_iald C (lay_c94 hL) (inb_in g11) dX12_together_39 ?_
          refine z_topi (fun v12 e13 => ?_)
          replace hf := bnd_out e13 hf
          refine z_istore C [(6, .int v12), (0, .ref (G.1 + 90)), (1, .int x1), (2, .int x2), (3, .int x3), (4, .int x4), (5, .int x5)] dX12_together_40 (by decide) rfl rfl ?_
          refine z_aload_n C 1 0 dX12_together_42 rfl rfl ?_
          refine z_getR C ok_X12 (lay_c90 hL) 15 (94) (by decide) rfl (lay_r90_15 hL) q_fl_X12_20 dX12_together_43 ?_
          refine z_iload C 5 dX12_together_46 rfl ?_
          replace hf := gd_out hf
          obtain ⟨g14, hf⟩ := hf
          refine z_iald C (lay_c94 hL) (inb_in g14) dX12_together_48 ?_
          refine z_topi (fun v15 e16 => ?_)
          replace hf := bnd_out e16 hf
          refine z_istore C [(7, .int v15), (6, .int v12), (0, .ref (G.1 + 90)), (1, .int x1), (2, .int x2), (3, .int x3), (4, .int x4), (5, .int x5)] dX12_together_49 (by decide) rfl rfl ?_
          refine z_iconst C (-1) dX12_together_51 (by decide) ?_
          refine z_istore C [(8, .int (-1)), (7, .int v15), (6, .int v12), (0, .ref (G.1 + 90)), (1, .int x1), (2, .int x2), (3, .int x3), (4, .int x4), (5, .int x5)] dX12_together_52 (by decide) rfl rfl ?_
          refine z_iconst C 0 dX12_together_54 (by decide) ?_
          refine z_istore C [(9, .int 0), (8, .int (-1)), (7, .int v15), (6, .int v12), (0, .ref (G.1 + 90)), (1, .int x1), (2, .int x2), (3, .int x3), (4, .int x4), (5, .int x5)] dX12_together_55 (by decide) rfl rfl ?_
          refine z_iconst C 0 dX12_together_57 (by decide) ?_
          refine z_istore C [(10, .int 0), (9, .int 0), (8, .int (-1)), (7, .int v15), (6, .int v12), (0, .ref (G.1 + 90)), (1, .int x1), (2, .int x2), (3, .int x3), (4, .int x4), (5, .int x5)] dX12_together_58 (by decide) rfl rfl ?_
          refine z_lv (lv2 := [(0, .ref (G.1 + 90)), (3, .int x3), (4, .int x4), (5, .int x5), (6, .int v12), (7, .int v15), (8, .int (-1)), (9, .int 0), (10, .int 0)]) [5, 8, 9, 10, 4, 3, 2, 1, 0] rfl ?_
          refine wX12_together_l60 C hs0 hL _ pp ?_ FU p1.2 x3 x4 x5 v12 v15 (-1) 0 0 hf
          · intro M107 y108 y109 y110 hf
            refine z_iload C 0 dX12_together_220 rfl ?_
            refine z_if_eq C 230 dX12_together_222 (by decide) (fun c111 => ?_) (fun c111 => ?_)
            · replace hf := ite_t c111 hf
              refine z_iload C 1 dX12_together_230 rfl ?_
              cases hf
              exact z_iret C rfl dX12_together_232
            · replace hf := ite_f c111 hf
              refine z_iload C 2 dX12_together_225 rfl ?_
              refine z_goto C 232 dX12_together_227 (by decide) ?_
              cases hf
              exact z_iret C rfl dX12_together_232
        · replace hf := ite_t c10 hf
          refine z_iconst C (-1) dX12_together_32 (by decide) ?_
          cases hf
          exact z_iret C rfl dX12_together_33
set_option maxHeartbeats 4000000 in
set_option maxRecDepth 100000 in
theorem wX12_turned_j65 (C : CX p s m args meth c cX12_turned 9 (some .int) RX12 G) (hs0 : s.heap.size = G.1 + K.1) (hL : Lay K)  (k28 : MM → Int32 → Int32 → Int32 → Int32 → Int32 → Option (Int32 × MM)) (pp : (Int32 × MM)) (hk28 : ∀ (M29 : MM) (y30 : Int32) (y31 : Int32) (y32 : Int32) (y33 : Int32) (y34 : Int32), k28 M29 y30 y31 y32 y33 y34 = some pp → Z p l e (rmo 5 0 0) s m args below meth c 9 G (MQ below (QC G (some (.int pp.1)) K pp.2) args s 0 0 (AG G)) K 0 0 M29 28 [(0, .ref (G.1 + 90)), (3, .int y30), (4, .int y31), (5, .int y32), (6, .int y33), (7, .int y34)] []) (M24 : MM) (y25 : Int32) (y26 : Int32) (y27 : Int32) (y28 : Int32) (hf : fX12_turned_j65 k28 M24 y25 y26 y27 y28 = some pp) : Z p l e (rmo 5 0 0) s m args below meth c 9 G (MQ below (QC G (some (.int pp.1)) K pp.2) args s 0 0 (AG G)) K 0 0 M24 65 [(0, .ref (G.1 + 90)), (3, .int y25), (4, .int y26), (7, .int y27), (8, .int y28)] [] := by
  unfold fX12_turned_j65 at hf
  refine z_iload C 3 dX12_turned_65 rfl ?_
  refine z_istore C [(5, .int y27), (0, .ref (G.1 + 90)), (3, .int y25), (4, .int y26), (7, .int y27), (8, .int y28)] dX12_turned_67 (by decide) rfl rfl ?_
  refine z_iload C 5 dX12_turned_69 rfl ?_
  refine z_istore C [(6, .int y28), (5, .int y27), (0, .ref (G.1 + 90)), (3, .int y25), (4, .int y26), (7, .int y27), (8, .int y28)] dX12_turned_71 (by decide) rfl rfl ?_
  refine z_iinc C 5 (y27 + 1) [(7, .int (y27 + 1)), (6, .int y28), (5, .int y27), (0, .ref (G.1 + 90)), (3, .int y25), (4, .int y26), (8, .int y28)] dX12_turned_73 rfl rfl (by decide) rfl rfl ?_
  refine z_goto C 28 dX12_turned_76 (by decide) ?_
  refine z_lv (lv2 := [(0, .ref (G.1 + 90)), (3, .int y25), (4, .int y26), (5, .int y27), (6, .int y28), (7, .int (y27 + 1))]) [3, 4, 5, 2, 1, 0] rfl ?_
  exact hk28 M24 y25 y26 y27 y28 (y27 + 1)  hf
set_option maxHeartbeats 4000000 in
set_option maxRecDepth 100000 in
theorem wX12_turned_l28 (C : CX p s m args meth c cX12_turned 9 (some .int) RX12 G) (hs0 : s.heap.size = G.1 + K.1) (hL : Lay K)  (k79 : MM → Int32 → Int32 → Int32 → Option (Int32 × MM)) (pp : (Int32 × MM)) (hk79 : ∀ (M14 : MM) (y15 : Int32) (y16 : Int32) (y17 : Int32), k79 M14 y15 y16 y17 = some pp → Z p l e (rmo 5 0 0) s m args below meth c 9 G (MQ below (QC G (some (.int pp.1)) K pp.2) args s 0 0 (AG G)) K 0 0 M14 79 [(4, .int y15), (5, .int y16), (6, .int y17)] []) : ∀ (n : Nat) (M7 : MM) (y8 : Int32) (y9 : Int32) (y10 : Int32) (y11 : Int32) (y12 : Int32) (hf : fX12_turned_l28 k79 n M7 y8 y9 y10 y11 y12 = some pp), Z p l e (rmo 5 0 0) s m args below meth c 9 G (MQ below (QC G (some (.int pp.1)) K pp.2) args s 0 0 (AG G)) K 0 0 M7 28 [(0, .ref (G.1 + 90)), (3, .int y8), (4, .int y9), (5, .int y10), (6, .int y11), (7, .int y12)] [] := by
  intro n
  induction n with
  | zero => intro M7 y8 y9 y10 y11 y12 hf; exact nomatch (show (none : Option (Int32 × MM)) = some pp from hf)
  | succ n ih =>
    intro M7 y8 y9 y10 y11 y12 hf
    rw [fX12_turned_l28.eq_2] at hf
    refine z_iload C 5 dX12_turned_28 rfl ?_
    refine z_bipush C 8 dX12_turned_30 (by decide) ?_
    refine z_icmp_ge C 79 dX12_turned_32 (by decide) (fun c13 => ?_) (fun c13 => ?_)
    · replace hf := ite_t c13 hf
      refine z_lv (lv2 := [(4, .int y9), (5, .int y10), (6, .int y11)]) [2, 3, 4] rfl ?_
      exact hk79 M7 y9 y10 y11  hf
    · replace hf := ite_f c13 hf
      refine z_aload_n C 0 0 dX12_turned_35 rfl rfl ?_
      refine z_getR C ok_X12 (lay_c90 hL) 19 (98) (by decide) rfl (lay_r90_19 hL) q_fl_X12_32 dX12_turned_36 ?_
      refine z_iload_n C 1 3 dX12_turned_39 rfl rfl ?_
      refine z_iload C 5 dX12_turned_40 rfl ?_
      replace hf := gd_out hf
      obtain ⟨g18, hf⟩ := hf
      refine z_iast C (lay_c98 hL) (inb_in g18) dX12_turned_42 ?_
      refine z_M (fun M19 e20 => ?_)
      replace hf := bnd_out e20 hf
      refine z_aload_n C 0 0 dX12_turned_43 rfl rfl ?_
      replace hf := bd_out hf
      obtain ⟨p21, e22, hf⟩ := hf
      refine z_cV1 C [] (tX12_sum l G hL M19  _ e22) lk_X12_sum ok_X12 (lay_c90 hL) q_ml_X12_282 rfl ⟨Nat.le_of_ble_eq_true rfl, Nat.le_of_ble_eq_true rfl⟩ rfl (Nat.le_of_ble_eq_true rfl) ⟨Nat.le_refl _, Nat.le_refl _⟩ dX12_turned_44 ?_
      refine z_istore C [(8, .int p21.1), (0, .ref (G.1 + 90)), (3, .int y8), (4, .int y9), (5, .int y10), (6, .int y11), (7, .int y12)] dX12_turned_47 (by decide) rfl rfl ?_
      refine z_iload C 4 dX12_turned_49 rfl ?_
      refine z_iconst C (-1) dX12_turned_51 (by decide) ?_
      refine z_icmp_eq C 65 dX12_turned_52 (by decide) (fun c23 => ?_) (fun c23 => ?_)
      · replace hf := ite_t c23 hf
        refine z_lv (lv2 := [(0, .ref (G.1 + 90)), (3, .int y8), (4, .int y9), (7, .int y12), (8, .int p21.1)]) [1, 2, 3, 6, 0] rfl ?_
        refine wX12_turned_j65 C hs0 hL _ pp ?_ p21.2 y8 y9 y12 p21.1 hf
        · intro M35 y36 y37 y38 y39 y40 hf
          exact ih M35 y36 y37 y38 y39 y40  hf
      · replace hf := ite_f c23 hf
        refine z_iload C 0 dX12_turned_55 rfl ?_
        refine z_iload C 5 dX12_turned_57 rfl ?_
        refine z_icmp_gt C 65 dX12_turned_59 (by decide) (fun c41 => ?_) (fun c41 => ?_)
        · replace hf := ite_t c41 hf
          refine z_lv (lv2 := [(0, .ref (G.1 + 90)), (3, .int y8), (4, .int y9), (7, .int y12), (8, .int p21.1)]) [1, 2, 3, 6, 0] rfl ?_
          refine wX12_turned_j65 C hs0 hL _ pp ?_ p21.2 y8 y9 y12 p21.1 hf
          · intro M42 y43 y44 y45 y46 y47 hf
            exact ih M42 y43 y44 y45 y46 y47  hf
        · replace hf := ite_f c41 hf
          refine z_goto C 73 dX12_turned_62 (by decide) ?_
          refine z_iinc C 6 (y12 + 1) [(7, .int (y12 + 1)), (8, .int p21.1), (0, .ref (G.1 + 90)), (3, .int y8), (4, .int y9), (5, .int y10), (6, .int y11)] dX12_turned_73 rfl rfl (by decide) rfl rfl ?_
          refine z_goto C 28 dX12_turned_76 (by decide) ?_
          refine z_lv (lv2 := [(0, .ref (G.1 + 90)), (3, .int y8), (4, .int y9), (5, .int y10), (6, .int y11), (7, .int (y12 + 1))]) [2, 3, 4, 5, 6, 0] rfl ?_
          exact ih p21.2 y8 y9 y10 y11 (y12 + 1)  hf
set_option maxHeartbeats 4000000 in
set_option maxRecDepth 100000 in
theorem tX12_turned (l : Launch) (G : GG) {K : SK} (hL : Lay K) (M : MM) (x1 : Int32) (x2 : Int32) (x3 : Int32) (x4 : Int32) (pp : (Int32 × MM)) (hf : fX12_turned M x1 x2 x3 x4 = some pp) : Ct l yX12_turned cX12_turned 9 (some .int) 5 0 0 G K M [.ref (G.1 + 90), .int x1, .int x2, .int x3, .int x4] (some (.int pp.1)) K pp.2 := by
  refine z_enter (lv := [(0, .ref (G.1 + 90)), (1, .int x1), (2, .int x2), (3, .int x3), (4, .int x4)]) (by decide +kernel) (Nat.le_of_ble_eq_true rfl) rfl ?_
  intro p e s m args below meth c C hnm hs0
  replace C : CX p s m args meth c cX12_turned 9 (some .int) RX12 G := C
  unfold fX12_turned at hf
  refine z_aload_n C 0 0 dX12_turned_0 rfl rfl ?_
  refine z_iload_n C 1 1 dX12_turned_1 rfl rfl ?_
  refine z_iload_n C 2 2 dX12_turned_2 rfl rfl ?_
  replace hf := bd_out hf
  obtain ⟨p1, e2, hf⟩ := hf
  refine z_cV1 C [] (tX12_areTold l G hL M x1 x2 _ e2) lk_X12_areTold ok_X12 (lay_c90 hL) q_ml_X12_279 rfl ⟨Nat.le_of_ble_eq_true rfl, Nat.le_of_ble_eq_true rfl⟩ rfl (Nat.le_of_ble_eq_true rfl) ⟨Nat.le_refl _, Nat.le_refl _⟩ dX12_turned_3 ?_
  refine z_if_eq C 17 dX12_turned_6 (by decide) (fun c3 => ?_) (fun c3 => ?_)
  · replace hf := ite_t c3 hf
    refine z_iconst C (-1) dX12_turned_17 (by decide) ?_
    cases hf
    exact z_iret C rfl dX12_turned_18
  · replace hf := ite_f c3 hf
    refine z_aload_n C 0 0 dX12_turned_9 rfl rfl ?_
    refine z_iload_n C 3 3 dX12_turned_10 rfl rfl ?_
    replace hf := bd_out hf
    obtain ⟨p4, e5, hf⟩ := hf
    refine z_cV1 C [] (tX12_isShine l G hL p1.2 x3 _ e5) lk_X12_isShine ok_X12 (lay_c90 hL) q_ml_X12_234 rfl ⟨Nat.le_of_ble_eq_true rfl, Nat.le_of_ble_eq_true rfl⟩ rfl (Nat.le_of_ble_eq_true rfl) ⟨Nat.le_refl _, Nat.le_refl _⟩ dX12_turned_11 ?_
    refine z_if_ne C 19 dX12_turned_14 (by decide) (fun c6 => ?_) (fun c6 => ?_)
    · replace hf := ite_f c6 hf
      refine z_iconst C (-1) dX12_turned_19 (by decide) ?_
      refine z_istore C [(5, .int (-1)), (0, .ref (G.1 + 90)), (1, .int x1), (2, .int x2), (3, .int x3), (4, .int x4)] dX12_turned_20 (by decide) rfl rfl ?_
      refine z_iconst C 0 dX12_turned_22 (by decide) ?_
      refine z_istore C [(6, .int 0), (5, .int (-1)), (0, .ref (G.1 + 90)), (1, .int x1), (2, .int x2), (3, .int x3), (4, .int x4)] dX12_turned_23 (by decide) rfl rfl ?_
      refine z_iconst C 0 dX12_turned_25 (by decide) ?_
      refine z_istore C [(7, .int 0), (6, .int 0), (5, .int (-1)), (0, .ref (G.1 + 90)), (1, .int x1), (2, .int x2), (3, .int x3), (4, .int x4)] dX12_turned_26 (by decide) rfl rfl ?_
      refine z_lv (lv2 := [(0, .ref (G.1 + 90)), (3, .int x3), (4, .int x4), (5, .int (-1)), (6, .int 0), (7, .int 0)]) [3, 6, 7, 2, 1, 0] rfl ?_
      refine wX12_turned_l28 C hs0 hL _ pp ?_ FU p1.2 x3 x4 (-1) 0 0 hf
      · intro M48 y49 y50 y51 hf
        refine z_iload C 0 dX12_turned_79 rfl ?_
        refine z_if_eq C 89 dX12_turned_81 (by decide) (fun c52 => ?_) (fun c52 => ?_)
        · replace hf := ite_t c52 hf
          refine z_iload C 1 dX12_turned_89 rfl ?_
          cases hf
          exact z_iret C rfl dX12_turned_91
        · replace hf := ite_f c52 hf
          refine z_iload C 2 dX12_turned_84 rfl ?_
          refine z_goto C 91 dX12_turned_86 (by decide) ?_
          cases hf
          exact z_iret C rfl dX12_turned_91
    · replace hf := ite_t c6 hf
      refine z_iconst C (-1) dX12_turned_17 (by decide) ?_
      cases hf
      exact z_iret C rfl dX12_turned_18
set_option maxHeartbeats 4000000 in
set_option maxRecDepth 100000 in
theorem wX12_spoon_j166 (C : CX p s m args meth c cX12_spoon 9 (some .int) RX12 G) (hs0 : s.heap.size = G.1 + K.1) (hL : Lay K)  (k44 : MM → Int32 → Int32 → Int32 → Int32 → Int32 → Int32 → Option (Int32 × MM)) (pp : (Int32 × MM)) (hk44 : ∀ (M59 : MM) (y60 : Int32) (y61 : Int32) (y62 : Int32) (y63 : Int32) (y64 : Int32) (y65 : Int32), k44 M59 y60 y61 y62 y63 y64 y65 = some pp → Z p l e (rmo 6 0 0) s m args below meth c 9 G (MQ below (QC G (some (.int pp.1)) K pp.2) args s 0 0 (AG G)) K 0 0 M59 44 [(0, .ref (G.1 + 90)), (3, .int y60), (4, .int y61), (5, .int y62), (6, .int y63), (7, .int y64), (8, .int y65)] []) (M51 : MM) (y52 : Int32) (y53 : Int32) (y54 : Int32) (y55 : Int32) (hf : fX12_spoon_j166 k44 M51 y52 y53 y54 y55 = some pp) : Z p l e (rmo 6 0 0) s m args below meth c 9 G (MQ below (QC G (some (.int pp.1)) K pp.2) args s 0 0 (AG G)) K 0 0 M51 166 [(0, .ref (G.1 + 90)), (3, .int y52), (4, .int y53), (7, .int y54), (8, .int y55)] [] := by
  unfold fX12_spoon_j166 at hf
  refine z_iload C 4 dX12_spoon_166 rfl ?_
  refine z_istore C [(5, .int y55), (0, .ref (G.1 + 90)), (3, .int y52), (4, .int y53), (7, .int y54), (8, .int y55)] dX12_spoon_168 (by decide) rfl rfl ?_
  refine z_aload_n C 1 0 dX12_spoon_170 rfl rfl ?_
  refine z_getR C ok_X12 (lay_c90 hL) 29 (105) (by decide) rfl (lay_r90_29 hL) q_fl_X12_53 dX12_spoon_171 ?_
  refine z_iload_n C 2 3 dX12_spoon_174 rfl rfl ?_
  replace hf := gd_out hf
  obtain ⟨g56, hf⟩ := hf
  refine z_iald C (lay_c105 hL) (inb_in g56) dX12_spoon_175 ?_
  refine z_topi (fun v57 e58 => ?_)
  replace hf := bnd_out e58 hf
  refine z_istore C [(6, .int v57), (5, .int y55), (0, .ref (G.1 + 90)), (3, .int y52), (4, .int y53), (7, .int y54), (8, .int y55)] dX12_spoon_176 (by decide) rfl rfl ?_
  refine z_iinc C 6 (y55 + 1) [(8, .int (y55 + 1)), (6, .int v57), (5, .int y55), (0, .ref (G.1 + 90)), (3, .int y52), (4, .int y53), (7, .int y54)] dX12_spoon_178 rfl rfl (by decide) rfl rfl ?_
  refine z_goto C 44 dX12_spoon_181 (by decide) ?_
  refine z_lv (lv2 := [(0, .ref (G.1 + 90)), (3, .int y52), (4, .int y53), (5, .int y55), (6, .int v57), (7, .int y54), (8, .int (y55 + 1))]) [3, 4, 5, 2, 1, 6, 0] rfl ?_
  exact hk44 M51 y52 y53 y55 v57 y54 (y55 + 1)  hf
set_option maxHeartbeats 4000000 in
set_option maxRecDepth 100000 in
theorem wX12_spoon_l44 (C : CX p s m args meth c cX12_spoon 9 (some .int) RX12 G) (hs0 : s.heap.size = G.1 + K.1) (hL : Lay K)  (k184 : MM → Int32 → Int32 → Int32 → Option (Int32 × MM)) (pp : (Int32 × MM)) (hk184 : ∀ (M18 : MM) (y19 : Int32) (y20 : Int32) (y21 : Int32), k184 M18 y19 y20 y21 = some pp → Z p l e (rmo 6 0 0) s m args below meth c 9 G (MQ below (QC G (some (.int pp.1)) K pp.2) args s 0 0 (AG G)) K 0 0 M18 184 [(4, .int y19), (5, .int y20), (6, .int y21)] []) : ∀ (n : Nat) (M8 : MM) (y9 : Int32) (y10 : Int32) (y11 : Int32) (y12 : Int32) (y13 : Int32) (y14 : Int32) (hf : fX12_spoon_l44 k184 n M8 y9 y10 y11 y12 y13 y14 = some pp), Z p l e (rmo 6 0 0) s m args below meth c 9 G (MQ below (QC G (some (.int pp.1)) K pp.2) args s 0 0 (AG G)) K 0 0 M8 44 [(0, .ref (G.1 + 90)), (3, .int y9), (4, .int y10), (5, .int y11), (6, .int y12), (7, .int y13), (8, .int y14)] [] := by
  intro n
  induction n with
  | zero => intro M8 y9 y10 y11 y12 y13 y14 hf; exact nomatch (show (none : Option (Int32 × MM)) = some pp from hf)
  | succ n ih =>
    intro M8 y9 y10 y11 y12 y13 y14 hf
    rw [fX12_spoon_l44.eq_2] at hf
    refine z_aload_n C 0 0 dX12_spoon_44 rfl rfl ?_
    refine z_iload C 6 dX12_spoon_45 rfl ?_
    refine z_bipush C 8 dX12_spoon_47 (by decide) ?_
    refine z_idiv C (by decide) dX12_spoon_49 ?_
    replace hf := bd_out hf
    obtain ⟨p15, e16, hf⟩ := hf
    refine z_cV1 C [] (tX12_isSquare l G hL M8 (y14 / 8) _ e16) lk_X12_isSquare ok_X12 (lay_c90 hL) q_ml_X12_237 rfl ⟨Nat.le_of_ble_eq_true rfl, Nat.le_of_ble_eq_true rfl⟩ rfl (Nat.le_of_ble_eq_true rfl) ⟨Nat.le_refl _, Nat.le_refl _⟩ dX12_spoon_50 ?_
    refine z_if_eq C 184 dX12_spoon_53 (by decide) (fun c17 => ?_) (fun c17 => ?_)
    · replace hf := ite_t c17 hf
      refine z_lv (lv2 := [(4, .int y10), (5, .int y11), (6, .int y12)]) [2, 3, 4] rfl ?_
      exact hk184 M8 y10 y11 y12  hf
    · replace hf := ite_f c17 hf
      refine z_aload_n C 0 0 dX12_spoon_56 rfl rfl ?_
      refine z_iload C 5 dX12_spoon_57 rfl ?_
      refine z_putI C ok_X12 (lay_c90 hL) 14 (by decide) rfl rfl rfl rfl q_fl_X12_216 dX12_spoon_59 ?_
      refine z_M (fun M22 e23 => ?_)
      replace hf := bnd_out e23 hf
      refine z_aload_n C 0 0 dX12_spoon_62 rfl rfl ?_
      refine z_aload_n C 0 0 dX12_spoon_63 rfl rfl ?_
      refine z_iload C 6 dX12_spoon_64 rfl ?_
      refine z_bipush C 8 dX12_spoon_66 (by decide) ?_
      refine z_idiv C (by decide) dX12_spoon_68 ?_
      replace hf := bd_out hf
      obtain ⟨p24, e25, hf⟩ := hf
      refine z_cV1 C [.ref (G.1 + 90)] (tX12_inside l G hL M22 (y14 / 8) _ e25) lk_X12_inside ok_X12 (lay_c90 hL) q_ml_X12_240 rfl ⟨Nat.le_of_ble_eq_true rfl, Nat.le_of_ble_eq_true rfl⟩ rfl (Nat.le_of_ble_eq_true rfl) ⟨Nat.le_refl _, Nat.le_refl _⟩ dX12_spoon_69 ?_
      replace hf := bd_out hf
      obtain ⟨p26, e27, hf⟩ := hf
      refine z_cV1 C [] (tX12_on l G hL M22 p24 _ e27) lk_X12_on ok_X12 (lay_c90 hL) q_ml_X12_243 rfl ⟨Nat.le_of_ble_eq_true rfl, Nat.le_of_ble_eq_true rfl⟩ rfl (Nat.le_of_ble_eq_true rfl) ⟨Nat.le_refl _, Nat.le_refl _⟩ dX12_spoon_72 ?_
      refine z_if_eq C 81 dX12_spoon_75 (by decide) (fun c28 => ?_) (fun c28 => ?_)
      · replace hf := ite_t c28 hf
        refine z_aload_n C 0 0 dX12_spoon_81 rfl rfl ?_
        refine z_getR C ok_X12 (lay_c90 hL) 17 (96) (by decide) rfl (lay_r90_17 hL) q_fl_X12_26 dX12_spoon_82 ?_
        refine z_iload C 5 dX12_spoon_85 rfl ?_
        refine z_iconst C 1 dX12_spoon_87 (by decide) ?_
        replace hf := gd_out hf
        obtain ⟨g29, hf⟩ := hf
        refine z_iast C (lay_c96 hL) (inb_in g29) dX12_spoon_88 ?_
        refine z_M (fun M30 e31 => ?_)
        replace hf := bnd_out e31 hf
        refine z_aload_n C 0 0 dX12_spoon_89 rfl rfl ?_
        refine z_getR C ok_X12 (lay_c90 hL) 18 (97) (by decide) rfl (lay_r90_18 hL) q_fl_X12_29 dX12_spoon_90 ?_
        refine z_iload C 5 dX12_spoon_93 rfl ?_
        refine z_aload_n C 0 0 dX12_spoon_95 rfl rfl ?_
        refine z_iload C 6 dX12_spoon_96 rfl ?_
        refine z_bipush C 8 dX12_spoon_98 (by decide) ?_
        refine z_idiv C (by decide) dX12_spoon_100 ?_
        replace hf := bd_out hf
        obtain ⟨p32, e33, hf⟩ := hf
        refine z_cV1 C [.int y13, .ref (G.1 + 97)] (tX12_inside l G hL M30 (y14 / 8) _ e33) lk_X12_inside ok_X12 (lay_c90 hL) q_ml_X12_240 rfl ⟨Nat.le_of_ble_eq_true rfl, Nat.le_of_ble_eq_true rfl⟩ rfl (Nat.le_of_ble_eq_true rfl) ⟨Nat.le_refl _, Nat.le_refl _⟩ dX12_spoon_101 ?_
        replace hf := gd_out hf
        obtain ⟨g34, hf⟩ := hf
        refine z_iast C (lay_c97 hL) (inb_in g34) dX12_spoon_104 ?_
        refine z_M (fun M35 e36 => ?_)
        replace hf := bnd_out e36 hf
        refine z_aload_n C 0 0 dX12_spoon_105 rfl rfl ?_
        refine z_getR C ok_X12 (lay_c90 hL) 19 (98) (by decide) rfl (lay_r90_19 hL) q_fl_X12_32 dX12_spoon_106 ?_
        refine z_iload C 5 dX12_spoon_109 rfl ?_
        refine z_iload C 6 dX12_spoon_111 rfl ?_
        refine z_bipush C 8 dX12_spoon_113 (by decide) ?_
        refine z_irem C (by decide) dX12_spoon_115 ?_
        replace hf := gd_out hf
        obtain ⟨g37, hf⟩ := hf
        refine z_iast C (lay_c98 hL) (inb_in g37) dX12_spoon_116 ?_
        refine z_M (fun M38 e39 => ?_)
        replace hf := bnd_out e39 hf
        refine z_aload_n C 0 0 dX12_spoon_117 rfl rfl ?_
        refine z_getR C ok_X12 (lay_c90 hL) 20 (99) (by decide) rfl (lay_r90_20 hL) q_fl_X12_35 dX12_spoon_118 ?_
        refine z_iload C 5 dX12_spoon_121 rfl ?_
        refine z_bipush C 9 dX12_spoon_123 (by decide) ?_
        replace hf := gd_out hf
        obtain ⟨g40, hf⟩ := hf
        refine z_iast C (lay_c99 hL) (inb_in g40) dX12_spoon_125 ?_
        refine z_M (fun M41 e42 => ?_)
        replace hf := bnd_out e42 hf
        refine z_aload_n C 0 0 dX12_spoon_126 rfl rfl ?_
        refine z_getR C ok_X12 (lay_c90 hL) 21 (100) (by decide) rfl (lay_r90_21 hL) q_fl_X12_38 dX12_spoon_127 ?_
        refine z_iload C 5 dX12_spoon_130 rfl ?_
        refine z_iload_n C 1 3 dX12_spoon_132 rfl rfl ?_
        replace hf := gd_out hf
        obtain ⟨g43, hf⟩ := hf
        refine z_iast C (lay_c100 hL) (inb_in g43) dX12_spoon_133 ?_
        refine z_M (fun M44 e45 => ?_)
        replace hf := bnd_out e45 hf
        refine z_aload_n C 0 0 dX12_spoon_134 rfl rfl ?_
        refine z_iload C 5 dX12_spoon_135 rfl ?_
        refine z_iconst C 1 dX12_spoon_137 (by decide) ?_
        refine z_iadd C dX12_spoon_138 ?_
        refine z_putI C ok_X12 (lay_c90 hL) 14 (by decide) rfl rfl rfl rfl q_fl_X12_216 dX12_spoon_139 ?_
        refine z_M (fun M46 e47 => ?_)
        replace hf := bnd_out e47 hf
        refine z_aload_n C 0 0 dX12_spoon_142 rfl rfl ?_
        replace hf := bd_out hf
        obtain ⟨p48, e49, hf⟩ := hf
        refine z_cV0 C [] (tX12_gives l G hL M46  _ e49) lk_X12_gives ok_X12 (lay_c90 hL) q_ml_X12_291 rfl ⟨Nat.le_of_ble_eq_true rfl, Nat.le_of_ble_eq_true rfl⟩ rfl (Nat.le_of_ble_eq_true rfl) ⟨Nat.le_refl _, Nat.le_refl _⟩ dX12_spoon_143 ?_
        refine z_iload C 3 dX12_spoon_146 rfl ?_
        refine z_iconst C (-1) dX12_spoon_148 (by decide) ?_
        refine z_icmp_eq C 166 dX12_spoon_149 (by decide) (fun c50 => ?_) (fun c50 => ?_)
        · replace hf := ite_t c50 hf
          refine z_lv (lv2 := [(0, .ref (G.1 + 90)), (3, .int y9), (4, .int y10), (7, .int y13), (8, .int y14)]) [0, 1, 2, 5, 6] rfl ?_
          refine wX12_spoon_j166 C hs0 hL _ pp ?_ p48 y9 y10 y13 y14 hf
          · intro M66 y67 y68 y69 y70 y71 y72 hf
            exact ih M66 y67 y68 y69 y70 y71 y72  hf
        · replace hf := ite_f c50 hf
          refine z_aload_n C 0 0 dX12_spoon_152 rfl rfl ?_
          refine z_getR C ok_X12 (lay_c90 hL) 29 (105) (by decide) rfl (lay_r90_29 hL) q_fl_X12_53 dX12_spoon_153 ?_
          refine z_iload_n C 1 3 dX12_spoon_156 rfl rfl ?_
          replace hf := gd_out hf
          obtain ⟨g73, hf⟩ := hf
          refine z_iald C (lay_c105 hL) (inb_in g73) dX12_spoon_157 ?_
          refine z_iload C 4 dX12_spoon_158 rfl ?_
          refine z_icmp_gt C 166 dX12_spoon_160 (by decide) (fun c74 => ?_) (fun c74 => ?_)
          · replace hf := ite_t c74 hf
            refine z_lv (lv2 := [(0, .ref (G.1 + 90)), (3, .int y9), (4, .int y10), (7, .int y13), (8, .int y14)]) [0, 1, 2, 5, 6] rfl ?_
            refine wX12_spoon_j166 C hs0 hL _ pp ?_ p48 y9 y10 y13 y14 hf
            · intro M75 y76 y77 y78 y79 y80 y81 hf
              exact ih M75 y76 y77 y78 y79 y80 y81  hf
          · replace hf := ite_f c74 hf
            refine z_goto C 178 dX12_spoon_163 (by decide) ?_
            refine z_iinc C 6 (y14 + 1) [(8, .int (y14 + 1)), (0, .ref (G.1 + 90)), (3, .int y9), (4, .int y10), (5, .int y11), (6, .int y12), (7, .int y13)] dX12_spoon_178 rfl rfl (by decide) rfl rfl ?_
            refine z_goto C 44 dX12_spoon_181 (by decide) ?_
            refine z_lv (lv2 := [(0, .ref (G.1 + 90)), (3, .int y9), (4, .int y10), (5, .int y11), (6, .int y12), (7, .int y13), (8, .int (y14 + 1))]) [1, 2, 3, 4, 5, 6, 0] rfl ?_
            exact ih p48 y9 y10 y11 y12 y13 (y14 + 1)  hf
      · replace hf := ite_f c28 hf
        refine z_goto C 178 dX12_spoon_78 (by decide) ?_
        refine z_iinc C 6 (y14 + 1) [(8, .int (y14 + 1)), (0, .ref (G.1 + 90)), (3, .int y9), (4, .int y10), (5, .int y11), (6, .int y12), (7, .int y13)] dX12_spoon_178 rfl rfl (by decide) rfl rfl ?_
        refine z_goto C 44 dX12_spoon_181 (by decide) ?_
        refine z_lv (lv2 := [(0, .ref (G.1 + 90)), (3, .int y9), (4, .int y10), (5, .int y11), (6, .int y12), (7, .int y13), (8, .int (y14 + 1))]) [1, 2, 3, 4, 5, 6, 0] rfl ?_
        exact ih M22 y9 y10 y11 y12 y13 (y14 + 1)  hf
set_option maxHeartbeats 4000000 in
set_option maxRecDepth 100000 in
theorem tX12_spoon (l : Launch) (G : GG) {K : SK} (hL : Lay K) (M : MM) (x1 : Int32) (x2 : Int32) (x3 : Int32) (x4 : Int32) (pp : (Int32 × MM)) (hf : fX12_spoon M x1 x2 x3 x4 = some pp) : Ct l yX12_spoon cX12_spoon 9 (some .int) 6 0 0 G K M [.ref (G.1 + 90), .int x1, .int x2, .int x3, .int x4] (some (.int pp.1)) K pp.2 := by
  refine z_enter (lv := [(0, .ref (G.1 + 90)), (1, .int x1), (2, .int x2), (3, .int x3), (4, .int x4)]) (by decide +kernel) (Nat.le_of_ble_eq_true rfl) rfl ?_
  intro p e s m args below meth c C hnm hs0
  replace C : CX p s m args meth c cX12_spoon 9 (some .int) RX12 G := C
  unfold fX12_spoon at hf
  refine z_aload_n C 0 0 dX12_spoon_0 rfl rfl ?_
  refine z_iload_n C 1 1 dX12_spoon_1 rfl rfl ?_
  refine z_iload_n C 2 2 dX12_spoon_2 rfl rfl ?_
  replace hf := bd_out hf
  obtain ⟨p1, e2, hf⟩ := hf
  refine z_cV1 C [] (tX12_areTold l G hL M x1 x2 _ e2) lk_X12_areTold ok_X12 (lay_c90 hL) q_ml_X12_279 rfl ⟨Nat.le_of_ble_eq_true rfl, Nat.le_of_ble_eq_true rfl⟩ rfl (Nat.le_of_ble_eq_true rfl) ⟨Nat.le_refl _, Nat.le_refl _⟩ dX12_spoon_3 ?_
  refine z_if_eq C 27 dX12_spoon_6 (by decide) (fun c3 => ?_) (fun c3 => ?_)
  · replace hf := ite_t c3 hf
    refine z_iconst C (-1) dX12_spoon_27 (by decide) ?_
    cases hf
    exact z_iret C rfl dX12_spoon_28
  · replace hf := ite_f c3 hf
    refine z_iload_n C 3 3 dX12_spoon_9 rfl rfl ?_
    refine z_iconst C 0 dX12_spoon_10 (by decide) ?_
    refine z_iconst C 3 dX12_spoon_11 (by decide) ?_
    refine z_cS1 C [] (tX12_isIn l G hL p1.2 x3 0 3) lk_X12_isIn q_ml_X12_141 rfl ⟨Nat.le_of_ble_eq_true rfl, Nat.le_of_ble_eq_true rfl⟩ rfl (Nat.le_of_ble_eq_true rfl) ⟨Nat.le_refl _, Nat.le_refl _⟩ dX12_spoon_12 ?_
    refine z_if_eq C 27 dX12_spoon_15 (by decide) (fun c4 => ?_) (fun c4 => ?_)
    · replace hf := ite_t c4 hf
      refine z_iconst C (-1) dX12_spoon_27 (by decide) ?_
      cases hf
      exact z_iret C rfl dX12_spoon_28
    · replace hf := ite_f c4 hf
      refine z_aload_n C 0 0 dX12_spoon_18 rfl rfl ?_
      refine z_getI C ok_X12 (lay_c90 hL) 14 (by decide) rfl q_fl_X12_216 dX12_spoon_19 ?_
      refine z_bipush C 8 dX12_spoon_22 (by decide) ?_
      refine z_icmp_ne C 29 dX12_spoon_24 (by decide) (fun c5 => ?_) (fun c5 => ?_)
      · replace hf := ite_f c5 hf
        refine z_iconst C (-1) dX12_spoon_29 (by decide) ?_
        refine z_istore C [(5, .int (-1)), (0, .ref (G.1 + 90)), (1, .int x1), (2, .int x2), (3, .int x3), (4, .int x4)] dX12_spoon_30 (by decide) rfl rfl ?_
        refine z_iconst C 0 dX12_spoon_32 (by decide) ?_
        refine z_istore C [(6, .int 0), (5, .int (-1)), (0, .ref (G.1 + 90)), (1, .int x1), (2, .int x2), (3, .int x3), (4, .int x4)] dX12_spoon_33 (by decide) rfl rfl ?_
        refine z_aload_n C 2 0 dX12_spoon_35 rfl rfl ?_
        refine z_getI C ok_X12 (lay_c90 hL) 14 (by decide) rfl q_fl_X12_216 dX12_spoon_36 ?_
        refine z_topi (fun v6 e7 => ?_)
        replace hf := bnd_out e7 hf
        refine z_istore C [(7, .int v6), (6, .int 0), (5, .int (-1)), (0, .ref (G.1 + 90)), (1, .int x1), (2, .int x2), (3, .int x3), (4, .int x4)] dX12_spoon_39 (by decide) rfl rfl ?_
        refine z_iconst C 0 dX12_spoon_41 (by decide) ?_
        refine z_istore C [(8, .int 0), (7, .int v6), (6, .int 0), (5, .int (-1)), (0, .ref (G.1 + 90)), (1, .int x1), (2, .int x2), (3, .int x3), (4, .int x4)] dX12_spoon_42 (by decide) rfl rfl ?_
        refine z_lv (lv2 := [(0, .ref (G.1 + 90)), (3, .int x3), (4, .int x4), (5, .int (-1)), (6, .int 0), (7, .int v6), (8, .int 0)]) [4, 7, 8, 3, 2, 1, 0] rfl ?_
        refine wX12_spoon_l44 C hs0 hL _ pp ?_ FU p1.2 x3 x4 (-1) 0 v6 0 hf
        · intro M82 y83 y84 y85 hf
          refine z_iload C 1 dX12_spoon_184 rfl ?_
          refine z_iconst C (-1) dX12_spoon_186 (by decide) ?_
          refine z_icmp_eq C 195 dX12_spoon_187 (by decide) (fun c86 => ?_) (fun c86 => ?_)
          · replace hf := ite_t c86 hf
            refine z_iload C 1 dX12_spoon_195 rfl ?_
            refine z_goto C 202 dX12_spoon_197 (by decide) ?_
            cases hf
            exact z_iret C rfl dX12_spoon_202
          · replace hf := ite_f c86 hf
            refine z_iload C 0 dX12_spoon_190 rfl ?_
            refine z_if_ne C 200 dX12_spoon_192 (by decide) (fun c87 => ?_) (fun c87 => ?_)
            · replace hf := ite_f c87 hf
              refine z_iload C 2 dX12_spoon_200 rfl ?_
              cases hf
              exact z_iret C rfl dX12_spoon_202
            · replace hf := ite_t c87 hf
              refine z_iload C 1 dX12_spoon_195 rfl ?_
              refine z_goto C 202 dX12_spoon_197 (by decide) ?_
              cases hf
              exact z_iret C rfl dX12_spoon_202
      · replace hf := ite_t c5 hf
        refine z_iconst C (-1) dX12_spoon_27 (by decide) ?_
        cases hf
        exact z_iret C rfl dX12_spoon_28
set_option maxHeartbeats 4000000 in
set_option maxRecDepth 100000 in
theorem wX12_leastOf_l2 (C : CX p s m args meth c cX12_leastOf 3 (some .int) RX12 G) (hs0 : s.heap.size = G.1 + K.1) (hL : Lay K) (M : MM)  (pp : Int32)  : ∀ (n : Nat) (y1 : Int32) (y2 : Int32) (hf : fX12_leastOf_l2 M n y1 y2 = some pp), Z p l e (rmo 0 0 0) s m args below meth c 3 G (MQ below (QC G (some (.int pp)) K M) args s 0 0 (AG G)) K 0 0 M 2 [(0, .ref (G.1 + 90)), (1, .int y1), (2, .int y2)] [] := by
  intro n
  induction n with
  | zero => intro y1 y2 hf; exact nomatch (show (none : Option Int32) = some pp from hf)
  | succ n ih =>
    intro y1 y2 hf
    rw [fX12_leastOf_l2.eq_2] at hf
    refine z_iload_n C 2 2 dX12_leastOf_2 rfl rfl ?_
    refine z_aload_n C 0 0 dX12_leastOf_3 rfl rfl ?_
    refine z_getI C ok_X12 (lay_c90 hL) 14 (by decide) rfl q_fl_X12_216 dX12_leastOf_4 ?_
    refine z_icmp_ge C 28 dX12_leastOf_7 (by decide) (fun c3 => ?_) (fun c3 => ?_)
    · replace hf := ite_t c3 hf
      refine z_iconst C (-1) dX12_leastOf_28 (by decide) ?_
      cases hf
      exact z_iret C rfl dX12_leastOf_29
    · replace hf := ite_f c3 hf
      refine z_aload_n C 0 0 dX12_leastOf_10 rfl rfl ?_
      refine z_getR C ok_X12 (lay_c90 hL) 21 (100) (by decide) rfl (lay_r90_21 hL) q_fl_X12_38 dX12_leastOf_11 ?_
      refine z_iload_n C 2 2 dX12_leastOf_14 rfl rfl ?_
      replace hf := gd_out hf
      obtain ⟨g4, hf⟩ := hf
      refine z_iald C (lay_c100 hL) (inb_in g4) dX12_leastOf_15 ?_
      refine z_iload_n C 1 1 dX12_leastOf_16 rfl rfl ?_
      refine z_icmp_ne C 22 dX12_leastOf_17 (by decide) (fun c5 => ?_) (fun c5 => ?_)
      · replace hf := ite_f c5 hf
        refine z_iinc C 2 (y2 + 1) [(2, .int (y2 + 1)), (0, .ref (G.1 + 90)), (1, .int y1)] dX12_leastOf_22 rfl rfl (by decide) rfl rfl ?_
        refine z_goto C 2 dX12_leastOf_25 (by decide) ?_
        refine z_lv (lv2 := [(0, .ref (G.1 + 90)), (1, .int y1), (2, .int (y2 + 1))]) [1, 2, 0] rfl ?_
        exact ih y1 (y2 + 1)  hf
      · replace hf := ite_t c5 hf
        refine z_iload_n C 2 2 dX12_leastOf_20 rfl rfl ?_
        cases hf
        exact z_iret C rfl dX12_leastOf_21
set_option maxHeartbeats 4000000 in
set_option maxRecDepth 100000 in
theorem tX12_leastOf (l : Launch) (G : GG) {K : SK} (hL : Lay K) (M : MM) (x1 : Int32) (pp : Int32) (hf : fX12_leastOf M x1 = some pp) : Ct l yX12_leastOf cX12_leastOf 3 (some .int) 0 0 0 G K M [.ref (G.1 + 90), .int x1] (some (.int pp)) K M := by
  refine z_enter (lv := [(0, .ref (G.1 + 90)), (1, .int x1)]) (by decide +kernel) (Nat.le_of_ble_eq_true rfl) rfl ?_
  intro p e s m args below meth c C hnm hs0
  replace C : CX p s m args meth c cX12_leastOf 3 (some .int) RX12 G := C
  unfold fX12_leastOf at hf
  refine z_iconst C 0 dX12_leastOf_0 (by decide) ?_
  refine z_istore_n C [(2, .int 0), (0, .ref (G.1 + 90)), (1, .int x1)] dX12_leastOf_1 rfl (by decide) rfl rfl ?_
  refine z_lv (lv2 := [(0, .ref (G.1 + 90)), (1, .int x1), (2, .int 0)]) [1, 2, 0] rfl ?_
  exact wX12_leastOf_l2 C hs0 hL M pp FU x1 0 hf
set_option maxHeartbeats 4000000 in
set_option maxRecDepth 100000 in
theorem tX12_prizeOf (l : Launch) (G : GG) {K : SK} (hL : Lay K) (M : MM) (x1 : Int32) (x2 : Int32) (pp : (Int32 × MM)) (hf : fX12_prizeOf M x1 x2 = some pp) : Ct l yX12_prizeOf cX12_prizeOf 3 (some .int) 5 0 0 G K M [.ref (G.1 + 90), .int x1, .int x2] (some (.int pp.1)) K pp.2 := by
  refine z_enter (lv := [(0, .ref (G.1 + 90)), (1, .int x1), (2, .int x2)]) (by decide +kernel) (Nat.le_of_ble_eq_true rfl) rfl ?_
  intro p e s m args below meth c C hnm hs0
  replace C : CX p s m args meth c cX12_prizeOf 3 (some .int) RX12 G := C
  unfold fX12_prizeOf at hf
  refine z_aload_n C 0 0 dX12_prizeOf_0 rfl rfl ?_
  refine z_getR C ok_X12 (lay_c90 hL) 19 (98) (by decide) rfl (lay_r90_19 hL) q_fl_X12_32 dX12_prizeOf_1 ?_
  refine z_aload_n C 0 0 dX12_prizeOf_4 rfl rfl ?_
  refine z_iconst C 0 dX12_prizeOf_5 (by decide) ?_
  replace hf := bd_out hf
  obtain ⟨p1, e2, hf⟩ := hf
  refine z_cV1 C [.ref (G.1 + 98)] (tX12_leastOf l G hL M 0 _ e2) lk_X12_leastOf ok_X12 (lay_c90 hL) q_ml_X12_331 rfl ⟨Nat.le_of_ble_eq_true rfl, Nat.le_of_ble_eq_true rfl⟩ rfl (Nat.le_of_ble_eq_true rfl) ⟨Nat.le_refl _, Nat.le_refl _⟩ dX12_prizeOf_6 ?_
  refine z_iload_n C 2 2 dX12_prizeOf_9 rfl rfl ?_
  refine z_bipush C 8 dX12_prizeOf_10 (by decide) ?_
  refine z_idiv C (by decide) dX12_prizeOf_12 ?_
  replace hf := gd_out hf
  obtain ⟨g3, hf⟩ := hf
  refine z_iast C (lay_c98 hL) (inb_in g3) dX12_prizeOf_13 ?_
  refine z_M (fun M4 e5 => ?_)
  replace hf := bnd_out e5 hf
  refine z_aload_n C 0 0 dX12_prizeOf_14 rfl rfl ?_
  refine z_getR C ok_X12 (lay_c90 hL) 19 (98) (by decide) rfl (lay_r90_19 hL) q_fl_X12_32 dX12_prizeOf_15 ?_
  refine z_aload_n C 0 0 dX12_prizeOf_18 rfl rfl ?_
  refine z_iconst C 1 dX12_prizeOf_19 (by decide) ?_
  replace hf := bd_out hf
  obtain ⟨p6, e7, hf⟩ := hf
  refine z_cV1 C [.ref (G.1 + 98)] (tX12_leastOf l G hL M4 1 _ e7) lk_X12_leastOf ok_X12 (lay_c90 hL) q_ml_X12_331 rfl ⟨Nat.le_of_ble_eq_true rfl, Nat.le_of_ble_eq_true rfl⟩ rfl (Nat.le_of_ble_eq_true rfl) ⟨Nat.le_refl _, Nat.le_refl _⟩ dX12_prizeOf_20 ?_
  refine z_iload_n C 2 2 dX12_prizeOf_23 rfl rfl ?_
  refine z_bipush C 8 dX12_prizeOf_24 (by decide) ?_
  refine z_irem C (by decide) dX12_prizeOf_26 ?_
  replace hf := gd_out hf
  obtain ⟨g8, hf⟩ := hf
  refine z_iast C (lay_c98 hL) (inb_in g8) dX12_prizeOf_27 ?_
  refine z_M (fun M9 e10 => ?_)
  replace hf := bnd_out e10 hf
  refine z_aload_n C 0 0 dX12_prizeOf_28 rfl rfl ?_
  replace hf := bd_out hf
  obtain ⟨p11, e12, hf⟩ := hf
  refine z_cV0 C [] (tX12_takesTotals l G hL M9  _ e12) lk_X12_takesTotals ok_X12 (lay_c90 hL) q_ml_X12_285 rfl ⟨Nat.le_of_ble_eq_true rfl, Nat.le_of_ble_eq_true rfl⟩ rfl (Nat.le_of_ble_eq_true rfl) ⟨Nat.le_refl _, Nat.le_refl _⟩ dX12_prizeOf_29 ?_
  refine z_aload_n C 0 0 dX12_prizeOf_32 rfl rfl ?_
  refine z_getR C ok_X12 (lay_c90 hL) 28 (104) (by decide) rfl (lay_r90_28 hL) q_fl_X12_50 dX12_prizeOf_33 ?_
  refine z_iload_n C 1 1 dX12_prizeOf_36 rfl rfl ?_
  replace hf := gd_out hf
  obtain ⟨g13, hf⟩ := hf
  refine z_iald C (lay_c104 hL) (inb_in g13) dX12_prizeOf_37 ?_
  cases hf
  exact z_iret C rfl dX12_prizeOf_38
set_option maxHeartbeats 4000000 in
set_option maxRecDepth 100000 in
theorem tX12_arePlayers (l : Launch) (G : GG) {K : SK} (hL : Lay K) (M : MM) (x1 : Int32) (x2 : Int32) (pp : (Int32 × MM)) (hf : fX12_arePlayers M x1 x2 = some pp) : Ct l yX12_arePlayers cX12_arePlayers 3 (some .boolean) 4 0 0 G K M [.ref (G.1 + 90), .int x1, .int x2] (some (.int pp.1)) K pp.2 := by
  refine z_enter (lv := [(0, .ref (G.1 + 90)), (1, .int x1), (2, .int x2)]) (by decide +kernel) (Nat.le_of_ble_eq_true rfl) rfl ?_
  intro p e s m args below meth c C hnm hs0
  replace C : CX p s m args meth c cX12_arePlayers 3 (some .boolean) RX12 G := C
  unfold fX12_arePlayers at hf
  refine z_aload_n C 0 0 dX12_arePlayers_0 rfl rfl ?_
  refine z_iload_n C 1 1 dX12_arePlayers_1 rfl rfl ?_
  refine z_iload_n C 2 2 dX12_arePlayers_2 rfl rfl ?_
  replace hf := bd_out hf
  obtain ⟨p1, e2, hf⟩ := hf
  refine z_cV1 C [] (tX12_areTold l G hL M x1 x2 _ e2) lk_X12_areTold ok_X12 (lay_c90 hL) q_ml_X12_279 rfl ⟨Nat.le_of_ble_eq_true rfl, Nat.le_of_ble_eq_true rfl⟩ rfl (Nat.le_of_ble_eq_true rfl) ⟨Nat.le_refl _, Nat.le_refl _⟩ dX12_arePlayers_3 ?_
  refine z_if_eq C 31 dX12_arePlayers_6 (by decide) (fun c3 => ?_) (fun c3 => ?_)
  · replace hf := ite_t c3 hf
    refine z_iconst C 0 dX12_arePlayers_31 (by decide) ?_
    cases hf
    exact z_zret C rfl nb0 dX12_arePlayers_32
  · replace hf := ite_f c3 hf
    refine z_aload_n C 0 0 dX12_arePlayers_9 rfl rfl ?_
    refine z_iconst C 0 dX12_arePlayers_10 (by decide) ?_
    replace hf := bd_out hf
    obtain ⟨p4, e5, hf⟩ := hf
    refine z_cV1 C [] (tX12_leastOf l G hL p1.2 0 _ e5) lk_X12_leastOf ok_X12 (lay_c90 hL) q_ml_X12_331 rfl ⟨Nat.le_of_ble_eq_true rfl, Nat.le_of_ble_eq_true rfl⟩ rfl (Nat.le_of_ble_eq_true rfl) ⟨Nat.le_refl _, Nat.le_refl _⟩ dX12_arePlayers_11 ?_
    refine z_iconst C (-1) dX12_arePlayers_14 (by decide) ?_
    refine z_icmp_eq C 31 dX12_arePlayers_15 (by decide) (fun c6 => ?_) (fun c6 => ?_)
    · replace hf := ite_t c6 hf
      refine z_iconst C 0 dX12_arePlayers_31 (by decide) ?_
      cases hf
      exact z_zret C rfl nb0 dX12_arePlayers_32
    · replace hf := ite_f c6 hf
      refine z_aload_n C 0 0 dX12_arePlayers_18 rfl rfl ?_
      refine z_iconst C 1 dX12_arePlayers_19 (by decide) ?_
      replace hf := bd_out hf
      obtain ⟨p7, e8, hf⟩ := hf
      refine z_cV1 C [] (tX12_leastOf l G hL p1.2 1 _ e8) lk_X12_leastOf ok_X12 (lay_c90 hL) q_ml_X12_331 rfl ⟨Nat.le_of_ble_eq_true rfl, Nat.le_of_ble_eq_true rfl⟩ rfl (Nat.le_of_ble_eq_true rfl) ⟨Nat.le_refl _, Nat.le_refl _⟩ dX12_arePlayers_20 ?_
      refine z_iconst C (-1) dX12_arePlayers_23 (by decide) ?_
      refine z_icmp_eq C 31 dX12_arePlayers_24 (by decide) (fun c9 => ?_) (fun c9 => ?_)
      · replace hf := ite_t c9 hf
        refine z_iconst C 0 dX12_arePlayers_31 (by decide) ?_
        cases hf
        exact z_zret C rfl nb0 dX12_arePlayers_32
      · replace hf := ite_f c9 hf
        refine z_iconst C 1 dX12_arePlayers_27 (by decide) ?_
        refine z_goto C 32 dX12_arePlayers_28 (by decide) ?_
        cases hf
        exact z_zret C rfl nb1 dX12_arePlayers_32
set_option maxHeartbeats 4000000 in
set_option maxRecDepth 100000 in
theorem tX12_prize (l : Launch) (G : GG) {K : SK} (hL : Lay K) (M : MM) (x1 : Int32) (x2 : Int32) (x3 : Int32) (x4 : Int32) (pp : (Int32 × MM)) (hf : fX12_prize M x1 x2 x3 x4 = some pp) : Ct l yX12_prize cX12_prize 5 (some .int) 6 0 0 G K M [.ref (G.1 + 90), .int x1, .int x2, .int x3, .int x4] (some (.int pp.1)) K pp.2 := by
  refine z_enter (lv := [(0, .ref (G.1 + 90)), (1, .int x1), (2, .int x2), (3, .int x3), (4, .int x4)]) (by decide +kernel) (Nat.le_of_ble_eq_true rfl) rfl ?_
  intro p e s m args below meth c C hnm hs0
  replace C : CX p s m args meth c cX12_prize 5 (some .int) RX12 G := C
  unfold fX12_prize at hf
  refine z_aload_n C 0 0 dX12_prize_0 rfl rfl ?_
  refine z_iload_n C 1 1 dX12_prize_1 rfl rfl ?_
  refine z_iload_n C 2 2 dX12_prize_2 rfl rfl ?_
  replace hf := bd_out hf
  obtain ⟨p1, e2, hf⟩ := hf
  refine z_cV1 C [] (tX12_arePlayers l G hL M x1 x2 _ e2) lk_X12_arePlayers ok_X12 (lay_c90 hL) q_ml_X12_334 rfl ⟨Nat.le_of_ble_eq_true rfl, Nat.le_of_ble_eq_true rfl⟩ rfl (Nat.le_of_ble_eq_true rfl) ⟨Nat.le_refl _, Nat.le_refl _⟩ dX12_prize_3 ?_
  refine z_if_eq C 39 dX12_prize_6 (by decide) (fun c3 => ?_) (fun c3 => ?_)
  · replace hf := ite_t c3 hf
    refine z_iconst C (-1) dX12_prize_39 (by decide) ?_
    cases hf
    exact z_iret C rfl dX12_prize_40
  · replace hf := ite_f c3 hf
    refine z_iload_n C 3 3 dX12_prize_9 rfl rfl ?_
    refine z_iconst C 0 dX12_prize_10 (by decide) ?_
    refine z_iconst C 1 dX12_prize_11 (by decide) ?_
    refine z_cS1 C [] (tX12_isIn l G hL p1.2 x3 0 1) lk_X12_isIn q_ml_X12_141 rfl ⟨Nat.le_of_ble_eq_true rfl, Nat.le_of_ble_eq_true rfl⟩ rfl (Nat.le_of_ble_eq_true rfl) ⟨Nat.le_refl _, Nat.le_refl _⟩ dX12_prize_12 ?_
    refine z_if_eq C 39 dX12_prize_15 (by decide) (fun c4 => ?_) (fun c4 => ?_)
    · replace hf := ite_t c4 hf
      refine z_iconst C (-1) dX12_prize_39 (by decide) ?_
      cases hf
      exact z_iret C rfl dX12_prize_40
    · replace hf := ite_f c4 hf
      refine z_iload C 4 dX12_prize_18 rfl ?_
      refine z_iconst C 0 dX12_prize_20 (by decide) ?_
      refine z_bipush C 63 dX12_prize_21 (by decide) ?_
      refine z_cS1 C [] (tX12_isIn l G hL p1.2 x4 0 63) lk_X12_isIn q_ml_X12_141 rfl ⟨Nat.le_of_ble_eq_true rfl, Nat.le_of_ble_eq_true rfl⟩ rfl (Nat.le_of_ble_eq_true rfl) ⟨Nat.le_refl _, Nat.le_refl _⟩ dX12_prize_23 ?_
      refine z_if_eq C 39 dX12_prize_26 (by decide) (fun c5 => ?_) (fun c5 => ?_)
      · replace hf := ite_t c5 hf
        refine z_iconst C (-1) dX12_prize_39 (by decide) ?_
        cases hf
        exact z_iret C rfl dX12_prize_40
      · replace hf := ite_f c5 hf
        refine z_aload_n C 0 0 dX12_prize_29 rfl rfl ?_
        refine z_iload_n C 3 3 dX12_prize_30 rfl rfl ?_
        refine z_iload C 4 dX12_prize_31 rfl ?_
        replace hf := bd_out hf
        obtain ⟨p6, e7, hf⟩ := hf
        refine z_cV1 C [] (tX12_prizeOf l G hL p1.2 x3 x4 _ e7) lk_X12_prizeOf ok_X12 (lay_c90 hL) q_ml_X12_337 rfl ⟨Nat.le_of_ble_eq_true rfl, Nat.le_of_ble_eq_true rfl⟩ rfl (Nat.le_of_ble_eq_true rfl) ⟨Nat.le_refl _, Nat.le_refl _⟩ dX12_prize_33 ?_
        refine z_goto C 40 dX12_prize_36 (by decide) ?_
        cases hf
        exact z_iret C rfl dX12_prize_40
set_option maxHeartbeats 4000000 in
set_option maxRecDepth 100000 in
theorem wX12_isRest_j71 (C : CX p s m args meth c cX12_isRest 4 (some .boolean) RX12 G) (hs0 : s.heap.size = G.1 + K.1) (hL : Lay K) (M : MM) (k4 : Int32 → Int32 → Int32 → Option Int32) (pp : Int32) (hk4 : ∀ (y12 : Int32) (y13 : Int32) (y14 : Int32), k4 y12 y13 y14 = some pp → Z p l e (rmo 0 0 0) s m args below meth c 4 G (MQ below (QC G (some (.int pp)) K M) args s 0 0 (AG G)) K 0 0 M 4 [(0, .ref (G.1 + 90)), (1, .int y12), (2, .int y13), (3, .int y14)] []) (y9 : Int32) (y10 : Int32) (y11 : Int32) (hf : fX12_isRest_j71 M k4 y9 y10 y11 = some pp) : Z p l e (rmo 0 0 0) s m args below meth c 4 G (MQ below (QC G (some (.int pp)) K M) args s 0 0 (AG G)) K 0 0 M 71 [(0, .ref (G.1 + 90)), (1, .int y9), (3, .int y10)] [.int y11] := by
  unfold fX12_isRest_j71 at hf
  refine z_istore_n C [(2, .int y11), (0, .ref (G.1 + 90)), (1, .int y9), (3, .int y10)] dX12_isRest_71 rfl (by decide) rfl rfl ?_
  refine z_iinc C 3 (y10 + 1) [(3, .int (y10 + 1)), (2, .int y11), (0, .ref (G.1 + 90)), (1, .int y9)] dX12_isRest_72 rfl rfl (by decide) rfl rfl ?_
  refine z_goto C 4 dX12_isRest_75 (by decide) ?_
  refine z_lv (lv2 := [(0, .ref (G.1 + 90)), (1, .int y9), (2, .int y11), (3, .int (y10 + 1))]) [2, 3, 1, 0] rfl ?_
  exact hk4 y9 y11 (y10 + 1)  hf
set_option maxHeartbeats 4000000 in
set_option maxRecDepth 100000 in
theorem wX12_isRest_j70 (C : CX p s m args meth c cX12_isRest 4 (some .boolean) RX12 G) (hs0 : s.heap.size = G.1 + K.1) (hL : Lay K) (M : MM) (k4 : Int32 → Int32 → Int32 → Option Int32) (pp : Int32) (hk4 : ∀ (y18 : Int32) (y19 : Int32) (y20 : Int32), k4 y18 y19 y20 = some pp → Z p l e (rmo 0 0 0) s m args below meth c 4 G (MQ below (QC G (some (.int pp)) K M) args s 0 0 (AG G)) K 0 0 M 4 [(0, .ref (G.1 + 90)), (1, .int y18), (2, .int y19), (3, .int y20)] []) (y7 : Int32) (y8 : Int32) (hf : fX12_isRest_j70 M k4 y7 y8 = some pp) : Z p l e (rmo 0 0 0) s m args below meth c 4 G (MQ below (QC G (some (.int pp)) K M) args s 0 0 (AG G)) K 0 0 M 70 [(0, .ref (G.1 + 90)), (1, .int y7), (3, .int y8)] [] := by
  unfold fX12_isRest_j70 at hf
  refine z_iconst C 0 dX12_isRest_70 (by decide) ?_
  refine wX12_isRest_j71 C hs0 hL M _ pp ?_ y7 y8 0 hf
  · intro y15 y16 y17 hf
    exact hk4 y15 y16 y17  hf
set_option maxHeartbeats 4000000 in
set_option maxRecDepth 100000 in
theorem wX12_isRest_l4 (C : CX p s m args meth c cX12_isRest 4 (some .boolean) RX12 G) (hs0 : s.heap.size = G.1 + K.1) (hL : Lay K) (M : MM)  (pp : Int32)  : ∀ (n : Nat) (y1 : Int32) (y2 : Int32) (y3 : Int32) (hf : fX12_isRest_l4 M n y1 y2 y3 = some pp), Z p l e (rmo 0 0 0) s m args below meth c 4 G (MQ below (QC G (some (.int pp)) K M) args s 0 0 (AG G)) K 0 0 M 4 [(0, .ref (G.1 + 90)), (1, .int y1), (2, .int y2), (3, .int y3)] [] := by
  intro n
  induction n with
  | zero => intro y1 y2 y3 hf; exact nomatch (show (none : Option Int32) = some pp from hf)
  | succ n ih =>
    intro y1 y2 y3 hf
    rw [fX12_isRest_l4.eq_2] at hf
    refine z_iload_n C 3 3 dX12_isRest_4 rfl rfl ?_
    refine z_bipush C 8 dX12_isRest_5 (by decide) ?_
    refine z_icmp_ge C 78 dX12_isRest_7 (by decide) (fun c4 => ?_) (fun c4 => ?_)
    · replace hf := ite_t c4 hf
      refine z_iload_n C 2 2 dX12_isRest_78 rfl rfl ?_
      replace hf := gd_out hf
      obtain ⟨g5, hf⟩ := hf
      cases hf
      exact z_zret C rfl (isb_n g5) dX12_isRest_79
    · replace hf := ite_f c4 hf
      refine z_iload_n C 2 2 dX12_isRest_10 rfl rfl ?_
      refine z_if_eq C 70 dX12_isRest_11 (by decide) (fun c6 => ?_) (fun c6 => ?_)
      · replace hf := ite_t c6 hf
        refine z_lv (lv2 := [(0, .ref (G.1 + 90)), (1, .int y1), (3, .int y3)]) [0, 1, 3] rfl ?_
        refine wX12_isRest_j70 C hs0 hL M _ pp ?_ y1 y3 hf
        · intro y21 y22 y23 hf
          exact ih y21 y22 y23  hf
      · replace hf := ite_f c6 hf
        refine z_aload_n C 0 0 dX12_isRest_14 rfl rfl ?_
        refine z_getR C ok_X12 (lay_c90 hL) 36 (109) (by decide) rfl (lay_r90_36 hL) q_fl_X12_65 dX12_isRest_15 ?_
        refine z_bipush C 8 dX12_isRest_18 (by decide) ?_
        refine z_iload_n C 3 3 dX12_isRest_20 rfl rfl ?_
        refine z_imul C dX12_isRest_21 ?_
        refine z_iload_n C 1 1 dX12_isRest_22 rfl rfl ?_
        refine z_bipush C 8 dX12_isRest_23 (by decide) ?_
        refine z_irem C (by decide) dX12_isRest_25 ?_
        refine z_iadd C dX12_isRest_26 ?_
        replace hf := gd_out hf
        obtain ⟨g24, hf⟩ := hf
        refine z_iald C (lay_c109 hL) (inb_in g24) dX12_isRest_27 ?_
        refine z_aload_n C 0 0 dX12_isRest_28 rfl rfl ?_
        refine z_getR C ok_X12 (lay_c90 hL) 36 (109) (by decide) rfl (lay_r90_36 hL) q_fl_X12_65 dX12_isRest_29 ?_
        refine z_iload_n C 1 1 dX12_isRest_32 rfl rfl ?_
        replace hf := gd_out hf
        obtain ⟨g25, hf⟩ := hf
        refine z_iald C (lay_c109 hL) (inb_in g25) dX12_isRest_33 ?_
        refine z_icmp_gt C 70 dX12_isRest_34 (by decide) (fun c26 => ?_) (fun c26 => ?_)
        · replace hf := ite_t c26 hf
          refine z_lv (lv2 := [(0, .ref (G.1 + 90)), (1, .int y1), (3, .int y3)]) [0, 1, 3] rfl ?_
          refine wX12_isRest_j70 C hs0 hL M _ pp ?_ y1 y3 hf
          · intro y27 y28 y29 hf
            exact ih y27 y28 y29  hf
        · replace hf := ite_f c26 hf
          refine z_aload_n C 0 0 dX12_isRest_37 rfl rfl ?_
          refine z_getR C ok_X12 (lay_c90 hL) 36 (109) (by decide) rfl (lay_r90_36 hL) q_fl_X12_65 dX12_isRest_38 ?_
          refine z_bipush C 64 dX12_isRest_41 (by decide) ?_
          refine z_iload_n C 1 1 dX12_isRest_43 rfl rfl ?_
          refine z_bipush C 8 dX12_isRest_44 (by decide) ?_
          refine z_idiv C (by decide) dX12_isRest_46 ?_
          refine z_bipush C 8 dX12_isRest_47 (by decide) ?_
          refine z_imul C dX12_isRest_49 ?_
          refine z_iadd C dX12_isRest_50 ?_
          refine z_iload_n C 3 3 dX12_isRest_51 rfl rfl ?_
          refine z_iadd C dX12_isRest_52 ?_
          replace hf := gd_out hf
          obtain ⟨g30, hf⟩ := hf
          refine z_iald C (lay_c109 hL) (inb_in g30) dX12_isRest_53 ?_
          refine z_aload_n C 0 0 dX12_isRest_54 rfl rfl ?_
          refine z_getR C ok_X12 (lay_c90 hL) 36 (109) (by decide) rfl (lay_r90_36 hL) q_fl_X12_65 dX12_isRest_55 ?_
          refine z_bipush C 64 dX12_isRest_58 (by decide) ?_
          refine z_iload_n C 1 1 dX12_isRest_60 rfl rfl ?_
          refine z_iadd C dX12_isRest_61 ?_
          replace hf := gd_out hf
          obtain ⟨g31, hf⟩ := hf
          refine z_iald C (lay_c109 hL) (inb_in g31) dX12_isRest_62 ?_
          refine z_icmp_gt C 70 dX12_isRest_63 (by decide) (fun c32 => ?_) (fun c32 => ?_)
          · replace hf := ite_t c32 hf
            refine z_lv (lv2 := [(0, .ref (G.1 + 90)), (1, .int y1), (3, .int y3)]) [0, 1, 3] rfl ?_
            refine wX12_isRest_j70 C hs0 hL M _ pp ?_ y1 y3 hf
            · intro y33 y34 y35 hf
              exact ih y33 y34 y35  hf
          · replace hf := ite_f c32 hf
            refine z_iconst C 1 dX12_isRest_66 (by decide) ?_
            refine z_goto C 71 dX12_isRest_67 (by decide) ?_
            refine z_lv (lv2 := [(0, .ref (G.1 + 90)), (1, .int y1), (3, .int y3)]) [0, 1, 3] rfl ?_
            refine wX12_isRest_j71 C hs0 hL M _ pp ?_ y1 y3 1 hf
            · intro y36 y37 y38 hf
              exact ih y36 y37 y38  hf
set_option maxHeartbeats 4000000 in
set_option maxRecDepth 100000 in
theorem tX12_isRest (l : Launch) (G : GG) {K : SK} (hL : Lay K) (M : MM) (x1 : Int32) (pp : Int32) (hf : fX12_isRest M x1 = some pp) : Ct l yX12_isRest cX12_isRest 4 (some .boolean) 0 0 0 G K M [.ref (G.1 + 90), .int x1] (some (.int pp)) K M := by
  refine z_enter (lv := [(0, .ref (G.1 + 90)), (1, .int x1)]) (by decide +kernel) (Nat.le_of_ble_eq_true rfl) rfl ?_
  intro p e s m args below meth c C hnm hs0
  replace C : CX p s m args meth c cX12_isRest 4 (some .boolean) RX12 G := C
  unfold fX12_isRest at hf
  refine z_iconst C 1 dX12_isRest_0 (by decide) ?_
  refine z_istore_n C [(2, .int 1), (0, .ref (G.1 + 90)), (1, .int x1)] dX12_isRest_1 rfl (by decide) rfl rfl ?_
  refine z_iconst C 0 dX12_isRest_2 (by decide) ?_
  refine z_istore_n C [(3, .int 0), (2, .int 1), (0, .ref (G.1 + 90)), (1, .int x1)] dX12_isRest_3 rfl (by decide) rfl rfl ?_
  refine z_lv (lv2 := [(0, .ref (G.1 + 90)), (1, .int x1), (2, .int 1), (3, .int 0)]) [2, 3, 1, 0] rfl ?_
  exact wX12_isRest_l4 C hs0 hL M pp FU x1 1 0 hf
set_option maxHeartbeats 4000000 in
set_option maxRecDepth 100000 in
theorem wX12_rest_l19 (C : CX p s m args meth c cX12_rest 6 (some .int) RX12 G) (hs0 : s.heap.size = G.1 + K.1) (hL : Lay K)  (k54 : MM → Int32 → Option (Int32 × MM)) (pp : (Int32 × MM)) (hk54 : ∀ (M9 : MM) (y10 : Int32), k54 M9 y10 = some pp → Z p l e (rmo 6 0 0) s m args below meth c 6 G (MQ below (QC G (some (.int pp.1)) K pp.2) args s 0 0 (AG G)) K 0 0 M9 54 [(0, .ref (G.1 + 90)), (3, .int y10)] []) : ∀ (n : Nat) (M5 : MM) (y6 : Int32) (y7 : Int32) (hf : fX12_rest_l19 k54 n M5 y6 y7 = some pp), Z p l e (rmo 6 0 0) s m args below meth c 6 G (MQ below (QC G (some (.int pp.1)) K pp.2) args s 0 0 (AG G)) K 0 0 M5 19 [(0, .ref (G.1 + 90)), (3, .int y6), (4, .int y7)] [] := by
  intro n
  induction n with
  | zero => intro M5 y6 y7 hf; exact nomatch (show (none : Option (Int32 × MM)) = some pp from hf)
  | succ n ih =>
    intro M5 y6 y7 hf
    rw [fX12_rest_l19.eq_2] at hf
    refine z_iload C 2 dX12_rest_19 rfl ?_
    refine z_sipush C 128 dX12_rest_21 (by decide) ?_
    refine z_icmp_ge C 54 dX12_rest_24 (by decide) (fun c8 => ?_) (fun c8 => ?_)
    · replace hf := ite_t c8 hf
      refine z_lv (lv2 := [(0, .ref (G.1 + 90)), (3, .int y6)]) [0, 1] rfl ?_
      exact hk54 M5 y6  hf
    · replace hf := ite_f c8 hf
      refine z_aload_n C 0 0 dX12_rest_27 rfl rfl ?_
      refine z_getR C ok_X12 (lay_c90 hL) 36 (109) (by decide) rfl (lay_r90_36 hL) q_fl_X12_65 dX12_rest_28 ?_
      refine z_iload C 2 dX12_rest_31 rfl ?_
      refine z_aload_n C 0 0 dX12_rest_33 rfl rfl ?_
      refine z_iload C 2 dX12_rest_34 rfl ?_
      refine z_bipush C 64 dX12_rest_36 (by decide) ?_
      refine z_idiv C (by decide) dX12_rest_38 ?_
      refine z_iload C 2 dX12_rest_39 rfl ?_
      refine z_bipush C 64 dX12_rest_41 (by decide) ?_
      refine z_irem C (by decide) dX12_rest_43 ?_
      replace hf := bd_out hf
      obtain ⟨p11, e12, hf⟩ := hf
      refine z_cV1 C [.int y7, .ref (G.1 + 109)] (tX12_prizeOf l G hL M5 (y7 / 64) (y7 - y7 / 64 * 64) _ e12) lk_X12_prizeOf ok_X12 (lay_c90 hL) q_ml_X12_337 rfl ⟨Nat.le_of_ble_eq_true rfl, Nat.le_of_ble_eq_true rfl⟩ rfl (Nat.le_of_ble_eq_true rfl) ⟨Nat.le_refl _, Nat.le_refl _⟩ dX12_rest_44 ?_
      replace hf := gd_out hf
      obtain ⟨g13, hf⟩ := hf
      refine z_iast C (lay_c109 hL) (inb_in g13) dX12_rest_47 ?_
      refine z_M (fun M14 e15 => ?_)
      replace hf := bnd_out e15 hf
      refine z_iinc C 2 (y7 + 1) [(4, .int (y7 + 1)), (0, .ref (G.1 + 90)), (3, .int y6)] dX12_rest_48 rfl rfl (by decide) rfl rfl ?_
      refine z_goto C 19 dX12_rest_51 (by decide) ?_
      refine z_lv (lv2 := [(0, .ref (G.1 + 90)), (3, .int y6), (4, .int (y7 + 1))]) [1, 2, 0] rfl ?_
      exact ih M14 y6 (y7 + 1)  hf
set_option maxHeartbeats 4000000 in
set_option maxRecDepth 100000 in
theorem wX12_rest_l60 (C : CX p s m args meth c cX12_rest 6 (some .int) RX12 G) (hs0 : s.heap.size = G.1 + K.1) (hL : Lay K)  (k97 : MM → Int32 → Int32 → Option (Int32 × MM)) (pp : (Int32 × MM)) (hk97 : ∀ (M23 : MM) (y24 : Int32) (y25 : Int32), k97 M23 y24 y25 = some pp → Z p l e (rmo 6 0 0) s m args below meth c 6 G (MQ below (QC G (some (.int pp.1)) K pp.2) args s 0 0 (AG G)) K 0 0 M23 97 [(3, .int y24), (4, .int y25)] []) : ∀ (n : Nat) (M18 : MM) (y19 : Int32) (y20 : Int32) (y21 : Int32) (hf : fX12_rest_l60 k97 n M18 y19 y20 y21 = some pp), Z p l e (rmo 6 0 0) s m args below meth c 6 G (MQ below (QC G (some (.int pp.1)) K pp.2) args s 0 0 (AG G)) K 0 0 M18 60 [(0, .ref (G.1 + 90)), (3, .int y19), (4, .int y20), (5, .int y21)] [] := by
  intro n
  induction n with
  | zero => intro M18 y19 y20 y21 hf; exact nomatch (show (none : Option (Int32 × MM)) = some pp from hf)
  | succ n ih =>
    intro M18 y19 y20 y21 hf
    rw [fX12_rest_l60.eq_2] at hf
    refine z_iload C 3 dX12_rest_60 rfl ?_
    refine z_bipush C 64 dX12_rest_62 (by decide) ?_
    refine z_icmp_ge C 97 dX12_rest_64 (by decide) (fun c22 => ?_) (fun c22 => ?_)
    · replace hf := ite_t c22 hf
      refine z_lv (lv2 := [(3, .int y19), (4, .int y20)]) [1, 2] rfl ?_
      exact hk97 M18 y19 y20  hf
    · replace hf := ite_f c22 hf
      refine z_aload_n C 0 0 dX12_rest_67 rfl rfl ?_
      refine z_iload C 3 dX12_rest_68 rfl ?_
      replace hf := bd_out hf
      obtain ⟨p26, e27, hf⟩ := hf
      refine z_cV1 C [] (tX12_isRest l G hL M18 y21 _ e27) lk_X12_isRest ok_X12 (lay_c90 hL) q_ml_X12_340 rfl ⟨Nat.le_of_ble_eq_true rfl, Nat.le_of_ble_eq_true rfl⟩ rfl (Nat.le_of_ble_eq_true rfl) ⟨Nat.le_refl _, Nat.le_refl _⟩ dX12_rest_70 ?_
      refine z_if_ne C 79 dX12_rest_73 (by decide) (fun c28 => ?_) (fun c28 => ?_)
      · replace hf := ite_f c28 hf
        refine z_iload C 2 dX12_rest_79 rfl ?_
        refine z_iload_n C 1 3 dX12_rest_81 rfl rfl ?_
        refine z_icmp_ne C 88 dX12_rest_82 (by decide) (fun c29 => ?_) (fun c29 => ?_)
        · replace hf := ite_f c29 hf
          refine z_iinc C 2 (y20 + 1) [(4, .int (y20 + 1)), (0, .ref (G.1 + 90)), (3, .int y19), (5, .int y21)] dX12_rest_88 rfl rfl (by decide) rfl rfl ?_
          refine z_iinc C 3 (y21 + 1) [(5, .int (y21 + 1)), (4, .int (y20 + 1)), (0, .ref (G.1 + 90)), (3, .int y19)] dX12_rest_91 rfl rfl (by decide) rfl rfl ?_
          refine z_goto C 60 dX12_rest_94 (by decide) ?_
          refine z_lv (lv2 := [(0, .ref (G.1 + 90)), (3, .int y19), (4, .int (y20 + 1)), (5, .int (y21 + 1))]) [2, 3, 1, 0] rfl ?_
          exact ih M18 y19 (y20 + 1) (y21 + 1)  hf
        · replace hf := ite_t c29 hf
          refine z_iload C 3 dX12_rest_85 rfl ?_
          cases hf
          exact z_iret C rfl dX12_rest_87
      · replace hf := ite_t c28 hf
        refine z_goto C 91 dX12_rest_76 (by decide) ?_
        refine z_iinc C 3 (y21 + 1) [(5, .int (y21 + 1)), (0, .ref (G.1 + 90)), (3, .int y19), (4, .int y20)] dX12_rest_91 rfl rfl (by decide) rfl rfl ?_
        refine z_goto C 60 dX12_rest_94 (by decide) ?_
        refine z_lv (lv2 := [(0, .ref (G.1 + 90)), (3, .int y19), (4, .int y20), (5, .int (y21 + 1))]) [1, 2, 3, 0] rfl ?_
        exact ih M18 y19 y20 (y21 + 1)  hf
set_option maxHeartbeats 4000000 in
set_option maxRecDepth 100000 in
theorem tX12_rest (l : Launch) (G : GG) {K : SK} (hL : Lay K) (M : MM) (x1 : Int32) (x2 : Int32) (x3 : Int32) (pp : (Int32 × MM)) (hf : fX12_rest M x1 x2 x3 = some pp) : Ct l yX12_rest cX12_rest 6 (some .int) 6 0 0 G K M [.ref (G.1 + 90), .int x1, .int x2, .int x3] (some (.int pp.1)) K pp.2 := by
  refine z_enter (lv := [(0, .ref (G.1 + 90)), (1, .int x1), (2, .int x2), (3, .int x3)]) (by decide +kernel) (Nat.le_of_ble_eq_true rfl) rfl ?_
  intro p e s m args below meth c C hnm hs0
  replace C : CX p s m args meth c cX12_rest 6 (some .int) RX12 G := C
  unfold fX12_rest at hf
  refine z_aload_n C 0 0 dX12_rest_0 rfl rfl ?_
  refine z_iload_n C 1 1 dX12_rest_1 rfl rfl ?_
  refine z_iload_n C 2 2 dX12_rest_2 rfl rfl ?_
  replace hf := bd_out hf
  obtain ⟨p1, e2, hf⟩ := hf
  refine z_cV1 C [] (tX12_arePlayers l G hL M x1 x2 _ e2) lk_X12_arePlayers ok_X12 (lay_c90 hL) q_ml_X12_334 rfl ⟨Nat.le_of_ble_eq_true rfl, Nat.le_of_ble_eq_true rfl⟩ rfl (Nat.le_of_ble_eq_true rfl) ⟨Nat.le_refl _, Nat.le_refl _⟩ dX12_rest_3 ?_
  refine z_if_eq C 14 dX12_rest_6 (by decide) (fun c3 => ?_) (fun c3 => ?_)
  · replace hf := ite_t c3 hf
    refine z_iconst C (-1) dX12_rest_14 (by decide) ?_
    cases hf
    exact z_iret C rfl dX12_rest_15
  · replace hf := ite_f c3 hf
    refine z_iload_n C 3 3 dX12_rest_9 rfl rfl ?_
    refine z_iconst C (-1) dX12_rest_10 (by decide) ?_
    refine z_icmp_ge C 16 dX12_rest_11 (by decide) (fun c4 => ?_) (fun c4 => ?_)
    · replace hf := ite_t c4 hf
      refine z_iconst C 0 dX12_rest_16 (by decide) ?_
      refine z_istore C [(4, .int 0), (0, .ref (G.1 + 90)), (1, .int x1), (2, .int x2), (3, .int x3)] dX12_rest_17 (by decide) rfl rfl ?_
      refine z_lv (lv2 := [(0, .ref (G.1 + 90)), (3, .int x3), (4, .int 0)]) [1, 4, 0] rfl ?_
      refine wX12_rest_l19 C hs0 hL _ pp ?_ FU p1.2 x3 0 hf
      · intro M16 y17 hf
        refine z_iconst C 0 dX12_rest_54 (by decide) ?_
        refine z_istore C [(4, .int 0), (0, .ref (G.1 + 90)), (3, .int y17)] dX12_rest_55 (by decide) rfl rfl ?_
        refine z_iconst C 0 dX12_rest_57 (by decide) ?_
        refine z_istore C [(5, .int 0), (4, .int 0), (0, .ref (G.1 + 90)), (3, .int y17)] dX12_rest_58 (by decide) rfl rfl ?_
        refine z_lv (lv2 := [(0, .ref (G.1 + 90)), (3, .int y17), (4, .int 0), (5, .int 0)]) [2, 3, 1, 0] rfl ?_
        refine wX12_rest_l60 C hs0 hL _ pp ?_ FU M16 y17 0 0 hf
        · intro M30 y31 y32 hf
          refine z_iload_n C 0 3 dX12_rest_97 rfl rfl ?_
          refine z_iconst C (-1) dX12_rest_98 (by decide) ?_
          refine z_icmp_ne C 107 dX12_rest_99 (by decide) (fun c33 => ?_) (fun c33 => ?_)
          · replace hf := ite_f c33 hf
            refine z_iconst C (-1) dX12_rest_107 (by decide) ?_
            cases hf
            exact z_iret C rfl dX12_rest_108
          · replace hf := ite_t c33 hf
            refine z_iload C 1 dX12_rest_102 rfl ?_
            refine z_goto C 108 dX12_rest_104 (by decide) ?_
            cases hf
            exact z_iret C rfl dX12_rest_108
    · replace hf := ite_f c4 hf
      refine z_iconst C (-1) dX12_rest_14 (by decide) ?_
      cases hf
      exact z_iret C rfl dX12_rest_15
set_option maxHeartbeats 4000000 in
set_option maxRecDepth 100000 in
theorem tX12_isWall (l : Launch) (G : GG) {K : SK} (hL : Lay K) (M : MM) (x1 : Int32) (pp : Int32) (hf : fX12_isWall M x1 = some pp) : Ct l yX12_isWall cX12_isWall 2 (some .boolean) 0 0 0 G K M [.ref (G.1 + 90), .int x1] (some (.int pp)) K M := by
  refine z_enter (lv := [(0, .ref (G.1 + 90)), (1, .int x1)]) (by decide +kernel) (Nat.le_of_ble_eq_true rfl) rfl ?_
  intro p e s m args below meth c C hnm hs0
  replace C : CX p s m args meth c cX12_isWall 2 (some .boolean) RX12 G := C
  unfold fX12_isWall at hf
  refine z_aload_n C 0 0 dX12_isWall_0 rfl rfl ?_
  refine z_getR C ok_X12 (lay_c90 hL) 0 (91) (by decide) rfl (lay_r90_0 hL) q_fl_X12_7 dX12_isWall_1 ?_
  refine z_aload_n C 0 0 dX12_isWall_4 rfl rfl ?_
  refine z_getI C ok_X12 (lay_c90 hL) 12 (by decide) rfl q_fl_X12_207 dX12_isWall_5 ?_
  refine z_iconst C 4 dX12_isWall_8 (by decide) ?_
  refine z_iadd C dX12_isWall_9 ?_
  refine z_iload_n C 1 1 dX12_isWall_10 rfl rfl ?_
  refine z_iadd C dX12_isWall_11 ?_
  replace hf := gd_out hf
  obtain ⟨g1, hf⟩ := hf
  refine z_iald C (lay_c91 hL) (inb_in g1) dX12_isWall_12 ?_
  refine z_iconst C 1 dX12_isWall_13 (by decide) ?_
  refine z_icmp_ne C 21 dX12_isWall_14 (by decide) (fun c2 => ?_) (fun c2 => ?_)
  · replace hf := ite_f c2 hf
    refine z_iconst C 0 dX12_isWall_21 (by decide) ?_
    cases hf
    exact z_zret C rfl nb0 dX12_isWall_22
  · replace hf := ite_t c2 hf
    refine z_iconst C 1 dX12_isWall_17 (by decide) ?_
    refine z_goto C 22 dX12_isWall_18 (by decide) ?_
    cases hf
    exact z_zret C rfl nb1 dX12_isWall_22
set_option maxHeartbeats 4000000 in
set_option maxRecDepth 100000 in
theorem wX12_walks_l2 (C : CX p s m args meth c cX12_walks 6 none RX12 G) (hs0 : s.heap.size = G.1 + K.1) (hL : Lay K)  (k22 : MM → Int32 → Option MM) (pp : MM) (hk22 : ∀ (M5 : MM) (y6 : Int32), k22 M5 y6 = some pp → Z p l e (rmo 2 0 0) s m args below meth c 6 G (MQ below (QC G none K pp) args s 0 0 (AG G)) K 0 0 M5 22 [(0, .ref (G.1 + 90)), (1, .int y6)] []) : ∀ (n : Nat) (M1 : MM) (y2 : Int32) (y3 : Int32) (hf : fX12_walks_l2 k22 n M1 y2 y3 = some pp), Z p l e (rmo 2 0 0) s m args below meth c 6 G (MQ below (QC G none K pp) args s 0 0 (AG G)) K 0 0 M1 2 [(0, .ref (G.1 + 90)), (1, .int y2), (2, .int y3)] [] := by
  intro n
  induction n with
  | zero => intro M1 y2 y3 hf; exact nomatch (show (none : Option MM) = some pp from hf)
  | succ n ih =>
    intro M1 y2 y3 hf
    rw [fX12_walks_l2.eq_2] at hf
    refine z_iload_n C 2 2 dX12_walks_2 rfl rfl ?_
    refine z_bipush C 64 dX12_walks_3 (by decide) ?_
    refine z_icmp_ge C 22 dX12_walks_5 (by decide) (fun c4 => ?_) (fun c4 => ?_)
    · replace hf := ite_t c4 hf
      refine z_lv (lv2 := [(0, .ref (G.1 + 90)), (1, .int y2)]) [0, 1] rfl ?_
      exact hk22 M1 y2  hf
    · replace hf := ite_f c4 hf
      refine z_aload_n C 0 0 dX12_walks_8 rfl rfl ?_
      refine z_getR C ok_X12 (lay_c90 hL) 37 (110) (by decide) rfl (lay_r90_37 hL) q_fl_X12_68 dX12_walks_9 ?_
      refine z_iload_n C 2 2 dX12_walks_12 rfl rfl ?_
      refine z_bipush C 99 dX12_walks_13 (by decide) ?_
      replace hf := gd_out hf
      obtain ⟨g7, hf⟩ := hf
      refine z_iast C (lay_c110 hL) (inb_in g7) dX12_walks_15 ?_
      refine z_M (fun M8 e9 => ?_)
      replace hf := bnd_out e9 hf
      refine z_iinc C 2 (y3 + 1) [(2, .int (y3 + 1)), (0, .ref (G.1 + 90)), (1, .int y2)] dX12_walks_16 rfl rfl (by decide) rfl rfl ?_
      refine z_goto C 2 dX12_walks_19 (by decide) ?_
      refine z_lv (lv2 := [(0, .ref (G.1 + 90)), (1, .int y2), (2, .int (y3 + 1))]) [1, 2, 0] rfl ?_
      exact ih M8 y2 (y3 + 1)  hf
set_option maxHeartbeats 4000000 in
set_option maxRecDepth 100000 in
theorem wX12_walks_l48 (C : CX p s m args meth c cX12_walks 6 none RX12 G) (hs0 : s.heap.size = G.1 + K.1) (hL : Lay K)  (k136 : MM → Int32 → Int32 → Option MM) (pp : MM) (hk136 : ∀ (M26 : MM) (y27 : Int32) (y28 : Int32), k136 M26 y27 y28 = some pp → Z p l e (rmo 2 0 0) s m args below meth c 6 G (MQ below (QC G none K pp) args s 0 0 (AG G)) K 0 0 M26 136 [(0, .ref (G.1 + 90)), (2, .int y27), (3, .int y28)] []) : ∀ (n : Nat) (M21 : MM) (y22 : Int32) (y23 : Int32) (y24 : Int32) (hf : fX12_walks_l48 k136 n M21 y22 y23 y24 = some pp), Z p l e (rmo 2 0 0) s m args below meth c 6 G (MQ below (QC G none K pp) args s 0 0 (AG G)) K 0 0 M21 48 [(0, .ref (G.1 + 90)), (2, .int y22), (3, .int y23), (4, .int y24)] [] := by
  intro n
  induction n with
  | zero => intro M21 y22 y23 y24 hf; exact nomatch (show (none : Option MM) = some pp from hf)
  | succ n ih =>
    intro M21 y22 y23 y24 hf
    rw [fX12_walks_l48.eq_2] at hf
    refine z_iload C 3 dX12_walks_48 rfl ?_
    refine z_bipush C 8 dX12_walks_50 (by decide) ?_
    refine z_icmp_ge C 136 dX12_walks_52 (by decide) (fun c25 => ?_) (fun c25 => ?_)
    · replace hf := ite_t c25 hf
      refine z_lv (lv2 := [(0, .ref (G.1 + 90)), (2, .int y22), (3, .int y23)]) [0, 1, 2] rfl ?_
      exact hk136 M21 y22 y23  hf
    · replace hf := ite_f c25 hf
      refine z_aload_n C 0 0 dX12_walks_55 rfl rfl ?_
      refine z_aload_n C 0 0 dX12_walks_56 rfl rfl ?_
      refine z_getR C ok_X12 (lay_c90 hL) 39 (112) (by decide) rfl (lay_r90_39 hL) q_fl_X12_74 dX12_walks_57 ?_
      refine z_iload_n C 2 3 dX12_walks_60 rfl rfl ?_
      replace hf := gd_out hf
      obtain ⟨g29, hf⟩ := hf
      refine z_iald C (lay_c112 hL) (inb_in g29) dX12_walks_61 ?_
      refine z_iload C 3 dX12_walks_62 rfl ?_
      replace hf := bd_out hf
      obtain ⟨p30, e31, hf⟩ := hf
      refine z_cV1 C [] (tX12_beside l G hL M21 (gI M21 112 (ix y23)) y24 _ e31) lk_X12_beside ok_X12 (lay_c90 hL) q_ml_X12_249 rfl ⟨Nat.le_of_ble_eq_true rfl, Nat.le_of_ble_eq_true rfl⟩ rfl (Nat.le_of_ble_eq_true rfl) ⟨Nat.le_refl _, Nat.le_refl _⟩ dX12_walks_64 ?_
      refine z_istore C [(5, .int p30), (0, .ref (G.1 + 90)), (2, .int y22), (3, .int y23), (4, .int y24)] dX12_walks_67 (by decide) rfl rfl ?_
      refine z_iload C 0 dX12_walks_69 rfl ?_
      refine z_iconst C (-1) dX12_walks_71 (by decide) ?_
      refine z_icmp_eq C 130 dX12_walks_72 (by decide) (fun c32 => ?_) (fun c32 => ?_)
      · replace hf := ite_t c32 hf
        refine z_iinc C 4 (y24 + 2) [(4, .int (y24 + 2)), (5, .int p30), (0, .ref (G.1 + 90)), (2, .int y22), (3, .int y23)] dX12_walks_130 rfl rfl (by decide) rfl rfl ?_
        refine z_goto C 48 dX12_walks_133 (by decide) ?_
        refine z_lv (lv2 := [(0, .ref (G.1 + 90)), (2, .int y22), (3, .int y23), (4, .int (y24 + 2))]) [2, 3, 4, 0] rfl ?_
        exact ih M21 y22 y23 (y24 + 2)  hf
      · replace hf := ite_f c32 hf
        refine z_aload_n C 1 0 dX12_walks_75 rfl rfl ?_
        refine z_iload C 0 dX12_walks_76 rfl ?_
        replace hf := bd_out hf
        obtain ⟨p33, e34, hf⟩ := hf
        refine z_cV1 C [] (tX12_isWall l G hL M21 p30 _ e34) lk_X12_isWall ok_X12 (lay_c90 hL) q_ml_X12_343 rfl ⟨Nat.le_of_ble_eq_true rfl, Nat.le_of_ble_eq_true rfl⟩ rfl (Nat.le_of_ble_eq_true rfl) ⟨Nat.le_refl _, Nat.le_refl _⟩ dX12_walks_78 ?_
        refine z_if_ne C 130 dX12_walks_81 (by decide) (fun c35 => ?_) (fun c35 => ?_)
        · replace hf := ite_f c35 hf
          refine z_iinc C 4 (y24 + 2) [(4, .int (y24 + 2)), (5, .int p30), (0, .ref (G.1 + 90)), (2, .int y22), (3, .int y23)] dX12_walks_130 rfl rfl (by decide) rfl rfl ?_
          refine z_goto C 48 dX12_walks_133 (by decide) ?_
          refine z_lv (lv2 := [(0, .ref (G.1 + 90)), (2, .int y22), (3, .int y23), (4, .int (y24 + 2))]) [2, 3, 4, 0] rfl ?_
          exact ih M21 y22 y23 (y24 + 2)  hf
        · replace hf := ite_t c35 hf
          refine z_aload_n C 1 0 dX12_walks_84 rfl rfl ?_
          refine z_getR C ok_X12 (lay_c90 hL) 37 (110) (by decide) rfl (lay_r90_37 hL) q_fl_X12_68 dX12_walks_85 ?_
          refine z_iload C 0 dX12_walks_88 rfl ?_
          replace hf := gd_out hf
          obtain ⟨g36, hf⟩ := hf
          refine z_iald C (lay_c110 hL) (inb_in g36) dX12_walks_90 ?_
          refine z_bipush C 99 dX12_walks_91 (by decide) ?_
          refine z_icmp_eq C 99 dX12_walks_93 (by decide) (fun c37 => ?_) (fun c37 => ?_)
          · replace hf := ite_t c37 hf
            refine z_aload_n C 1 0 dX12_walks_99 rfl rfl ?_
            refine z_getR C ok_X12 (lay_c90 hL) 37 (110) (by decide) rfl (lay_r90_37 hL) q_fl_X12_68 dX12_walks_100 ?_
            refine z_iload C 0 dX12_walks_103 rfl ?_
            refine z_aload_n C 1 0 dX12_walks_105 rfl rfl ?_
            refine z_getR C ok_X12 (lay_c90 hL) 37 (110) (by decide) rfl (lay_r90_37 hL) q_fl_X12_68 dX12_walks_106 ?_
            refine z_aload_n C 1 0 dX12_walks_109 rfl rfl ?_
            refine z_getR C ok_X12 (lay_c90 hL) 39 (112) (by decide) rfl (lay_r90_39 hL) q_fl_X12_74 dX12_walks_110 ?_
            refine z_iload_n C 3 3 dX12_walks_113 rfl rfl ?_
            replace hf := gd_out hf
            obtain ⟨g38, hf⟩ := hf
            refine z_iald C (lay_c112 hL) (inb_in g38) dX12_walks_114 ?_
            replace hf := gd_out hf
            obtain ⟨g39, hf⟩ := hf
            refine z_iald C (lay_c110 hL) (inb_in g39) dX12_walks_115 ?_
            refine z_iconst C 1 dX12_walks_116 (by decide) ?_
            refine z_iadd C dX12_walks_117 ?_
            replace hf := gd_out hf
            obtain ⟨g40, hf⟩ := hf
            refine z_iast C (lay_c110 hL) (inb_in g40) dX12_walks_118 ?_
            refine z_M (fun M41 e42 => ?_)
            replace hf := bnd_out e42 hf
            refine z_aload_n C 1 0 dX12_walks_119 rfl rfl ?_
            refine z_getR C ok_X12 (lay_c90 hL) 39 (112) (by decide) rfl (lay_r90_39 hL) q_fl_X12_74 dX12_walks_120 ?_
            refine z_iload_n C 2 2 dX12_walks_123 rfl rfl ?_
            refine z_iload C 0 dX12_walks_124 rfl ?_
            replace hf := gd_out hf
            obtain ⟨g43, hf⟩ := hf
            refine z_iast C (lay_c112 hL) (inb_in g43) dX12_walks_126 ?_
            refine z_M (fun M44 e45 => ?_)
            replace hf := bnd_out e45 hf
            refine z_iinc C 2 (y22 + 1) [(2, .int (y22 + 1)), (5, .int p30), (0, .ref (G.1 + 90)), (3, .int y23), (4, .int y24)] dX12_walks_127 rfl rfl (by decide) rfl rfl ?_
            refine z_iinc C 4 (y24 + 2) [(4, .int (y24 + 2)), (2, .int (y22 + 1)), (5, .int p30), (0, .ref (G.1 + 90)), (3, .int y23)] dX12_walks_130 rfl rfl (by decide) rfl rfl ?_
            refine z_goto C 48 dX12_walks_133 (by decide) ?_
            refine z_lv (lv2 := [(0, .ref (G.1 + 90)), (2, .int (y22 + 1)), (3, .int y23), (4, .int (y24 + 2))]) [3, 1, 4, 0] rfl ?_
            exact ih M44 (y22 + 1) y23 (y24 + 2)  hf
          · replace hf := ite_f c37 hf
            refine z_goto C 130 dX12_walks_96 (by decide) ?_
            refine z_iinc C 4 (y24 + 2) [(4, .int (y24 + 2)), (5, .int p30), (0, .ref (G.1 + 90)), (2, .int y22), (3, .int y23)] dX12_walks_130 rfl rfl (by decide) rfl rfl ?_
            refine z_goto C 48 dX12_walks_133 (by decide) ?_
            refine z_lv (lv2 := [(0, .ref (G.1 + 90)), (2, .int y22), (3, .int y23), (4, .int (y24 + 2))]) [2, 3, 4, 0] rfl ?_
            exact ih M21 y22 y23 (y24 + 2)  hf
set_option maxHeartbeats 4000000 in
set_option maxRecDepth 100000 in
theorem wX12_walks_l40 (C : CX p s m args meth c cX12_walks 6 none RX12 G) (hs0 : s.heap.size = G.1 + K.1) (hL : Lay K)   (pp : MM)  : ∀ (n : Nat) (M17 : MM) (y18 : Int32) (y19 : Int32) (hf : fX12_walks_l40 n M17 y18 y19 = some pp), Z p l e (rmo 2 0 0) s m args below meth c 6 G (MQ below (QC G none K pp) args s 0 0 (AG G)) K 0 0 M17 40 [(0, .ref (G.1 + 90)), (2, .int y18), (3, .int y19)] [] := by
  intro n
  induction n with
  | zero => intro M17 y18 y19 hf; exact nomatch (show (none : Option MM) = some pp from hf)
  | succ n ih =>
    intro M17 y18 y19 hf
    rw [fX12_walks_l40.eq_2] at hf
    refine z_iload_n C 2 3 dX12_walks_40 rfl rfl ?_
    refine z_iload_n C 1 2 dX12_walks_41 rfl rfl ?_
    refine z_icmp_ge C 142 dX12_walks_42 (by decide) (fun c20 => ?_) (fun c20 => ?_)
    · replace hf := ite_t c20 hf
      cases hf
      exact z_vret C rfl dX12_walks_142
    · replace hf := ite_f c20 hf
      refine z_iconst C 0 dX12_walks_45 (by decide) ?_
      refine z_istore C [(4, .int 0), (0, .ref (G.1 + 90)), (2, .int y18), (3, .int y19)] dX12_walks_46 (by decide) rfl rfl ?_
      refine z_lv (lv2 := [(0, .ref (G.1 + 90)), (2, .int y18), (3, .int y19), (4, .int 0)]) [1, 2, 3, 0] rfl ?_
      refine wX12_walks_l48 C hs0 hL _ pp ?_ FU M17 y18 y19 0 hf
      · intro M46 y47 y48 hf
        refine z_iinc C 2 (y48 + 1) [(3, .int (y48 + 1)), (0, .ref (G.1 + 90)), (2, .int y47)] dX12_walks_136 rfl rfl (by decide) rfl rfl ?_
        refine z_goto C 40 dX12_walks_139 (by decide) ?_
        refine z_lv (lv2 := [(0, .ref (G.1 + 90)), (2, .int y47), (3, .int (y48 + 1))]) [1, 2, 0] rfl ?_
        exact ih M46 y47 (y48 + 1)  hf
set_option maxHeartbeats 4000000 in
set_option maxRecDepth 100000 in
theorem tX12_walks (l : Launch) (G : GG) {K : SK} (hL : Lay K) (M : MM) (x1 : Int32) (pp : MM) (hf : fX12_walks M x1 = some pp) : Ct l yX12_walks cX12_walks 6 none 2 0 0 G K M [.ref (G.1 + 90), .int x1] none K pp := by
  refine z_enter (lv := [(0, .ref (G.1 + 90)), (1, .int x1)]) (by decide +kernel) (Nat.le_of_ble_eq_true rfl) rfl ?_
  intro p e s m args below meth c C hnm hs0
  replace C : CX p s m args meth c cX12_walks 6 none RX12 G := C
  unfold fX12_walks at hf
  refine z_iconst C 0 dX12_walks_0 (by decide) ?_
  refine z_istore_n C [(2, .int 0), (0, .ref (G.1 + 90)), (1, .int x1)] dX12_walks_1 rfl (by decide) rfl rfl ?_
  refine z_lv (lv2 := [(0, .ref (G.1 + 90)), (1, .int x1), (2, .int 0)]) [1, 2, 0] rfl ?_
  refine wX12_walks_l2 C hs0 hL _ pp ?_ FU M x1 0 hf
  · intro M10 y11 hf
    refine z_aload_n C 0 0 dX12_walks_22 rfl rfl ?_
    refine z_getR C ok_X12 (lay_c90 hL) 37 (110) (by decide) rfl (lay_r90_37 hL) q_fl_X12_68 dX12_walks_23 ?_
    refine z_iload_n C 1 1 dX12_walks_26 rfl rfl ?_
    refine z_iconst C 0 dX12_walks_27 (by decide) ?_
    replace hf := gd_out hf
    obtain ⟨g12, hf⟩ := hf
    refine z_iast C (lay_c110 hL) (inb_in g12) dX12_walks_28 ?_
    refine z_M (fun M13 e14 => ?_)
    replace hf := bnd_out e14 hf
    refine z_aload_n C 0 0 dX12_walks_29 rfl rfl ?_
    refine z_getR C ok_X12 (lay_c90 hL) 39 (112) (by decide) rfl (lay_r90_39 hL) q_fl_X12_74 dX12_walks_30 ?_
    refine z_iconst C 0 dX12_walks_33 (by decide) ?_
    refine z_iload_n C 1 1 dX12_walks_34 rfl rfl ?_
    refine z_iast C (lay_c112 hL) (inb_in (by decide)) dX12_walks_35 ?_
    refine z_M (fun M15 e16 => ?_)
    replace hf := bnd_out e16 hf
    refine z_iconst C 1 dX12_walks_36 (by decide) ?_
    refine z_istore_n C [(2, .int 1), (0, .ref (G.1 + 90)), (1, .int y11)] dX12_walks_37 rfl (by decide) rfl rfl ?_
    refine z_iconst C 0 dX12_walks_38 (by decide) ?_
    refine z_istore_n C [(3, .int 0), (2, .int 1), (0, .ref (G.1 + 90)), (1, .int y11)] dX12_walks_39 rfl (by decide) rfl rfl ?_
    refine z_lv (lv2 := [(0, .ref (G.1 + 90)), (2, .int 1), (3, .int 0)]) [2, 1, 0] rfl ?_
    exact wX12_walks_l40 C hs0 hL pp FU M15 1 0 hf
set_option maxHeartbeats 4000000 in
set_option maxRecDepth 100000 in
theorem tX12_way (l : Launch) (G : GG) {K : SK} (hL : Lay K) (M : MM) (x1 : Int32) (x2 : Int32) (x3 : Int32) (pp : (Int32 × MM)) (hf : fX12_way M x1 x2 x3 = some pp) : Ct l yX12_way cX12_way 4 (some .int) 3 0 0 G K M [.ref (G.1 + 90), .int x1, .int x2, .int x3] (some (.int pp.1)) K pp.2 := by
  refine z_enter (lv := [(0, .ref (G.1 + 90)), (1, .int x1), (2, .int x2), (3, .int x3)]) (by decide +kernel) (Nat.le_of_ble_eq_true rfl) rfl ?_
  intro p e s m args below meth c C hnm hs0
  replace C : CX p s m args meth c cX12_way 4 (some .int) RX12 G := C
  unfold fX12_way at hf
  refine z_aload_n C 0 0 dX12_way_0 rfl rfl ?_
  refine z_iload_n C 1 1 dX12_way_1 rfl rfl ?_
  replace hf := bd_out hf
  obtain ⟨p1, e2, hf⟩ := hf
  refine z_cV1 C [] (tX12_isParish l G hL M x1 _ e2) lk_X12_isParish ok_X12 (lay_c90 hL) q_ml_X12_225 rfl ⟨Nat.le_of_ble_eq_true rfl, Nat.le_of_ble_eq_true rfl⟩ rfl (Nat.le_of_ble_eq_true rfl) ⟨Nat.le_refl _, Nat.le_refl _⟩ dX12_way_2 ?_
  refine z_if_eq C 48 dX12_way_5 (by decide) (fun c3 => ?_) (fun c3 => ?_)
  · replace hf := ite_t c3 hf
    refine z_iconst C (-1) dX12_way_48 (by decide) ?_
    cases hf
    exact z_iret C rfl dX12_way_49
  · replace hf := ite_f c3 hf
    refine z_aload_n C 0 0 dX12_way_8 rfl rfl ?_
    refine z_iload_n C 2 2 dX12_way_9 rfl rfl ?_
    replace hf := bd_out hf
    obtain ⟨p4, e5, hf⟩ := hf
    refine z_cV1 C [] (tX12_isSquare l G hL p1.2 x2 _ e5) lk_X12_isSquare ok_X12 (lay_c90 hL) q_ml_X12_237 rfl ⟨Nat.le_of_ble_eq_true rfl, Nat.le_of_ble_eq_true rfl⟩ rfl (Nat.le_of_ble_eq_true rfl) ⟨Nat.le_refl _, Nat.le_refl _⟩ dX12_way_10 ?_
    refine z_if_eq C 48 dX12_way_13 (by decide) (fun c6 => ?_) (fun c6 => ?_)
    · replace hf := ite_t c6 hf
      refine z_iconst C (-1) dX12_way_48 (by decide) ?_
      cases hf
      exact z_iret C rfl dX12_way_49
    · replace hf := ite_f c6 hf
      refine z_aload_n C 0 0 dX12_way_16 rfl rfl ?_
      refine z_iload_n C 3 3 dX12_way_17 rfl rfl ?_
      replace hf := bd_out hf
      obtain ⟨p7, e8, hf⟩ := hf
      refine z_cV1 C [] (tX12_isSquare l G hL p1.2 x3 _ e8) lk_X12_isSquare ok_X12 (lay_c90 hL) q_ml_X12_237 rfl ⟨Nat.le_of_ble_eq_true rfl, Nat.le_of_ble_eq_true rfl⟩ rfl (Nat.le_of_ble_eq_true rfl) ⟨Nat.le_refl _, Nat.le_refl _⟩ dX12_way_18 ?_
      refine z_if_eq C 48 dX12_way_21 (by decide) (fun c9 => ?_) (fun c9 => ?_)
      · replace hf := ite_t c9 hf
        refine z_iconst C (-1) dX12_way_48 (by decide) ?_
        cases hf
        exact z_iret C rfl dX12_way_49
      · replace hf := ite_f c9 hf
        refine z_aload_n C 0 0 dX12_way_24 rfl rfl ?_
        refine z_aload_n C 0 0 dX12_way_25 rfl rfl ?_
        refine z_iload_n C 2 2 dX12_way_26 rfl rfl ?_
        replace hf := bd_out hf
        obtain ⟨p10, e11, hf⟩ := hf
        refine z_cV1 C [.ref (G.1 + 90)] (tX12_inside l G hL p1.2 x2 _ e11) lk_X12_inside ok_X12 (lay_c90 hL) q_ml_X12_240 rfl ⟨Nat.le_of_ble_eq_true rfl, Nat.le_of_ble_eq_true rfl⟩ rfl (Nat.le_of_ble_eq_true rfl) ⟨Nat.le_refl _, Nat.le_refl _⟩ dX12_way_27 ?_
        replace hf := bd_out hf
        obtain ⟨p12, e13, hf⟩ := hf
        refine z_cV1 C [] (tX12_isWall l G hL p1.2 p10 _ e13) lk_X12_isWall ok_X12 (lay_c90 hL) q_ml_X12_343 rfl ⟨Nat.le_of_ble_eq_true rfl, Nat.le_of_ble_eq_true rfl⟩ rfl (Nat.le_of_ble_eq_true rfl) ⟨Nat.le_refl _, Nat.le_refl _⟩ dX12_way_30 ?_
        refine z_if_ne C 48 dX12_way_33 (by decide) (fun c14 => ?_) (fun c14 => ?_)
        · replace hf := ite_f c14 hf
          refine z_iconst C (-1) dX12_way_48 (by decide) ?_
          cases hf
          exact z_iret C rfl dX12_way_49
        · replace hf := ite_t c14 hf
          refine z_aload_n C 0 0 dX12_way_36 rfl rfl ?_
          refine z_aload_n C 0 0 dX12_way_37 rfl rfl ?_
          refine z_iload_n C 3 3 dX12_way_38 rfl rfl ?_
          replace hf := bd_out hf
          obtain ⟨p15, e16, hf⟩ := hf
          refine z_cV1 C [.ref (G.1 + 90)] (tX12_inside l G hL p1.2 x3 _ e16) lk_X12_inside ok_X12 (lay_c90 hL) q_ml_X12_240 rfl ⟨Nat.le_of_ble_eq_true rfl, Nat.le_of_ble_eq_true rfl⟩ rfl (Nat.le_of_ble_eq_true rfl) ⟨Nat.le_refl _, Nat.le_refl _⟩ dX12_way_39 ?_
          replace hf := bd_out hf
          obtain ⟨p17, e18, hf⟩ := hf
          refine z_cV1 C [] (tX12_isWall l G hL p1.2 p15 _ e18) lk_X12_isWall ok_X12 (lay_c90 hL) q_ml_X12_343 rfl ⟨Nat.le_of_ble_eq_true rfl, Nat.le_of_ble_eq_true rfl⟩ rfl (Nat.le_of_ble_eq_true rfl) ⟨Nat.le_refl _, Nat.le_refl _⟩ dX12_way_42 ?_
          refine z_if_eq C 50 dX12_way_45 (by decide) (fun c19 => ?_) (fun c19 => ?_)
          · replace hf := ite_t c19 hf
            refine z_aload_n C 0 0 dX12_way_50 rfl rfl ?_
            refine z_aload_n C 0 0 dX12_way_51 rfl rfl ?_
            refine z_iload_n C 2 2 dX12_way_52 rfl rfl ?_
            replace hf := bd_out hf
            obtain ⟨p20, e21, hf⟩ := hf
            refine z_cV1 C [.ref (G.1 + 90)] (tX12_inside l G hL p1.2 x2 _ e21) lk_X12_inside ok_X12 (lay_c90 hL) q_ml_X12_240 rfl ⟨Nat.le_of_ble_eq_true rfl, Nat.le_of_ble_eq_true rfl⟩ rfl (Nat.le_of_ble_eq_true rfl) ⟨Nat.le_refl _, Nat.le_refl _⟩ dX12_way_53 ?_
            replace hf := bd_out hf
            obtain ⟨p22, e23, hf⟩ := hf
            refine z_cV0 C [] (tX12_walks l G hL p1.2 p20 _ e23) lk_X12_walks ok_X12 (lay_c90 hL) q_ml_X12_346 rfl ⟨Nat.le_of_ble_eq_true rfl, Nat.le_of_ble_eq_true rfl⟩ rfl (Nat.le_of_ble_eq_true rfl) ⟨Nat.le_refl _, Nat.le_refl _⟩ dX12_way_56 ?_
            refine z_aload_n C 0 0 dX12_way_59 rfl rfl ?_
            refine z_getR C ok_X12 (lay_c90 hL) 37 (110) (by decide) rfl (lay_r90_37 hL) q_fl_X12_68 dX12_way_60 ?_
            refine z_aload_n C 0 0 dX12_way_63 rfl rfl ?_
            refine z_iload_n C 3 3 dX12_way_64 rfl rfl ?_
            replace hf := bd_out hf
            obtain ⟨p24, e25, hf⟩ := hf
            refine z_cV1 C [.ref (G.1 + 110)] (tX12_inside l G hL p22 x3 _ e25) lk_X12_inside ok_X12 (lay_c90 hL) q_ml_X12_240 rfl ⟨Nat.le_of_ble_eq_true rfl, Nat.le_of_ble_eq_true rfl⟩ rfl (Nat.le_of_ble_eq_true rfl) ⟨Nat.le_refl _, Nat.le_refl _⟩ dX12_way_65 ?_
            replace hf := gd_out hf
            obtain ⟨g26, hf⟩ := hf
            refine z_iald C (lay_c110 hL) (inb_in g26) dX12_way_68 ?_
            refine z_bipush C 99 dX12_way_69 (by decide) ?_
            refine z_icmp_ne C 78 dX12_way_71 (by decide) (fun c27 => ?_) (fun c27 => ?_)
            · replace hf := ite_f c27 hf
              refine z_aload_n C 0 0 dX12_way_78 rfl rfl ?_
              refine z_getR C ok_X12 (lay_c90 hL) 37 (110) (by decide) rfl (lay_r90_37 hL) q_fl_X12_68 dX12_way_79 ?_
              refine z_aload_n C 0 0 dX12_way_82 rfl rfl ?_
              refine z_iload_n C 3 3 dX12_way_83 rfl rfl ?_
              replace hf := bd_out hf
              obtain ⟨p28, e29, hf⟩ := hf
              refine z_cV1 C [.ref (G.1 + 110)] (tX12_inside l G hL p22 x3 _ e29) lk_X12_inside ok_X12 (lay_c90 hL) q_ml_X12_240 rfl ⟨Nat.le_of_ble_eq_true rfl, Nat.le_of_ble_eq_true rfl⟩ rfl (Nat.le_of_ble_eq_true rfl) ⟨Nat.le_refl _, Nat.le_refl _⟩ dX12_way_84 ?_
              replace hf := gd_out hf
              obtain ⟨g30, hf⟩ := hf
              refine z_iald C (lay_c110 hL) (inb_in g30) dX12_way_87 ?_
              cases hf
              exact z_iret C rfl dX12_way_88
            · replace hf := ite_t c27 hf
              refine z_iconst C (-1) dX12_way_74 (by decide) ?_
              refine z_goto C 88 dX12_way_75 (by decide) ?_
              cases hf
              exact z_iret C rfl dX12_way_88
          · replace hf := ite_f c19 hf
            refine z_iconst C (-1) dX12_way_48 (by decide) ?_
            cases hf
            exact z_iret C rfl dX12_way_49
set_option maxHeartbeats 4000000 in
set_option maxRecDepth 100000 in
theorem wX12_laysRounds_l22 (C : CX p s m args meth c cX12_laysRounds 6 none RX12 G) (hs0 : s.heap.size = G.1 + K.1) (hL : Lay K)  (k58 : MM → Int32 → Int32 → Option MM) (pp : MM) (hk58 : ∀ (M15 : MM) (y16 : Int32) (y17 : Int32), k58 M15 y16 y17 = some pp → Z p l e (rmo 3 0 0) s m args below meth c 6 G (MQ below (QC G none K pp) args s 0 0 (AG G)) K 0 0 M15 58 [(0, .ref (G.1 + 90)), (1, .int y16), (2, .int y17)] []) : ∀ (n : Nat) (M10 : MM) (y11 : Int32) (y12 : Int32) (y13 : Int32) (hf : fX12_laysRounds_l22 k58 n M10 y11 y12 y13 = some pp), Z p l e (rmo 3 0 0) s m args below meth c 6 G (MQ below (QC G none K pp) args s 0 0 (AG G)) K 0 0 M10 22 [(0, .ref (G.1 + 90)), (1, .int y11), (2, .int y12), (3, .int y13)] [] := by
  intro n
  induction n with
  | zero => intro M10 y11 y12 y13 hf; exact nomatch (show (none : Option MM) = some pp from hf)
  | succ n ih =>
    intro M10 y11 y12 y13 hf
    rw [fX12_laysRounds_l22.eq_2] at hf
    refine z_iload_n C 3 3 dX12_laysRounds_22 rfl rfl ?_
    refine z_aload_n C 0 0 dX12_laysRounds_23 rfl rfl ?_
    refine z_getI C ok_X12 (lay_c90 hL) 14 (by decide) rfl q_fl_X12_216 dX12_laysRounds_24 ?_
    refine z_icmp_ge C 58 dX12_laysRounds_27 (by decide) (fun c14 => ?_) (fun c14 => ?_)
    · replace hf := ite_t c14 hf
      refine z_lv (lv2 := [(0, .ref (G.1 + 90)), (1, .int y11), (2, .int y12)]) [0, 1, 2] rfl ?_
      exact hk58 M10 y11 y12  hf
    · replace hf := ite_f c14 hf
      refine z_aload_n C 0 0 dX12_laysRounds_30 rfl rfl ?_
      refine z_getR C ok_X12 (lay_c90 hL) 38 (111) (by decide) rfl (lay_r90_38 hL) q_fl_X12_71 dX12_laysRounds_31 ?_
      refine z_bipush C 8 dX12_laysRounds_34 (by decide) ?_
      refine z_iload_n C 2 2 dX12_laysRounds_36 rfl rfl ?_
      refine z_imul C dX12_laysRounds_37 ?_
      refine z_iload_n C 3 3 dX12_laysRounds_38 rfl rfl ?_
      refine z_iadd C dX12_laysRounds_39 ?_
      refine z_aload_n C 0 0 dX12_laysRounds_40 rfl rfl ?_
      refine z_getR C ok_X12 (lay_c90 hL) 37 (110) (by decide) rfl (lay_r90_37 hL) q_fl_X12_68 dX12_laysRounds_41 ?_
      refine z_aload_n C 0 0 dX12_laysRounds_44 rfl rfl ?_
      refine z_getR C ok_X12 (lay_c90 hL) 18 (97) (by decide) rfl (lay_r90_18 hL) q_fl_X12_29 dX12_laysRounds_45 ?_
      refine z_iload_n C 3 3 dX12_laysRounds_48 rfl rfl ?_
      replace hf := gd_out hf
      obtain ⟨g18, hf⟩ := hf
      refine z_iald C (lay_c97 hL) (inb_in g18) dX12_laysRounds_49 ?_
      replace hf := gd_out hf
      obtain ⟨g19, hf⟩ := hf
      refine z_iald C (lay_c110 hL) (inb_in g19) dX12_laysRounds_50 ?_
      replace hf := gd_out hf
      obtain ⟨g20, hf⟩ := hf
      refine z_iast C (lay_c111 hL) (inb_in g20) dX12_laysRounds_51 ?_
      refine z_M (fun M21 e22 => ?_)
      replace hf := bnd_out e22 hf
      refine z_iinc C 3 (y13 + 1) [(3, .int (y13 + 1)), (0, .ref (G.1 + 90)), (1, .int y11), (2, .int y12)] dX12_laysRounds_52 rfl rfl (by decide) rfl rfl ?_
      refine z_goto C 22 dX12_laysRounds_55 (by decide) ?_
      refine z_lv (lv2 := [(0, .ref (G.1 + 90)), (1, .int y11), (2, .int y12), (3, .int (y13 + 1))]) [1, 2, 3, 0] rfl ?_
      exact ih M21 y11 y12 (y13 + 1)  hf
set_option maxHeartbeats 4000000 in
set_option maxRecDepth 100000 in
theorem wX12_laysRounds_l2 (C : CX p s m args meth c cX12_laysRounds 6 none RX12 G) (hs0 : s.heap.size = G.1 + K.1) (hL : Lay K)  (k64 : MM → Int32 → Option MM) (pp : MM) (hk64 : ∀ (M5 : MM) (y6 : Int32), k64 M5 y6 = some pp → Z p l e (rmo 3 0 0) s m args below meth c 6 G (MQ below (QC G none K pp) args s 0 0 (AG G)) K 0 0 M5 64 [(0, .ref (G.1 + 90)), (1, .int y6)] []) : ∀ (n : Nat) (M1 : MM) (y2 : Int32) (y3 : Int32) (hf : fX12_laysRounds_l2 k64 n M1 y2 y3 = some pp), Z p l e (rmo 3 0 0) s m args below meth c 6 G (MQ below (QC G none K pp) args s 0 0 (AG G)) K 0 0 M1 2 [(0, .ref (G.1 + 90)), (1, .int y2), (2, .int y3)] [] := by
  intro n
  induction n with
  | zero => intro M1 y2 y3 hf; exact nomatch (show (none : Option MM) = some pp from hf)
  | succ n ih =>
    intro M1 y2 y3 hf
    rw [fX12_laysRounds_l2.eq_2] at hf
    refine z_iload_n C 2 2 dX12_laysRounds_2 rfl rfl ?_
    refine z_aload_n C 0 0 dX12_laysRounds_3 rfl rfl ?_
    refine z_getI C ok_X12 (lay_c90 hL) 14 (by decide) rfl q_fl_X12_216 dX12_laysRounds_4 ?_
    refine z_icmp_ge C 64 dX12_laysRounds_7 (by decide) (fun c4 => ?_) (fun c4 => ?_)
    · replace hf := ite_t c4 hf
      refine z_lv (lv2 := [(0, .ref (G.1 + 90)), (1, .int y2)]) [0, 1] rfl ?_
      exact hk64 M1 y2  hf
    · replace hf := ite_f c4 hf
      refine z_aload_n C 0 0 dX12_laysRounds_10 rfl rfl ?_
      refine z_aload_n C 0 0 dX12_laysRounds_11 rfl rfl ?_
      refine z_getR C ok_X12 (lay_c90 hL) 18 (97) (by decide) rfl (lay_r90_18 hL) q_fl_X12_29 dX12_laysRounds_12 ?_
      refine z_iload_n C 2 2 dX12_laysRounds_15 rfl rfl ?_
      replace hf := gd_out hf
      obtain ⟨g7, hf⟩ := hf
      refine z_iald C (lay_c97 hL) (inb_in g7) dX12_laysRounds_16 ?_
      replace hf := bd_out hf
      obtain ⟨p8, e9, hf⟩ := hf
      refine z_cV0 C [] (tX12_walks l G hL M1 (gI M1 97 (ix y3)) _ e9) lk_X12_walks ok_X12 (lay_c90 hL) q_ml_X12_346 rfl ⟨Nat.le_of_ble_eq_true rfl, Nat.le_of_ble_eq_true rfl⟩ rfl (Nat.le_of_ble_eq_true rfl) ⟨Nat.le_refl _, Nat.le_refl _⟩ dX12_laysRounds_17 ?_
      refine z_iconst C 0 dX12_laysRounds_20 (by decide) ?_
      refine z_istore_n C [(3, .int 0), (0, .ref (G.1 + 90)), (1, .int y2), (2, .int y3)] dX12_laysRounds_21 rfl (by decide) rfl rfl ?_
      refine z_lv (lv2 := [(0, .ref (G.1 + 90)), (1, .int y2), (2, .int y3), (3, .int 0)]) [1, 2, 3, 0] rfl ?_
      refine wX12_laysRounds_l22 C hs0 hL _ pp ?_ FU p8 y2 y3 0 hf
      · intro M23 y24 y25 hf
        refine z_iinc C 2 (y25 + 1) [(2, .int (y25 + 1)), (0, .ref (G.1 + 90)), (1, .int y24)] dX12_laysRounds_58 rfl rfl (by decide) rfl rfl ?_
        refine z_goto C 2 dX12_laysRounds_61 (by decide) ?_
        refine z_lv (lv2 := [(0, .ref (G.1 + 90)), (1, .int y24), (2, .int (y25 + 1))]) [1, 2, 0] rfl ?_
        exact ih M23 y24 (y25 + 1)  hf
set_option maxHeartbeats 4000000 in
set_option maxRecDepth 100000 in
theorem wX12_laysRounds_l71 (C : CX p s m args meth c cX12_laysRounds 6 none RX12 G) (hs0 : s.heap.size = G.1 + K.1) (hL : Lay K)  (k93 : MM → Option MM) (pp : MM) (hk93 : ∀ (M33 : MM), k93 M33 = some pp → Z p l e (rmo 3 0 0) s m args below meth c 6 G (MQ below (QC G none K pp) args s 0 0 (AG G)) K 0 0 M33 93 [(0, .ref (G.1 + 90))] []) : ∀ (n : Nat) (M30 : MM) (y31 : Int32) (hf : fX12_laysRounds_l71 k93 n M30 y31 = some pp), Z p l e (rmo 3 0 0) s m args below meth c 6 G (MQ below (QC G none K pp) args s 0 0 (AG G)) K 0 0 M30 71 [(0, .ref (G.1 + 90)), (2, .int y31)] [] := by
  intro n
  induction n with
  | zero => intro M30 y31 hf; exact nomatch (show (none : Option MM) = some pp from hf)
  | succ n ih =>
    intro M30 y31 hf
    rw [fX12_laysRounds_l71.eq_2] at hf
    refine z_iload_n C 1 2 dX12_laysRounds_71 rfl rfl ?_
    refine z_sipush C 2048 dX12_laysRounds_72 (by decide) ?_
    refine z_icmp_ge C 93 dX12_laysRounds_75 (by decide) (fun c32 => ?_) (fun c32 => ?_)
    · replace hf := ite_t c32 hf
      refine z_lv (lv2 := [(0, .ref (G.1 + 90))]) [0] rfl ?_
      exact hk93 M30  hf
    · replace hf := ite_f c32 hf
      refine z_aload_n C 0 0 dX12_laysRounds_78 rfl rfl ?_
      refine z_getR C ok_X12 (lay_c90 hL) 40 (113) (by decide) rfl (lay_r90_40 hL) q_fl_X12_77 dX12_laysRounds_79 ?_
      refine z_iload_n C 1 2 dX12_laysRounds_82 rfl rfl ?_
      refine z_sipush C 9999 dX12_laysRounds_83 (by decide) ?_
      replace hf := gd_out hf
      obtain ⟨g34, hf⟩ := hf
      refine z_iast C (lay_c113 hL) (inb_in g34) dX12_laysRounds_86 ?_
      refine z_M (fun M35 e36 => ?_)
      replace hf := bnd_out e36 hf
      refine z_iinc C 1 (y31 + 1) [(2, .int (y31 + 1)), (0, .ref (G.1 + 90))] dX12_laysRounds_87 rfl rfl (by decide) rfl rfl ?_
      refine z_goto C 71 dX12_laysRounds_90 (by decide) ?_
      refine z_lv (lv2 := [(0, .ref (G.1 + 90)), (2, .int (y31 + 1))]) [1, 0] rfl ?_
      exact ih M35 (y31 + 1)  hf
set_option maxHeartbeats 4000000 in
set_option maxRecDepth 100000 in
theorem wX12_laysRounds_l95 (C : CX p s m args meth c cX12_laysRounds 6 none RX12 G) (hs0 : s.heap.size = G.1 + K.1) (hL : Lay K)  (k149 : MM → Option MM) (pp : MM) (hk149 : ∀ (M41 : MM), k149 M41 = some pp → Z p l e (rmo 3 0 0) s m args below meth c 6 G (MQ below (QC G none K pp) args s 0 0 (AG G)) K 0 0 M41 149 [(0, .ref (G.1 + 90))] []) : ∀ (n : Nat) (M38 : MM) (y39 : Int32) (hf : fX12_laysRounds_l95 k149 n M38 y39 = some pp), Z p l e (rmo 3 0 0) s m args below meth c 6 G (MQ below (QC G none K pp) args s 0 0 (AG G)) K 0 0 M38 95 [(0, .ref (G.1 + 90)), (2, .int y39)] [] := by
  intro n
  induction n with
  | zero => intro M38 y39 hf; exact nomatch (show (none : Option MM) = some pp from hf)
  | succ n ih =>
    intro M38 y39 hf
    rw [fX12_laysRounds_l95.eq_2] at hf
    refine z_iload_n C 1 2 dX12_laysRounds_95 rfl rfl ?_
    refine z_aload_n C 0 0 dX12_laysRounds_96 rfl rfl ?_
    refine z_getI C ok_X12 (lay_c90 hL) 14 (by decide) rfl q_fl_X12_216 dX12_laysRounds_97 ?_
    refine z_icmp_ge C 149 dX12_laysRounds_100 (by decide) (fun c40 => ?_) (fun c40 => ?_)
    · replace hf := ite_t c40 hf
      refine z_lv (lv2 := [(0, .ref (G.1 + 90))]) [0] rfl ?_
      exact hk149 M38  hf
    · replace hf := ite_f c40 hf
      refine z_aload_n C 0 0 dX12_laysRounds_103 rfl rfl ?_
      refine z_getR C ok_X12 (lay_c90 hL) 37 (110) (by decide) rfl (lay_r90_37 hL) q_fl_X12_68 dX12_laysRounds_104 ?_
      refine z_aload_n C 0 0 dX12_laysRounds_107 rfl rfl ?_
      refine z_getR C ok_X12 (lay_c90 hL) 18 (97) (by decide) rfl (lay_r90_18 hL) q_fl_X12_29 dX12_laysRounds_108 ?_
      refine z_iload_n C 1 2 dX12_laysRounds_111 rfl rfl ?_
      replace hf := gd_out hf
      obtain ⟨g42, hf⟩ := hf
      refine z_iald C (lay_c97 hL) (inb_in g42) dX12_laysRounds_112 ?_
      replace hf := gd_out hf
      obtain ⟨g43, hf⟩ := hf
      refine z_iald C (lay_c110 hL) (inb_in g43) dX12_laysRounds_113 ?_
      refine z_bipush C 99 dX12_laysRounds_114 (by decide) ?_
      refine z_icmp_eq C 143 dX12_laysRounds_116 (by decide) (fun c44 => ?_) (fun c44 => ?_)
      · replace hf := ite_t c44 hf
        refine z_iinc C 1 (y39 + 1) [(2, .int (y39 + 1)), (0, .ref (G.1 + 90))] dX12_laysRounds_143 rfl rfl (by decide) rfl rfl ?_
        refine z_goto C 95 dX12_laysRounds_146 (by decide) ?_
        refine z_lv (lv2 := [(0, .ref (G.1 + 90)), (2, .int (y39 + 1))]) [1, 0] rfl ?_
        exact ih M38 (y39 + 1)  hf
      · replace hf := ite_f c44 hf
        refine z_aload_n C 0 0 dX12_laysRounds_119 rfl rfl ?_
        refine z_getR C ok_X12 (lay_c90 hL) 40 (113) (by decide) rfl (lay_r90_40 hL) q_fl_X12_77 dX12_laysRounds_120 ?_
        refine z_bipush C 8 dX12_laysRounds_123 (by decide) ?_
        refine z_iconst C 1 dX12_laysRounds_125 (by decide) ?_
        refine z_iload_n C 1 2 dX12_laysRounds_126 rfl rfl ?_
        refine z_ishl C dX12_laysRounds_127 ?_
        refine z_imul C dX12_laysRounds_128 ?_
        refine z_iload_n C 1 2 dX12_laysRounds_129 rfl rfl ?_
        refine z_iadd C dX12_laysRounds_130 ?_
        refine z_aload_n C 0 0 dX12_laysRounds_131 rfl rfl ?_
        refine z_getR C ok_X12 (lay_c90 hL) 37 (110) (by decide) rfl (lay_r90_37 hL) q_fl_X12_68 dX12_laysRounds_132 ?_
        refine z_aload_n C 0 0 dX12_laysRounds_135 rfl rfl ?_
        refine z_getR C ok_X12 (lay_c90 hL) 18 (97) (by decide) rfl (lay_r90_18 hL) q_fl_X12_29 dX12_laysRounds_136 ?_
        refine z_iload_n C 1 2 dX12_laysRounds_139 rfl rfl ?_
        replace hf := gd_out hf
        obtain ⟨g45, hf⟩ := hf
        refine z_iald C (lay_c97 hL) (inb_in g45) dX12_laysRounds_140 ?_
        replace hf := gd_out hf
        obtain ⟨g46, hf⟩ := hf
        refine z_iald C (lay_c110 hL) (inb_in g46) dX12_laysRounds_141 ?_
        replace hf := gd_out hf
        obtain ⟨g47, hf⟩ := hf
        refine z_iast C (lay_c113 hL) (inb_in g47) dX12_laysRounds_142 ?_
        refine z_M (fun M48 e49 => ?_)
        replace hf := bnd_out e49 hf
        refine z_iinc C 1 (y39 + 1) [(2, .int (y39 + 1)), (0, .ref (G.1 + 90))] dX12_laysRounds_143 rfl rfl (by decide) rfl rfl ?_
        refine z_goto C 95 dX12_laysRounds_146 (by decide) ?_
        refine z_lv (lv2 := [(0, .ref (G.1 + 90)), (2, .int (y39 + 1))]) [1, 0] rfl ?_
        exact ih M48 (y39 + 1)  hf
set_option maxHeartbeats 4000000 in
set_option maxRecDepth 100000 in
theorem wX12_laysRounds_j290 (C : CX p s m args meth c cX12_laysRounds 6 none RX12 G) (hs0 : s.heap.size = G.1 + K.1) (hL : Lay K)  (k180 : MM → Int32 → Int32 → Option MM) (pp : MM) (hk180 : ∀ (M82 : MM) (y83 : Int32) (y84 : Int32), k180 M82 y83 y84 = some pp → Z p l e (rmo 3 0 0) s m args below meth c 6 G (MQ below (QC G none K pp) args s 0 0 (AG G)) K 0 0 M82 180 [(0, .ref (G.1 + 90)), (2, .int y83), (3, .int y84)] []) (M74 : MM) (y75 : Int32) (y76 : Int32) (y77 : Int32) (y78 : Int32) (hf : fX12_laysRounds_j290 k180 M74 y75 y76 y77 y78 = some pp) : Z p l e (rmo 3 0 0) s m args below meth c 6 G (MQ below (QC G none K pp) args s 0 0 (AG G)) K 0 0 M74 290 [(0, .ref (G.1 + 90)), (2, .int y75), (3, .int y76)] [.int y78, .int y77, .ref (G.1 + 113)] := by
  unfold fX12_laysRounds_j290 at hf
  replace hf := gd_out hf
  obtain ⟨g79, hf⟩ := hf
  refine z_iast C (lay_c113 hL) (inb_in g79) dX12_laysRounds_290 ?_
  refine z_M (fun M80 e81 => ?_)
  replace hf := bnd_out e81 hf
  refine z_iinc C 2 (y76 + 1) [(3, .int (y76 + 1)), (0, .ref (G.1 + 90)), (2, .int y75)] dX12_laysRounds_291 rfl rfl (by decide) rfl rfl ?_
  refine z_goto C 180 dX12_laysRounds_294 (by decide) ?_
  refine z_lv (lv2 := [(0, .ref (G.1 + 90)), (2, .int y75), (3, .int (y76 + 1))]) [1, 2, 0] rfl ?_
  exact hk180 M80 y75 (y76 + 1)  hf
set_option maxHeartbeats 4000000 in
set_option maxRecDepth 100000 in
theorem wX12_laysRounds_l180 (C : CX p s m args meth c cX12_laysRounds 6 none RX12 G) (hs0 : s.heap.size = G.1 + K.1) (hL : Lay K)  (k297 : MM → Int32 → Option MM) (pp : MM) (hk297 : ∀ (M60 : MM) (y61 : Int32), k297 M60 y61 = some pp → Z p l e (rmo 3 0 0) s m args below meth c 6 G (MQ below (QC G none K pp) args s 0 0 (AG G)) K 0 0 M60 297 [(0, .ref (G.1 + 90)), (2, .int y61)] []) : ∀ (n : Nat) (M56 : MM) (y57 : Int32) (y58 : Int32) (hf : fX12_laysRounds_l180 k297 n M56 y57 y58 = some pp), Z p l e (rmo 3 0 0) s m args below meth c 6 G (MQ below (QC G none K pp) args s 0 0 (AG G)) K 0 0 M56 180 [(0, .ref (G.1 + 90)), (2, .int y57), (3, .int y58)] [] := by
  intro n
  induction n with
  | zero => intro M56 y57 y58 hf; exact nomatch (show (none : Option MM) = some pp from hf)
  | succ n ih =>
    intro M56 y57 y58 hf
    rw [fX12_laysRounds_l180.eq_2] at hf
    refine z_iload_n C 2 3 dX12_laysRounds_180 rfl rfl ?_
    refine z_aload_n C 0 0 dX12_laysRounds_181 rfl rfl ?_
    refine z_getI C ok_X12 (lay_c90 hL) 14 (by decide) rfl q_fl_X12_216 dX12_laysRounds_182 ?_
    refine z_icmp_ge C 297 dX12_laysRounds_185 (by decide) (fun c59 => ?_) (fun c59 => ?_)
    · replace hf := ite_t c59 hf
      refine z_lv (lv2 := [(0, .ref (G.1 + 90)), (2, .int y57)]) [0, 1] rfl ?_
      exact hk297 M56 y57  hf
    · replace hf := ite_f c59 hf
      refine z_iload_n C 1 2 dX12_laysRounds_188 rfl rfl ?_
      refine z_bipush C 8 dX12_laysRounds_189 (by decide) ?_
      refine z_idiv C (by decide) dX12_laysRounds_191 ?_
      refine z_iload_n C 2 3 dX12_laysRounds_192 rfl rfl ?_
      refine z_ishr C dX12_laysRounds_193 ?_
      refine z_iconst C 1 dX12_laysRounds_194 (by decide) ?_
      refine z_iand C dX12_laysRounds_195 ?_
      refine z_iconst C 1 dX12_laysRounds_196 (by decide) ?_
      refine z_icmp_eq C 291 dX12_laysRounds_197 (by decide) (fun c62 => ?_) (fun c62 => ?_)
      · replace hf := ite_t c62 hf
        refine z_iinc C 2 (y58 + 1) [(3, .int (y58 + 1)), (0, .ref (G.1 + 90)), (2, .int y57)] dX12_laysRounds_291 rfl rfl (by decide) rfl rfl ?_
        refine z_goto C 180 dX12_laysRounds_294 (by decide) ?_
        refine z_lv (lv2 := [(0, .ref (G.1 + 90)), (2, .int y57), (3, .int (y58 + 1))]) [1, 2, 0] rfl ?_
        exact ih M56 y57 (y58 + 1)  hf
      · replace hf := ite_f c62 hf
        refine z_aload_n C 0 0 dX12_laysRounds_200 rfl rfl ?_
        refine z_getR C ok_X12 (lay_c90 hL) 38 (111) (by decide) rfl (lay_r90_38 hL) q_fl_X12_71 dX12_laysRounds_201 ?_
        refine z_bipush C 8 dX12_laysRounds_204 (by decide) ?_
        refine z_iload_n C 1 2 dX12_laysRounds_206 rfl rfl ?_
        refine z_bipush C 8 dX12_laysRounds_207 (by decide) ?_
        refine z_irem C (by decide) dX12_laysRounds_209 ?_
        refine z_imul C dX12_laysRounds_210 ?_
        refine z_iload_n C 2 3 dX12_laysRounds_211 rfl rfl ?_
        refine z_iadd C dX12_laysRounds_212 ?_
        replace hf := gd_out hf
        obtain ⟨g63, hf⟩ := hf
        refine z_iald C (lay_c111 hL) (inb_in g63) dX12_laysRounds_213 ?_
        refine z_bipush C 99 dX12_laysRounds_214 (by decide) ?_
        refine z_icmp_ne C 222 dX12_laysRounds_216 (by decide) (fun c64 => ?_) (fun c64 => ?_)
        · replace hf := ite_f c64 hf
          refine z_bipush C 8 dX12_laysRounds_222 (by decide) ?_
          refine z_iload_n C 1 2 dX12_laysRounds_224 rfl rfl ?_
          refine z_bipush C 8 dX12_laysRounds_225 (by decide) ?_
          refine z_idiv C (by decide) dX12_laysRounds_227 ?_
          refine z_iconst C 1 dX12_laysRounds_228 (by decide) ?_
          refine z_iload_n C 2 3 dX12_laysRounds_229 rfl rfl ?_
          refine z_ishl C dX12_laysRounds_230 ?_
          refine z_ior C dX12_laysRounds_231 ?_
          refine z_imul C dX12_laysRounds_232 ?_
          refine z_iload_n C 2 3 dX12_laysRounds_233 rfl rfl ?_
          refine z_iadd C dX12_laysRounds_234 ?_
          refine z_topi (fun v65 e66 => ?_)
          replace hf := bnd_out e66 hf
          refine z_istore C [(4, .int v65), (0, .ref (G.1 + 90)), (2, .int y57), (3, .int y58)] dX12_laysRounds_235 (by decide) rfl rfl ?_
          refine z_aload_n C 1 0 dX12_laysRounds_237 rfl rfl ?_
          refine z_getR C ok_X12 (lay_c90 hL) 40 (113) (by decide) rfl (lay_r90_40 hL) q_fl_X12_77 dX12_laysRounds_238 ?_
          refine z_iload_n C 2 2 dX12_laysRounds_241 rfl rfl ?_
          replace hf := gd_out hf
          obtain ⟨g67, hf⟩ := hf
          refine z_iald C (lay_c113 hL) (inb_in g67) dX12_laysRounds_242 ?_
          refine z_aload_n C 1 0 dX12_laysRounds_243 rfl rfl ?_
          refine z_getR C ok_X12 (lay_c90 hL) 38 (111) (by decide) rfl (lay_r90_38 hL) q_fl_X12_71 dX12_laysRounds_244 ?_
          refine z_bipush C 8 dX12_laysRounds_247 (by decide) ?_
          refine z_iload_n C 2 2 dX12_laysRounds_249 rfl rfl ?_
          refine z_bipush C 8 dX12_laysRounds_250 (by decide) ?_
          refine z_irem C (by decide) dX12_laysRounds_252 ?_
          refine z_imul C dX12_laysRounds_253 ?_
          refine z_iload_n C 3 3 dX12_laysRounds_254 rfl rfl ?_
          refine z_iadd C dX12_laysRounds_255 ?_
          replace hf := gd_out hf
          obtain ⟨g68, hf⟩ := hf
          refine z_iald C (lay_c111 hL) (inb_in g68) dX12_laysRounds_256 ?_
          refine z_iadd C dX12_laysRounds_257 ?_
          refine z_topi (fun v69 e70 => ?_)
          replace hf := bnd_out e70 hf
          refine z_istore C [(5, .int v69), (4, .int v65), (0, .ref (G.1 + 90)), (2, .int y57), (3, .int y58)] dX12_laysRounds_258 (by decide) rfl rfl ?_
          refine z_aload_n C 2 0 dX12_laysRounds_260 rfl rfl ?_
          refine z_getR C ok_X12 (lay_c90 hL) 40 (113) (by decide) rfl (lay_r90_40 hL) q_fl_X12_77 dX12_laysRounds_261 ?_
          refine z_iload C 1 dX12_laysRounds_264 rfl ?_
          refine z_iload C 0 dX12_laysRounds_266 rfl ?_
          refine z_aload_n C 2 0 dX12_laysRounds_268 rfl rfl ?_
          refine z_getR C ok_X12 (lay_c90 hL) 40 (113) (by decide) rfl (lay_r90_40 hL) q_fl_X12_77 dX12_laysRounds_269 ?_
          refine z_iload C 1 dX12_laysRounds_272 rfl ?_
          replace hf := gd_out hf
          obtain ⟨g71, hf⟩ := hf
          refine z_iald C (lay_c113 hL) (inb_in g71) dX12_laysRounds_274 ?_
          refine z_icmp_ge C 283 dX12_laysRounds_275 (by decide) (fun c72 => ?_) (fun c72 => ?_)
          · replace hf := ite_t c72 hf
            refine z_aload_n C 2 0 dX12_laysRounds_283 rfl rfl ?_
            refine z_getR C ok_X12 (lay_c90 hL) 40 (113) (by decide) rfl (lay_r90_40 hL) q_fl_X12_77 dX12_laysRounds_284 ?_
            refine z_iload C 1 dX12_laysRounds_287 rfl ?_
            replace hf := gd_out hf
            obtain ⟨g73, hf⟩ := hf
            refine z_iald C (lay_c113 hL) (inb_in g73) dX12_laysRounds_289 ?_
            refine z_lv (lv2 := [(0, .ref (G.1 + 90)), (2, .int y57), (3, .int y58)]) [2, 3, 4] rfl ?_
            refine wX12_laysRounds_j290 C hs0 hL _ pp ?_ M56 y57 y58 v65 (gI M56 113 (ix v65)) hf
            · intro M85 y86 y87 hf
              exact ih M85 y86 y87  hf
          · replace hf := ite_f c72 hf
            refine z_iload C 0 dX12_laysRounds_278 rfl ?_
            refine z_goto C 290 dX12_laysRounds_280 (by decide) ?_
            refine z_lv (lv2 := [(0, .ref (G.1 + 90)), (2, .int y57), (3, .int y58)]) [2, 3, 4] rfl ?_
            refine wX12_laysRounds_j290 C hs0 hL _ pp ?_ M56 y57 y58 v65 v69 hf
            · intro M88 y89 y90 hf
              exact ih M88 y89 y90  hf
        · replace hf := ite_t c64 hf
          refine z_goto C 291 dX12_laysRounds_219 (by decide) ?_
          refine z_iinc C 2 (y58 + 1) [(3, .int (y58 + 1)), (0, .ref (G.1 + 90)), (2, .int y57)] dX12_laysRounds_291 rfl rfl (by decide) rfl rfl ?_
          refine z_goto C 180 dX12_laysRounds_294 (by decide) ?_
          refine z_lv (lv2 := [(0, .ref (G.1 + 90)), (2, .int y57), (3, .int (y58 + 1))]) [1, 2, 0] rfl ?_
          exact ih M56 y57 (y58 + 1)  hf
set_option maxHeartbeats 4000000 in
set_option maxRecDepth 100000 in
theorem wX12_laysRounds_l152 (C : CX p s m args meth c cX12_laysRounds 6 none RX12 G) (hs0 : s.heap.size = G.1 + K.1) (hL : Lay K)   (pp : MM)  : ∀ (n : Nat) (M51 : MM) (y52 : Int32) (hf : fX12_laysRounds_l152 n M51 y52 = some pp), Z p l e (rmo 3 0 0) s m args below meth c 6 G (MQ below (QC G none K pp) args s 0 0 (AG G)) K 0 0 M51 152 [(0, .ref (G.1 + 90)), (2, .int y52)] [] := by
  intro n
  induction n with
  | zero => intro M51 y52 hf; exact nomatch (show (none : Option MM) = some pp from hf)
  | succ n ih =>
    intro M51 y52 hf
    rw [fX12_laysRounds_l152.eq_2] at hf
    refine z_iload_n C 1 2 dX12_laysRounds_152 rfl rfl ?_
    refine z_bipush C 8 dX12_laysRounds_153 (by decide) ?_
    refine z_aload_n C 0 0 dX12_laysRounds_155 rfl rfl ?_
    refine z_getI C ok_X12 (lay_c90 hL) 14 (by decide) rfl q_fl_X12_216 dX12_laysRounds_156 ?_
    refine z_ishl C dX12_laysRounds_159 ?_
    refine z_icmp_ge C 303 dX12_laysRounds_160 (by decide) (fun c53 => ?_) (fun c53 => ?_)
    · replace hf := ite_t c53 hf
      cases hf
      exact z_vret C rfl dX12_laysRounds_303
    · replace hf := ite_f c53 hf
      refine z_aload_n C 0 0 dX12_laysRounds_163 rfl rfl ?_
      refine z_getR C ok_X12 (lay_c90 hL) 40 (113) (by decide) rfl (lay_r90_40 hL) q_fl_X12_77 dX12_laysRounds_164 ?_
      refine z_iload_n C 1 2 dX12_laysRounds_167 rfl rfl ?_
      replace hf := gd_out hf
      obtain ⟨g54, hf⟩ := hf
      refine z_iald C (lay_c113 hL) (inb_in g54) dX12_laysRounds_168 ?_
      refine z_sipush C 9999 dX12_laysRounds_169 (by decide) ?_
      refine z_icmp_ne C 178 dX12_laysRounds_172 (by decide) (fun c55 => ?_) (fun c55 => ?_)
      · replace hf := ite_f c55 hf
        refine z_iconst C 0 dX12_laysRounds_178 (by decide) ?_
        refine z_istore_n C [(3, .int 0), (0, .ref (G.1 + 90)), (2, .int y52)] dX12_laysRounds_179 rfl (by decide) rfl rfl ?_
        refine z_lv (lv2 := [(0, .ref (G.1 + 90)), (2, .int y52), (3, .int 0)]) [1, 2, 0] rfl ?_
        refine wX12_laysRounds_l180 C hs0 hL _ pp ?_ FU M51 y52 0 hf
        · intro M91 y92 hf
          refine z_iinc C 1 (y92 + 1) [(2, .int (y92 + 1)), (0, .ref (G.1 + 90))] dX12_laysRounds_297 rfl rfl (by decide) rfl rfl ?_
          refine z_goto C 152 dX12_laysRounds_300 (by decide) ?_
          refine z_lv (lv2 := [(0, .ref (G.1 + 90)), (2, .int (y92 + 1))]) [1, 0] rfl ?_
          exact ih M91 (y92 + 1)  hf
      · replace hf := ite_t c55 hf
        refine z_goto C 297 dX12_laysRounds_175 (by decide) ?_
        refine z_iinc C 1 (y52 + 1) [(2, .int (y52 + 1)), (0, .ref (G.1 + 90))] dX12_laysRounds_297 rfl rfl (by decide) rfl rfl ?_
        refine z_goto C 152 dX12_laysRounds_300 (by decide) ?_
        refine z_lv (lv2 := [(0, .ref (G.1 + 90)), (2, .int (y52 + 1))]) [1, 0] rfl ?_
        exact ih M51 (y52 + 1)  hf
set_option maxHeartbeats 4000000 in
set_option maxRecDepth 100000 in
theorem tX12_laysRounds (l : Launch) (G : GG) {K : SK} (hL : Lay K) (M : MM) (x1 : Int32) (pp : MM) (hf : fX12_laysRounds M x1 = some pp) : Ct l yX12_laysRounds cX12_laysRounds 6 none 3 0 0 G K M [.ref (G.1 + 90), .int x1] none K pp := by
  refine z_enter (lv := [(0, .ref (G.1 + 90)), (1, .int x1)]) (by decide +kernel) (Nat.le_of_ble_eq_true rfl) rfl ?_
  intro p e s m args below meth c C hnm hs0
  replace C : CX p s m args meth c cX12_laysRounds 6 none RX12 G := C
  unfold fX12_laysRounds at hf
  refine z_iconst C 0 dX12_laysRounds_0 (by decide) ?_
  refine z_istore_n C [(2, .int 0), (0, .ref (G.1 + 90)), (1, .int x1)] dX12_laysRounds_1 rfl (by decide) rfl rfl ?_
  refine z_lv (lv2 := [(0, .ref (G.1 + 90)), (1, .int x1), (2, .int 0)]) [1, 2, 0] rfl ?_
  refine wX12_laysRounds_l2 C hs0 hL _ pp ?_ FU M x1 0 hf
  · intro M26 y27 hf
    refine z_aload_n C 0 0 dX12_laysRounds_64 rfl rfl ?_
    refine z_iload_n C 1 1 dX12_laysRounds_65 rfl rfl ?_
    replace hf := bd_out hf
    obtain ⟨p28, e29, hf⟩ := hf
    refine z_cV0 C [] (tX12_walks l G hL M26 y27 _ e29) lk_X12_walks ok_X12 (lay_c90 hL) q_ml_X12_346 rfl ⟨Nat.le_of_ble_eq_true rfl, Nat.le_of_ble_eq_true rfl⟩ rfl (Nat.le_of_ble_eq_true rfl) ⟨Nat.le_refl _, Nat.le_refl _⟩ dX12_laysRounds_66 ?_
    refine z_iconst C 0 dX12_laysRounds_69 (by decide) ?_
    refine z_istore_n C [(2, .int 0), (0, .ref (G.1 + 90)), (1, .int y27)] dX12_laysRounds_70 rfl (by decide) rfl rfl ?_
    refine z_lv (lv2 := [(0, .ref (G.1 + 90)), (2, .int 0)]) [1, 0] rfl ?_
    refine wX12_laysRounds_l71 C hs0 hL _ pp ?_ FU p28 0 hf
    · intro M37 hf
      refine z_iconst C 0 dX12_laysRounds_93 (by decide) ?_
      refine z_istore_n C [(2, .int 0), (0, .ref (G.1 + 90))] dX12_laysRounds_94 rfl (by decide) rfl rfl ?_
      refine z_lv (lv2 := [(0, .ref (G.1 + 90)), (2, .int 0)]) [1, 0] rfl ?_
      refine wX12_laysRounds_l95 C hs0 hL _ pp ?_ FU M37 0 hf
      · intro M50 hf
        refine z_bipush C 8 dX12_laysRounds_149 (by decide) ?_
        refine z_istore_n C [(2, .int 8), (0, .ref (G.1 + 90))] dX12_laysRounds_151 rfl (by decide) rfl rfl ?_
        refine z_lv (lv2 := [(0, .ref (G.1 + 90)), (2, .int 8)]) [1, 0] rfl ?_
        exact wX12_laysRounds_l152 C hs0 hL pp FU M50 8 hf
set_option maxHeartbeats 4000000 in
set_option maxRecDepth 100000 in
theorem wX12_bitsOf_l4 (C : CX p s m args meth c cX12_bitsOf 3 (some .int) RX12 G) (hs0 : s.heap.size = G.1 + K.1) (hL : Lay K) (M : MM)  (pp : Int32)  : ∀ (n : Nat) (y1 : Int32) (y2 : Int32) (y3 : Int32) (hf : fX12_bitsOf_l4 M n y1 y2 y3 = some pp), Z p l e (rmo 0 0 0) s m args below meth c 3 G (MQ below (QC G (some (.int pp)) K M) args s 0 0 (AG G)) K 0 0 M 4 [(0, .int y1), (1, .int y2), (2, .int y3)] [] := by
  intro n
  induction n with
  | zero => intro y1 y2 y3 hf; exact nomatch (show (none : Option Int32) = some pp from hf)
  | succ n ih =>
    intro y1 y2 y3 hf
    rw [fX12_bitsOf_l4.eq_2] at hf
    refine z_iload_n C 2 2 dX12_bitsOf_4 rfl rfl ?_
    refine z_bipush C 8 dX12_bitsOf_5 (by decide) ?_
    refine z_icmp_ge C 24 dX12_bitsOf_7 (by decide) (fun c4 => ?_) (fun c4 => ?_)
    · replace hf := ite_t c4 hf
      refine z_iload_n C 1 1 dX12_bitsOf_24 rfl rfl ?_
      cases hf
      exact z_iret C rfl dX12_bitsOf_25
    · replace hf := ite_f c4 hf
      refine z_iload_n C 1 1 dX12_bitsOf_10 rfl rfl ?_
      refine z_iload_n C 0 0 dX12_bitsOf_11 rfl rfl ?_
      refine z_iload_n C 2 2 dX12_bitsOf_12 rfl rfl ?_
      refine z_ishr C dX12_bitsOf_13 ?_
      refine z_iconst C 1 dX12_bitsOf_14 (by decide) ?_
      refine z_iand C dX12_bitsOf_15 ?_
      refine z_iadd C dX12_bitsOf_16 ?_
      refine z_topi (fun v5 e6 => ?_)
      replace hf := bnd_out e6 hf
      refine z_istore_n C [(1, .int v5), (0, .int y1), (2, .int y3)] dX12_bitsOf_17 rfl (by decide) rfl rfl ?_
      refine z_iinc C 2 (y3 + 1) [(2, .int (y3 + 1)), (1, .int v5), (0, .int y1)] dX12_bitsOf_18 rfl rfl (by decide) rfl rfl ?_
      refine z_goto C 4 dX12_bitsOf_21 (by decide) ?_
      refine z_lv (lv2 := [(0, .int y1), (1, .int v5), (2, .int (y3 + 1))]) [2, 1, 0] rfl ?_
      exact ih y1 v5 (y3 + 1)  hf
set_option maxHeartbeats 4000000 in
set_option maxRecDepth 100000 in
theorem tX12_bitsOf (l : Launch) (G : GG) {K : SK} (hL : Lay K) (M : MM) (x0 : Int32) (pp : Int32) (hf : fX12_bitsOf M x0 = some pp) : Ct l yX12_bitsOf cX12_bitsOf 3 (some .int) 0 0 0 G K M [.int x0] (some (.int pp)) K M := by
  refine z_enter (lv := [(0, .int x0)]) (by decide +kernel) (Nat.le_of_ble_eq_true rfl) rfl ?_
  intro p e s m args below meth c C hnm hs0
  replace C : CX p s m args meth c cX12_bitsOf 3 (some .int) RX12 G := C
  unfold fX12_bitsOf at hf
  refine z_iconst C 0 dX12_bitsOf_0 (by decide) ?_
  refine z_istore_n C [(1, .int 0), (0, .int x0)] dX12_bitsOf_1 rfl (by decide) rfl rfl ?_
  refine z_iconst C 0 dX12_bitsOf_2 (by decide) ?_
  refine z_istore_n C [(2, .int 0), (1, .int 0), (0, .int x0)] dX12_bitsOf_3 rfl (by decide) rfl rfl ?_
  refine z_lv (lv2 := [(0, .int x0), (1, .int 0), (2, .int 0)]) [2, 1, 0] rfl ?_
  exact wX12_bitsOf_l4 C hs0 hL M pp FU x0 0 0 hf
end
