theorem dX6_begin_0 : decode cX6_begin 0 = .ok (.aload_n 0, 1) := by decide +kernel
theorem dX6_begin_1 : decode cX6_begin 1 = .ok (.getfield 9, 3) := by decide +kernel
theorem dX6_begin_4 : decode cX6_begin 4 = .ok (.aload_n 1, 1) := by decide +kernel
theorem dX6_begin_5 : decode cX6_begin 5 = .ok (.invokevirtual 22, 3) := by decide +kernel
theorem dX6_begin_8 : decode cX6_begin 8 = .ok (.aload_n 0, 1) := by decide +kernel
theorem dX6_begin_9 : decode cX6_begin 9 = .ok (.iconst 0, 1) := by decide +kernel
theorem dX6_begin_10 : decode cX6_begin 10 = .ok (.putfield 28, 3) := by decide +kernel
theorem dX6_begin_13 : decode cX6_begin 13 = .ok (.aload_n 0, 1) := by decide +kernel
theorem dX6_begin_14 : decode cX6_begin 14 = .ok (.getfield 15, 3) := by decide +kernel
theorem dX6_begin_17 : decode cX6_begin 17 = .ok (.iconst 0, 1) := by decide +kernel
theorem dX6_begin_18 : decode cX6_begin 18 = .ok (.invokestatic 32, 3) := by decide +kernel
theorem dX6_begin_21 : decode cX6_begin 21 = .ok (.aload_n 0, 1) := by decide +kernel
theorem dX6_begin_22 : decode cX6_begin 22 = .ok (.getfield 19, 3) := by decide +kernel
theorem dX6_begin_25 : decode cX6_begin 25 = .ok (.iconst 0, 1) := by decide +kernel
theorem dX6_begin_26 : decode cX6_begin 26 = .ok (.invokestatic 32, 3) := by decide +kernel
theorem dX6_begin_29 : decode cX6_begin 29 = .ok (.return_, 1) := by decide +kernel
theorem dX6_countAll_0 : decode cX6_countAll 0 = .ok (.aload_n 0, 1) := by decide +kernel
theorem dX6_countAll_1 : decode cX6_countAll 1 = .ok (.dup, 1) := by decide +kernel
theorem dX6_countAll_2 : decode cX6_countAll 2 = .ok (.getfield 28, 3) := by decide +kernel
theorem dX6_countAll_5 : decode cX6_countAll 5 = .ok (.iconst 1, 1) := by decide +kernel
theorem dX6_countAll_6 : decode cX6_countAll 6 = .ok (.iadd, 1) := by decide +kernel
theorem dX6_countAll_7 : decode cX6_countAll 7 = .ok (.putfield 28, 3) := by decide +kernel
theorem dX6_countAll_10 : decode cX6_countAll 10 = .ok (.aload_n 0, 1) := by decide +kernel
theorem dX6_countAll_11 : decode cX6_countAll 11 = .ok (.getfield 9, 3) := by decide +kernel
theorem dX6_countAll_14 : decode cX6_countAll 14 = .ok (.aload_n 1, 1) := by decide +kernel
theorem dX6_countAll_15 : decode cX6_countAll 15 = .ok (.getfield 106, 3) := by decide +kernel
theorem dX6_countAll_18 : decode cX6_countAll 18 = .ok (.invokevirtual 111, 3) := by decide +kernel
theorem dX6_countAll_21 : decode cX6_countAll 21 = .ok (.pop, 1) := by decide +kernel
theorem dX6_countAll_22 : decode cX6_countAll 22 = .ok (.iconst 0, 1) := by decide +kernel
theorem dX6_countAll_23 : decode cX6_countAll 23 = .ok (.istore_n 2, 1) := by decide +kernel
theorem dX6_countAll_24 : decode cX6_countAll 24 = .ok (.iload_n 2, 1) := by decide +kernel
theorem dX6_countAll_25 : decode cX6_countAll 25 = .ok (.aload_n 0, 1) := by decide +kernel
theorem dX6_countAll_26 : decode cX6_countAll 26 = .ok (.getfield 9, 3) := by decide +kernel
theorem dX6_countAll_29 : decode cX6_countAll 29 = .ok (.getfield 70, 3) := by decide +kernel
theorem dX6_countAll_32 : decode cX6_countAll 32 = .ok (.getfield 115, 3) := by decide +kernel
theorem dX6_countAll_35 : decode cX6_countAll 35 = .ok (.if_icmp .ge 100, 3) := by decide +kernel
theorem dX6_countAll_38 : decode cX6_countAll 38 = .ok (.aload_n 0, 1) := by decide +kernel
theorem dX6_countAll_39 : decode cX6_countAll 39 = .ok (.getfield 19, 3) := by decide +kernel
theorem dX6_countAll_42 : decode cX6_countAll 42 = .ok (.iload_n 2, 1) := by decide +kernel
theorem dX6_countAll_43 : decode cX6_countAll 43 = .ok (.dup2, 1) := by decide +kernel
theorem dX6_countAll_44 : decode cX6_countAll 44 = .ok (.iaload, 1) := by decide +kernel
theorem dX6_countAll_45 : decode cX6_countAll 45 = .ok (.aload_n 0, 1) := by decide +kernel
theorem dX6_countAll_46 : decode cX6_countAll 46 = .ok (.getfield 9, 3) := by decide +kernel
theorem dX6_countAll_49 : decode cX6_countAll 49 = .ok (.iload_n 2, 1) := by decide +kernel
theorem dX6_countAll_50 : decode cX6_countAll 50 = .ok (.aload_n 1, 1) := by decide +kernel
theorem dX6_countAll_51 : decode cX6_countAll 51 = .ok (.invokevirtual 118, 3) := by decide +kernel
theorem dX6_countAll_54 : decode cX6_countAll 54 = .ok (.iadd, 1) := by decide +kernel
theorem dX6_countAll_55 : decode cX6_countAll 55 = .ok (.iastore, 1) := by decide +kernel
theorem dX6_countAll_56 : decode cX6_countAll 56 = .ok (.aload_n 1, 1) := by decide +kernel
theorem dX6_countAll_57 : decode cX6_countAll 57 = .ok (.aload_n 0, 1) := by decide +kernel
theorem dX6_countAll_58 : decode cX6_countAll 58 = .ok (.getfield 9, 3) := by decide +kernel
theorem dX6_countAll_61 : decode cX6_countAll 61 = .ok (.getfield 70, 3) := by decide +kernel
theorem dX6_countAll_64 : decode cX6_countAll 64 = .ok (.getfield 122, 3) := by decide +kernel
theorem dX6_countAll_67 : decode cX6_countAll 67 = .ok (.iload_n 2, 1) := by decide +kernel
theorem dX6_countAll_68 : decode cX6_countAll 68 = .ok (.iaload, 1) := by decide +kernel
theorem dX6_countAll_69 : decode cX6_countAll 69 = .ok (.invokevirtual 123, 3) := by decide +kernel
theorem dX6_countAll_72 : decode cX6_countAll 72 = .ok (.ifCond .eq 6, 3) := by decide +kernel
theorem dX6_countAll_75 : decode cX6_countAll 75 = .ok (.goto 54, 3) := by decide +kernel
theorem dX6_countAll_78 : decode cX6_countAll 78 = .ok (.iconst 0, 1) := by decide +kernel
theorem dX6_countAll_79 : decode cX6_countAll 79 = .ok (.istore_n 3, 1) := by decide +kernel
theorem dX6_countAll_80 : decode cX6_countAll 80 = .ok (.iload_n 3, 1) := by decide +kernel
theorem dX6_countAll_81 : decode cX6_countAll 81 = .ok (.aload_n 0, 1) := by decide +kernel
theorem dX6_countAll_82 : decode cX6_countAll 82 = .ok (.getfield 9, 3) := by decide +kernel
theorem dX6_countAll_85 : decode cX6_countAll 85 = .ok (.getfield 70, 3) := by decide +kernel
theorem dX6_countAll_88 : decode cX6_countAll 88 = .ok (.getfield 126, 3) := by decide +kernel
theorem dX6_countAll_91 : decode cX6_countAll 91 = .ok (.if_icmp .ge 38, 3) := by decide +kernel
theorem dX6_countAll_94 : decode cX6_countAll 94 = .ok (.aload_n 0, 1) := by decide +kernel
theorem dX6_countAll_95 : decode cX6_countAll 95 = .ok (.getfield 9, 3) := by decide +kernel
theorem dX6_countAll_98 : decode cX6_countAll 98 = .ok (.getfield 129, 3) := by decide +kernel
theorem dX6_countAll_101 : decode cX6_countAll 101 = .ok (.iload_n 2, 1) := by decide +kernel
theorem dX6_countAll_102 : decode cX6_countAll 102 = .ok (.iaload, 1) := by decide +kernel
theorem dX6_countAll_103 : decode cX6_countAll 103 = .ok (.iload_n 3, 1) := by decide +kernel
theorem dX6_countAll_104 : decode cX6_countAll 104 = .ok (.iushr, 1) := by decide +kernel
theorem dX6_countAll_105 : decode cX6_countAll 105 = .ok (.iconst 1, 1) := by decide +kernel
theorem dX6_countAll_106 : decode cX6_countAll 106 = .ok (.iand, 1) := by decide +kernel
theorem dX6_countAll_107 : decode cX6_countAll 107 = .ok (.ifCond .eq 16, 3) := by decide +kernel
theorem dX6_countAll_110 : decode cX6_countAll 110 = .ok (.aload_n 0, 1) := by decide +kernel
theorem dX6_countAll_111 : decode cX6_countAll 111 = .ok (.getfield 15, 3) := by decide +kernel
theorem dX6_countAll_114 : decode cX6_countAll 114 = .ok (.iload_n 3, 1) := by decide +kernel
theorem dX6_countAll_115 : decode cX6_countAll 115 = .ok (.dup2, 1) := by decide +kernel
theorem dX6_countAll_116 : decode cX6_countAll 116 = .ok (.iaload, 1) := by decide +kernel
theorem dX6_countAll_117 : decode cX6_countAll 117 = .ok (.aload_n 1, 1) := by decide +kernel
theorem dX6_countAll_118 : decode cX6_countAll 118 = .ok (.getfield 132, 3) := by decide +kernel
theorem dX6_countAll_121 : decode cX6_countAll 121 = .ok (.iadd, 1) := by decide +kernel
theorem dX6_countAll_122 : decode cX6_countAll 122 = .ok (.iastore, 1) := by decide +kernel
theorem dX6_countAll_123 : decode cX6_countAll 123 = .ok (.iinc 3 1, 3) := by decide +kernel
theorem dX6_countAll_126 : decode cX6_countAll 126 = .ok (.goto (-46), 3) := by decide +kernel
theorem dX6_countAll_129 : decode cX6_countAll 129 = .ok (.iinc 2 1, 3) := by decide +kernel
theorem dX6_countAll_132 : decode cX6_countAll 132 = .ok (.goto (-108), 3) := by decide +kernel
theorem dX6_countAll_135 : decode cX6_countAll 135 = .ok (.return_, 1) := by decide +kernel
theorem dX6_go_0 : decode cX6_go 0 = .ok (.aload_n 0, 1) := by decide +kernel
theorem dX6_go_1 : decode cX6_go 1 = .ok (.getfield 9, 3) := by decide +kernel
theorem dX6_go_4 : decode cX6_go 4 = .ok (.getfield 70, 3) := by decide +kernel
theorem dX6_go_7 : decode cX6_go 7 = .ok (.iload_n 1, 1) := by decide +kernel
theorem dX6_go_8 : decode cX6_go 8 = .ok (.invokevirtual 91, 3) := by decide +kernel
theorem dX6_go_11 : decode cX6_go 11 = .ok (.ifCond .ne 5, 3) := by decide +kernel
theorem dX6_go_14 : decode cX6_go 14 = .ok (.iconst 0, 1) := by decide +kernel
theorem dX6_go_15 : decode cX6_go 15 = .ok (.ireturn, 1) := by decide +kernel
theorem dX6_go_16 : decode cX6_go 16 = .ok (.aload_n 0, 1) := by decide +kernel
theorem dX6_go_17 : decode cX6_go 17 = .ok (.getfield 9, 3) := by decide +kernel
theorem dX6_go_20 : decode cX6_go 20 = .ok (.getfield 70, 3) := by decide +kernel
theorem dX6_go_23 : decode cX6_go 23 = .ok (.getfield 94, 3) := by decide +kernel
theorem dX6_go_26 : decode cX6_go 26 = .ok (.iload_n 1, 1) := by decide +kernel
theorem dX6_go_27 : decode cX6_go 27 = .ok (.iaload, 1) := by decide +kernel
theorem dX6_go_28 : decode cX6_go 28 = .ok (.istore_n 3, 1) := by decide +kernel
theorem dX6_go_29 : decode cX6_go 29 = .ok (.aload_n 0, 1) := by decide +kernel
theorem dX6_go_30 : decode cX6_go 30 = .ok (.getfield 9, 3) := by decide +kernel
theorem dX6_go_33 : decode cX6_go 33 = .ok (.iload_n 3, 1) := by decide +kernel
theorem dX6_go_34 : decode cX6_go 34 = .ok (.iload_n 2, 1) := by decide +kernel
theorem dX6_go_35 : decode cX6_go 35 = .ok (.invokevirtual 97, 3) := by decide +kernel
theorem dX6_go_38 : decode cX6_go 38 = .ok (.istore 4, 2) := by decide +kernel
theorem dX6_go_40 : decode cX6_go 40 = .ok (.iload 4, 2) := by decide +kernel
theorem dX6_go_42 : decode cX6_go 42 = .ok (.iconst (-1), 1) := by decide +kernel
theorem dX6_go_43 : decode cX6_go 43 = .ok (.if_icmp .eq 15, 3) := by decide +kernel
theorem dX6_go_46 : decode cX6_go 46 = .ok (.aload_n 0, 1) := by decide +kernel
theorem dX6_go_47 : decode cX6_go 47 = .ok (.getfield 9, 3) := by decide +kernel
theorem dX6_go_50 : decode cX6_go 50 = .ok (.iload 4, 2) := by decide +kernel
theorem dX6_go_52 : decode cX6_go 52 = .ok (.invokevirtual 100, 3) := by decide +kernel
theorem dX6_go_55 : decode cX6_go 55 = .ok (.ifCond .ne 5, 3) := by decide +kernel
theorem dX6_go_58 : decode cX6_go 58 = .ok (.iconst 0, 1) := by decide +kernel
theorem dX6_go_59 : decode cX6_go 59 = .ok (.ireturn, 1) := by decide +kernel
theorem dX6_go_60 : decode cX6_go 60 = .ok (.aload_n 0, 1) := by decide +kernel
theorem dX6_go_61 : decode cX6_go 61 = .ok (.getfield 9, 3) := by decide +kernel
theorem dX6_go_64 : decode cX6_go 64 = .ok (.iload_n 3, 1) := by decide +kernel
theorem dX6_go_65 : decode cX6_go 65 = .ok (.iconst 0, 1) := by decide +kernel
theorem dX6_go_66 : decode cX6_go 66 = .ok (.invokevirtual 103, 3) := by decide +kernel
theorem dX6_go_69 : decode cX6_go 69 = .ok (.aload_n 0, 1) := by decide +kernel
theorem dX6_go_70 : decode cX6_go 70 = .ok (.getfield 9, 3) := by decide +kernel
theorem dX6_go_73 : decode cX6_go 73 = .ok (.iload 4, 2) := by decide +kernel
theorem dX6_go_75 : decode cX6_go 75 = .ok (.bipush 10, 2) := by decide +kernel
theorem dX6_go_77 : decode cX6_go 77 = .ok (.iload_n 1, 1) := by decide +kernel
theorem dX6_go_78 : decode cX6_go 78 = .ok (.iadd, 1) := by decide +kernel
theorem dX6_go_79 : decode cX6_go 79 = .ok (.invokevirtual 103, 3) := by decide +kernel
theorem dX6_go_82 : decode cX6_go 82 = .ok (.aload_n 0, 1) := by decide +kernel
theorem dX6_go_83 : decode cX6_go 83 = .ok (.getfield 9, 3) := by decide +kernel
theorem dX6_go_86 : decode cX6_go 86 = .ok (.getfield 70, 3) := by decide +kernel
theorem dX6_go_89 : decode cX6_go 89 = .ok (.getfield 94, 3) := by decide +kernel
theorem dX6_go_92 : decode cX6_go 92 = .ok (.iload_n 1, 1) := by decide +kernel
theorem dX6_go_93 : decode cX6_go 93 = .ok (.iload 4, 2) := by decide +kernel
theorem dX6_go_95 : decode cX6_go 95 = .ok (.iastore, 1) := by decide +kernel
theorem dX6_go_96 : decode cX6_go 96 = .ok (.iconst 1, 1) := by decide +kernel
theorem dX6_go_97 : decode cX6_go 97 = .ok (.ireturn, 1) := by decide +kernel
theorem dX6_does_0 : decode cX6_does 0 = .ok (.iload_n 1, 1) := by decide +kernel
theorem dX6_does_1 : decode cX6_does 1 = .ok (.iconst 4, 1) := by decide +kernel
theorem dX6_does_2 : decode cX6_does 2 = .ok (.if_icmp .ne 11, 3) := by decide +kernel
theorem dX6_does_5 : decode cX6_does 5 = .ok (.aload_n 0, 1) := by decide +kernel
theorem dX6_does_6 : decode cX6_does 6 = .ok (.aload 4, 2) := by decide +kernel
theorem dX6_does_8 : decode cX6_does 8 = .ok (.invokevirtual 62, 3) := by decide +kernel
theorem dX6_does_11 : decode cX6_does 11 = .ok (.iconst 1, 1) := by decide +kernel
theorem dX6_does_12 : decode cX6_does 12 = .ok (.ireturn, 1) := by decide +kernel
theorem dX6_does_13 : decode cX6_does 13 = .ok (.iload_n 1, 1) := by decide +kernel
theorem dX6_does_14 : decode cX6_does 14 = .ok (.ifCond .ne 10, 3) := by decide +kernel
theorem dX6_does_17 : decode cX6_does 17 = .ok (.aload_n 0, 1) := by decide +kernel
theorem dX6_does_18 : decode cX6_does 18 = .ok (.iload_n 2, 1) := by decide +kernel
theorem dX6_does_19 : decode cX6_does 19 = .ok (.iload_n 3, 1) := by decide +kernel
theorem dX6_does_20 : decode cX6_does 20 = .ok (.invokevirtual 66, 3) := by decide +kernel
theorem dX6_does_23 : decode cX6_does 23 = .ok (.ireturn, 1) := by decide +kernel
theorem dX6_does_24 : decode cX6_does 24 = .ok (.aload_n 0, 1) := by decide +kernel
theorem dX6_does_25 : decode cX6_does 25 = .ok (.getfield 9, 3) := by decide +kernel
theorem dX6_does_28 : decode cX6_does 28 = .ok (.getfield 70, 3) := by decide +kernel
theorem dX6_does_31 : decode cX6_does 31 = .ok (.iload_n 2, 1) := by decide +kernel
theorem dX6_does_32 : decode cX6_does 32 = .ok (.invokevirtual 74, 3) := by decide +kernel
theorem dX6_does_35 : decode cX6_does 35 = .ok (.ifCond .ne 5, 3) := by decide +kernel
theorem dX6_does_38 : decode cX6_does 38 = .ok (.iconst 0, 1) := by decide +kernel
theorem dX6_does_39 : decode cX6_does 39 = .ok (.ireturn, 1) := by decide +kernel
theorem dX6_does_40 : decode cX6_does 40 = .ok (.iload_n 1, 1) := by decide +kernel
theorem dX6_does_41 : decode cX6_does 41 = .ok (.iconst 1, 1) := by decide +kernel
theorem dX6_does_42 : decode cX6_does 42 = .ok (.if_icmp .ne 14, 3) := by decide +kernel
theorem dX6_does_45 : decode cX6_does 45 = .ok (.aload_n 0, 1) := by decide +kernel
theorem dX6_does_46 : decode cX6_does 46 = .ok (.getfield 9, 3) := by decide +kernel
theorem dX6_does_49 : decode cX6_does 49 = .ok (.iload_n 2, 1) := by decide +kernel
theorem dX6_does_50 : decode cX6_does 50 = .ok (.iload_n 3, 1) := by decide +kernel
theorem dX6_does_51 : decode cX6_does 51 = .ok (.invokevirtual 80, 3) := by decide +kernel
theorem dX6_does_54 : decode cX6_does 54 = .ok (.iconst 1, 1) := by decide +kernel
theorem dX6_does_55 : decode cX6_does 55 = .ok (.ireturn, 1) := by decide +kernel
theorem dX6_does_56 : decode cX6_does 56 = .ok (.aload_n 0, 1) := by decide +kernel
theorem dX6_does_57 : decode cX6_does 57 = .ok (.getfield 9, 3) := by decide +kernel
theorem dX6_does_60 : decode cX6_does 60 = .ok (.iload_n 2, 1) := by decide +kernel
theorem dX6_does_61 : decode cX6_does 61 = .ok (.invokevirtual 84, 3) := by decide +kernel
theorem dX6_does_64 : decode cX6_does 64 = .ok (.iload_n 1, 1) := by decide +kernel
theorem dX6_does_65 : decode cX6_does 65 = .ok (.iconst 3, 1) := by decide +kernel
theorem dX6_does_66 : decode cX6_does 66 = .ok (.if_icmp .ne 7, 3) := by decide +kernel
theorem dX6_does_69 : decode cX6_does 69 = .ok (.iconst 1, 1) := by decide +kernel
theorem dX6_does_70 : decode cX6_does 70 = .ok (.goto 4, 3) := by decide +kernel
theorem dX6_does_73 : decode cX6_does 73 = .ok (.iconst 0, 1) := by decide +kernel
theorem dX6_does_74 : decode cX6_does 74 = .ok (.if_icmp .eq 5, 3) := by decide +kernel
theorem dX6_does_77 : decode cX6_does 77 = .ok (.iconst 0, 1) := by decide +kernel
theorem dX6_does_78 : decode cX6_does 78 = .ok (.ireturn, 1) := by decide +kernel
theorem dX6_does_79 : decode cX6_does 79 = .ok (.aload_n 0, 1) := by decide +kernel
theorem dX6_does_80 : decode cX6_does 80 = .ok (.getfield 9, 3) := by decide +kernel
theorem dX6_does_83 : decode cX6_does 83 = .ok (.iload_n 2, 1) := by decide +kernel
theorem dX6_does_84 : decode cX6_does 84 = .ok (.invokevirtual 87, 3) := by decide +kernel
theorem dX6_does_87 : decode cX6_does 87 = .ok (.iconst 1, 1) := by decide +kernel
theorem dX6_does_88 : decode cX6_does 88 = .ok (.ireturn, 1) := by decide +kernel
theorem dX6_perform_0 : decode cX6_perform 0 = .ok (.iconst 0, 1) := by decide +kernel
theorem dX6_perform_1 : decode cX6_perform 1 = .ok (.istore 4, 2) := by decide +kernel
theorem dX6_perform_3 : decode cX6_perform 3 = .ok (.iload 4, 2) := by decide +kernel
theorem dX6_perform_5 : decode cX6_perform 5 = .ok (.iload_n 3, 1) := by decide +kernel
theorem dX6_perform_6 : decode cX6_perform 6 = .ok (.if_icmp .ge 50, 3) := by decide +kernel
theorem dX6_perform_9 : decode cX6_perform 9 = .ok (.iload 4, 2) := by decide +kernel
theorem dX6_perform_11 : decode cX6_perform 11 = .ok (.aload_n 1, 1) := by decide +kernel
theorem dX6_perform_12 : decode cX6_perform 12 = .ok (.getfield 38, 3) := by decide +kernel
theorem dX6_perform_15 : decode cX6_perform 15 = .ok (.if_icmp .ge 41, 3) := by decide +kernel
theorem dX6_perform_18 : decode cX6_perform 18 = .ok (.aload_n 0, 1) := by decide +kernel
theorem dX6_perform_19 : decode cX6_perform 19 = .ok (.aload_n 1, 1) := by decide +kernel
theorem dX6_perform_20 : decode cX6_perform 20 = .ok (.getfield 43, 3) := by decide +kernel
theorem dX6_perform_23 : decode cX6_perform 23 = .ok (.iload 4, 2) := by decide +kernel
theorem dX6_perform_25 : decode cX6_perform 25 = .ok (.iaload, 1) := by decide +kernel
theorem dX6_perform_26 : decode cX6_perform 26 = .ok (.aload_n 1, 1) := by decide +kernel
theorem dX6_perform_27 : decode cX6_perform 27 = .ok (.getfield 46, 3) := by decide +kernel
theorem dX6_perform_30 : decode cX6_perform 30 = .ok (.iload 4, 2) := by decide +kernel
theorem dX6_perform_32 : decode cX6_perform 32 = .ok (.iaload, 1) := by decide +kernel
theorem dX6_perform_33 : decode cX6_perform 33 = .ok (.aload_n 1, 1) := by decide +kernel
theorem dX6_perform_34 : decode cX6_perform 34 = .ok (.getfield 49, 3) := by decide +kernel
theorem dX6_perform_37 : decode cX6_perform 37 = .ok (.iload 4, 2) := by decide +kernel
theorem dX6_perform_39 : decode cX6_perform 39 = .ok (.iaload, 1) := by decide +kernel
theorem dX6_perform_40 : decode cX6_perform 40 = .ok (.aload_n 2, 1) := by decide +kernel
theorem dX6_perform_41 : decode cX6_perform 41 = .ok (.invokevirtual 52, 3) := by decide +kernel
theorem dX6_perform_44 : decode cX6_perform 44 = .ok (.ifCond .ne 6, 3) := by decide +kernel
theorem dX6_perform_47 : decode cX6_perform 47 = .ok (.iload 4, 2) := by decide +kernel
theorem dX6_perform_49 : decode cX6_perform 49 = .ok (.ireturn, 1) := by decide +kernel
theorem dX6_perform_50 : decode cX6_perform 50 = .ok (.iinc 4 1, 3) := by decide +kernel
theorem dX6_perform_53 : decode cX6_perform 53 = .ok (.goto (-50), 3) := by decide +kernel
theorem dX6_perform_56 : decode cX6_perform 56 = .ok (.iload_n 3, 1) := by decide +kernel
theorem dX6_perform_57 : decode cX6_perform 57 = .ok (.aload_n 1, 1) := by decide +kernel
theorem dX6_perform_58 : decode cX6_perform 58 = .ok (.getfield 38, 3) := by decide +kernel
theorem dX6_perform_61 : decode cX6_perform 61 = .ok (.invokestatic 56, 3) := by decide +kernel
theorem dX6_perform_64 : decode cX6_perform 64 = .ok (.ireturn, 1) := by decide +kernel
theorem dX6_draw_0 : decode cX6_draw 0 = .ok (.aload_n 0, 1) := by decide +kernel
theorem dX6_draw_1 : decode cX6_draw 1 = .ok (.aload_n 0, 1) := by decide +kernel
theorem dX6_draw_2 : decode cX6_draw 2 = .ok (.getfield 135, 3) := by decide +kernel
theorem dX6_draw_5 : decode cX6_draw 5 = .ok (.ldc 147, 2) := by decide +kernel
theorem dX6_draw_7 : decode cX6_draw 7 = .ok (.imul, 1) := by decide +kernel
theorem dX6_draw_8 : decode cX6_draw 8 = .ok (.sipush 12345, 3) := by decide +kernel
theorem dX6_draw_11 : decode cX6_draw 11 = .ok (.iadd, 1) := by decide +kernel
theorem dX6_draw_12 : decode cX6_draw 12 = .ok (.putfield 135, 3) := by decide +kernel
theorem dX6_draw_15 : decode cX6_draw 15 = .ok (.iload_n 1, 1) := by decide +kernel
theorem dX6_draw_16 : decode cX6_draw 16 = .ok (.iconst 1, 1) := by decide +kernel
theorem dX6_draw_17 : decode cX6_draw 17 = .ok (.if_icmp .ge 7, 3) := by decide +kernel
theorem dX6_draw_20 : decode cX6_draw 20 = .ok (.iconst 0, 1) := by decide +kernel
theorem dX6_draw_21 : decode cX6_draw 21 = .ok (.goto 12, 3) := by decide +kernel
theorem dX6_draw_24 : decode cX6_draw 24 = .ok (.aload_n 0, 1) := by decide +kernel
theorem dX6_draw_25 : decode cX6_draw 25 = .ok (.getfield 135, 3) := by decide +kernel
theorem dX6_draw_28 : decode cX6_draw 28 = .ok (.bipush 16, 2) := by decide +kernel
theorem dX6_draw_30 : decode cX6_draw 30 = .ok (.iushr, 1) := by decide +kernel
theorem dX6_draw_31 : decode cX6_draw 31 = .ok (.iload_n 1, 1) := by decide +kernel
theorem dX6_draw_32 : decode cX6_draw 32 = .ok (.irem, 1) := by decide +kernel
theorem dX6_draw_33 : decode cX6_draw 33 = .ok (.ireturn, 1) := by decide +kernel
theorem dX6_goDrawn_0 : decode cX6_goDrawn 0 = .ok (.aload_n 0, 1) := by decide +kernel
theorem dX6_goDrawn_1 : decode cX6_goDrawn 1 = .ok (.getfield 9, 3) := by decide +kernel
theorem dX6_goDrawn_4 : decode cX6_goDrawn 4 = .ok (.getfield 70, 3) := by decide +kernel
theorem dX6_goDrawn_7 : decode cX6_goDrawn 7 = .ok (.getfield 126, 3) := by decide +kernel
theorem dX6_goDrawn_10 : decode cX6_goDrawn 10 = .ok (.ifCond .ne 4, 3) := by decide +kernel
theorem dX6_goDrawn_13 : decode cX6_goDrawn 13 = .ok (.return_, 1) := by decide +kernel
theorem dX6_goDrawn_14 : decode cX6_goDrawn 14 = .ok (.aload_n 0, 1) := by decide +kernel
theorem dX6_goDrawn_15 : decode cX6_goDrawn 15 = .ok (.aload_n 0, 1) := by decide +kernel
theorem dX6_goDrawn_16 : decode cX6_goDrawn 16 = .ok (.getfield 9, 3) := by decide +kernel
theorem dX6_goDrawn_19 : decode cX6_goDrawn 19 = .ok (.getfield 70, 3) := by decide +kernel
theorem dX6_goDrawn_22 : decode cX6_goDrawn 22 = .ok (.getfield 126, 3) := by decide +kernel
theorem dX6_goDrawn_25 : decode cX6_goDrawn 25 = .ok (.invokevirtual 138, 3) := by decide +kernel
theorem dX6_goDrawn_28 : decode cX6_goDrawn 28 = .ok (.istore_n 1, 1) := by decide +kernel
theorem dX6_goDrawn_29 : decode cX6_goDrawn 29 = .ok (.aload_n 0, 1) := by decide +kernel
theorem dX6_goDrawn_30 : decode cX6_goDrawn 30 = .ok (.bipush 8, 2) := by decide +kernel
theorem dX6_goDrawn_32 : decode cX6_goDrawn 32 = .ok (.invokevirtual 138, 3) := by decide +kernel
theorem dX6_goDrawn_35 : decode cX6_goDrawn 35 = .ok (.istore_n 2, 1) := by decide +kernel
theorem dX6_goDrawn_36 : decode cX6_goDrawn 36 = .ok (.aload_n 0, 1) := by decide +kernel
theorem dX6_goDrawn_37 : decode cX6_goDrawn 37 = .ok (.iload_n 1, 1) := by decide +kernel
theorem dX6_goDrawn_38 : decode cX6_goDrawn 38 = .ok (.iload_n 2, 1) := by decide +kernel
theorem dX6_goDrawn_39 : decode cX6_goDrawn 39 = .ok (.invokevirtual 66, 3) := by decide +kernel
theorem dX6_goDrawn_42 : decode cX6_goDrawn 42 = .ok (.pop, 1) := by decide +kernel
theorem dX6_goDrawn_43 : decode cX6_goDrawn 43 = .ok (.return_, 1) := by decide +kernel
theorem dX6_turnDrawn_0 : decode cX6_turnDrawn 0 = .ok (.aload_n 0, 1) := by decide +kernel
theorem dX6_turnDrawn_1 : decode cX6_turnDrawn 1 = .ok (.getfield 9, 3) := by decide +kernel
theorem dX6_turnDrawn_4 : decode cX6_turnDrawn 4 = .ok (.getfield 70, 3) := by decide +kernel
theorem dX6_turnDrawn_7 : decode cX6_turnDrawn 7 = .ok (.getfield 115, 3) := by decide +kernel
theorem dX6_turnDrawn_10 : decode cX6_turnDrawn 10 = .ok (.ifCond .ne 4, 3) := by decide +kernel
theorem dX6_turnDrawn_13 : decode cX6_turnDrawn 13 = .ok (.return_, 1) := by decide +kernel
theorem dX6_turnDrawn_14 : decode cX6_turnDrawn 14 = .ok (.aload_n 0, 1) := by decide +kernel
theorem dX6_turnDrawn_15 : decode cX6_turnDrawn 15 = .ok (.aload_n 0, 1) := by decide +kernel
theorem dX6_turnDrawn_16 : decode cX6_turnDrawn 16 = .ok (.getfield 9, 3) := by decide +kernel
theorem dX6_turnDrawn_19 : decode cX6_turnDrawn 19 = .ok (.getfield 70, 3) := by decide +kernel
theorem dX6_turnDrawn_22 : decode cX6_turnDrawn 22 = .ok (.getfield 115, 3) := by decide +kernel
theorem dX6_turnDrawn_25 : decode cX6_turnDrawn 25 = .ok (.invokevirtual 138, 3) := by decide +kernel
theorem dX6_turnDrawn_28 : decode cX6_turnDrawn 28 = .ok (.istore_n 1, 1) := by decide +kernel
theorem dX6_turnDrawn_29 : decode cX6_turnDrawn 29 = .ok (.aload_n 0, 1) := by decide +kernel
theorem dX6_turnDrawn_30 : decode cX6_turnDrawn 30 = .ok (.bipush 8, 2) := by decide +kernel
theorem dX6_turnDrawn_32 : decode cX6_turnDrawn 32 = .ok (.invokevirtual 138, 3) := by decide +kernel
theorem dX6_turnDrawn_35 : decode cX6_turnDrawn 35 = .ok (.istore_n 2, 1) := by decide +kernel
theorem dX6_turnDrawn_36 : decode cX6_turnDrawn 36 = .ok (.aload_n 0, 1) := by decide +kernel
theorem dX6_turnDrawn_37 : decode cX6_turnDrawn 37 = .ok (.getfield 9, 3) := by decide +kernel
theorem dX6_turnDrawn_40 : decode cX6_turnDrawn 40 = .ok (.iload_n 1, 1) := by decide +kernel
theorem dX6_turnDrawn_41 : decode cX6_turnDrawn 41 = .ok (.iload_n 2, 1) := by decide +kernel
theorem dX6_turnDrawn_42 : decode cX6_turnDrawn 42 = .ok (.invokevirtual 80, 3) := by decide +kernel
theorem dX6_turnDrawn_45 : decode cX6_turnDrawn 45 = .ok (.return_, 1) := by decide +kernel
theorem dX6_performDrawn_0 : decode cX6_performDrawn 0 = .ok (.aload_n 0, 1) := by decide +kernel
theorem dX6_performDrawn_1 : decode cX6_performDrawn 1 = .ok (.iload_n 2, 1) := by decide +kernel
theorem dX6_performDrawn_2 : decode cX6_performDrawn 2 = .ok (.putfield 135, 3) := by decide +kernel
theorem dX6_performDrawn_5 : decode cX6_performDrawn 5 = .ok (.iconst 0, 1) := by decide +kernel
theorem dX6_performDrawn_6 : decode cX6_performDrawn 6 = .ok (.istore 4, 2) := by decide +kernel
theorem dX6_performDrawn_8 : decode cX6_performDrawn 8 = .ok (.iload 4, 2) := by decide +kernel
theorem dX6_performDrawn_10 : decode cX6_performDrawn 10 = .ok (.iload_n 3, 1) := by decide +kernel
theorem dX6_performDrawn_11 : decode cX6_performDrawn 11 = .ok (.if_icmp .ge 47, 3) := by decide +kernel
theorem dX6_performDrawn_14 : decode cX6_performDrawn 14 = .ok (.aload_n 0, 1) := by decide +kernel
theorem dX6_performDrawn_15 : decode cX6_performDrawn 15 = .ok (.iconst 4, 1) := by decide +kernel
theorem dX6_performDrawn_16 : decode cX6_performDrawn 16 = .ok (.invokevirtual 138, 3) := by decide +kernel
theorem dX6_performDrawn_19 : decode cX6_performDrawn 19 = .ok (.istore 5, 2) := by decide +kernel
theorem dX6_performDrawn_21 : decode cX6_performDrawn 21 = .ok (.iload 5, 2) := by decide +kernel
theorem dX6_performDrawn_23 : decode cX6_performDrawn 23 = .ok (.iconst 3, 1) := by decide +kernel
theorem dX6_performDrawn_24 : decode cX6_performDrawn 24 = .ok (.if_icmp .ne 11, 3) := by decide +kernel
theorem dX6_performDrawn_27 : decode cX6_performDrawn 27 = .ok (.aload_n 0, 1) := by decide +kernel
theorem dX6_performDrawn_28 : decode cX6_performDrawn 28 = .ok (.aload_n 1, 1) := by decide +kernel
theorem dX6_performDrawn_29 : decode cX6_performDrawn 29 = .ok (.invokevirtual 62, 3) := by decide +kernel
theorem dX6_performDrawn_32 : decode cX6_performDrawn 32 = .ok (.goto 20, 3) := by decide +kernel
theorem dX6_performDrawn_35 : decode cX6_performDrawn 35 = .ok (.iload 5, 2) := by decide +kernel
theorem dX6_performDrawn_37 : decode cX6_performDrawn 37 = .ok (.iconst 2, 1) := by decide +kernel
theorem dX6_performDrawn_38 : decode cX6_performDrawn 38 = .ok (.if_icmp .ne 10, 3) := by decide +kernel
theorem dX6_performDrawn_41 : decode cX6_performDrawn 41 = .ok (.aload_n 0, 1) := by decide +kernel
theorem dX6_performDrawn_42 : decode cX6_performDrawn 42 = .ok (.invokevirtual 141, 3) := by decide +kernel
theorem dX6_performDrawn_45 : decode cX6_performDrawn 45 = .ok (.goto 7, 3) := by decide +kernel
theorem dX6_performDrawn_48 : decode cX6_performDrawn 48 = .ok (.aload_n 0, 1) := by decide +kernel
theorem dX6_performDrawn_49 : decode cX6_performDrawn 49 = .ok (.invokevirtual 144, 3) := by decide +kernel
theorem dX6_performDrawn_52 : decode cX6_performDrawn 52 = .ok (.iinc 4 1, 3) := by decide +kernel
theorem dX6_performDrawn_55 : decode cX6_performDrawn 55 = .ok (.goto (-47), 3) := by decide +kernel
theorem dX6_performDrawn_58 : decode cX6_performDrawn 58 = .ok (.return_, 1) := by decide +kernel
theorem dX6_tellShine_0 : decode cX6_tellShine 0 = .ok (.iload_n 2, 1) := by decide +kernel
theorem dX6_tellShine_1 : decode cX6_tellShine 1 = .ok (.iconst 3, 1) := by decide +kernel
theorem dX6_tellShine_2 : decode cX6_tellShine 2 = .ok (.if_icmp .ne 16, 3) := by decide +kernel
theorem dX6_tellShine_5 : decode cX6_tellShine 5 = .ok (.aload_n 0, 1) := by decide +kernel
theorem dX6_tellShine_6 : decode cX6_tellShine 6 = .ok (.getfield 9, 3) := by decide +kernel
theorem dX6_tellShine_9 : decode cX6_tellShine 9 = .ok (.getfield 70, 3) := by decide +kernel
theorem dX6_tellShine_12 : decode cX6_tellShine 12 = .ok (.getfield 156, 3) := by decide +kernel
theorem dX6_tellShine_15 : decode cX6_tellShine 15 = .ok (.iload_n 3, 1) := by decide +kernel
theorem dX6_tellShine_16 : decode cX6_tellShine 16 = .ok (.iaload, 1) := by decide +kernel
theorem dX6_tellShine_17 : decode cX6_tellShine 17 = .ok (.ireturn, 1) := by decide +kernel
theorem dX6_tellShine_18 : decode cX6_tellShine 18 = .ok (.iload_n 2, 1) := by decide +kernel
theorem dX6_tellShine_19 : decode cX6_tellShine 19 = .ok (.iconst 4, 1) := by decide +kernel
theorem dX6_tellShine_20 : decode cX6_tellShine 20 = .ok (.if_icmp .ne 10, 3) := by decide +kernel
theorem dX6_tellShine_23 : decode cX6_tellShine 23 = .ok (.aload_n 0, 1) := by decide +kernel
theorem dX6_tellShine_24 : decode cX6_tellShine 24 = .ok (.getfield 19, 3) := by decide +kernel
theorem dX6_tellShine_27 : decode cX6_tellShine 27 = .ok (.iload_n 3, 1) := by decide +kernel
theorem dX6_tellShine_28 : decode cX6_tellShine 28 = .ok (.iaload, 1) := by decide +kernel
theorem dX6_tellShine_29 : decode cX6_tellShine 29 = .ok (.ireturn, 1) := by decide +kernel
theorem dX6_tellShine_30 : decode cX6_tellShine 30 = .ok (.iload_n 2, 1) := by decide +kernel
theorem dX6_tellShine_31 : decode cX6_tellShine 31 = .ok (.iconst 5, 1) := by decide +kernel
theorem dX6_tellShine_32 : decode cX6_tellShine 32 = .ok (.if_icmp .ne 20, 3) := by decide +kernel
theorem dX6_tellShine_35 : decode cX6_tellShine 35 = .ok (.aload_n 0, 1) := by decide +kernel
theorem dX6_tellShine_36 : decode cX6_tellShine 36 = .ok (.getfield 9, 3) := by decide +kernel
theorem dX6_tellShine_39 : decode cX6_tellShine 39 = .ok (.iload_n 3, 1) := by decide +kernel
theorem dX6_tellShine_40 : decode cX6_tellShine 40 = .ok (.invokevirtual 84, 3) := by decide +kernel
theorem dX6_tellShine_43 : decode cX6_tellShine 43 = .ok (.ifCond .eq 7, 3) := by decide +kernel
theorem dX6_tellShine_46 : decode cX6_tellShine 46 = .ok (.iconst 1, 1) := by decide +kernel
theorem dX6_tellShine_47 : decode cX6_tellShine 47 = .ok (.goto 4, 3) := by decide +kernel
theorem dX6_tellShine_50 : decode cX6_tellShine 50 = .ok (.iconst 0, 1) := by decide +kernel
theorem dX6_tellShine_51 : decode cX6_tellShine 51 = .ok (.ireturn, 1) := by decide +kernel
theorem dX6_tellShine_52 : decode cX6_tellShine 52 = .ok (.aload_n 0, 1) := by decide +kernel
theorem dX6_tellShine_53 : decode cX6_tellShine 53 = .ok (.getfield 9, 3) := by decide +kernel
theorem dX6_tellShine_56 : decode cX6_tellShine 56 = .ok (.aload_n 1, 1) := by decide +kernel
theorem dX6_tellShine_57 : decode cX6_tellShine 57 = .ok (.getfield 106, 3) := by decide +kernel
theorem dX6_tellShine_60 : decode cX6_tellShine 60 = .ok (.invokevirtual 111, 3) := by decide +kernel
theorem dX6_tellShine_63 : decode cX6_tellShine 63 = .ok (.pop, 1) := by decide +kernel
theorem dX6_tellShine_64 : decode cX6_tellShine 64 = .ok (.aload_n 0, 1) := by decide +kernel
theorem dX6_tellShine_65 : decode cX6_tellShine 65 = .ok (.getfield 9, 3) := by decide +kernel
theorem dX6_tellShine_68 : decode cX6_tellShine 68 = .ok (.iload_n 3, 1) := by decide +kernel
theorem dX6_tellShine_69 : decode cX6_tellShine 69 = .ok (.aload_n 1, 1) := by decide +kernel
theorem dX6_tellShine_70 : decode cX6_tellShine 70 = .ok (.invokevirtual 118, 3) := by decide +kernel
theorem dX6_tellShine_73 : decode cX6_tellShine 73 = .ok (.ireturn, 1) := by decide +kernel
theorem dX6_tell_0 : decode cX6_tell 0 = .ok (.iload_n 2, 1) := by decide +kernel
theorem dX6_tell_1 : decode cX6_tell 1 = .ok (.ifCond .ne 8, 3) := by decide +kernel
theorem dX6_tell_4 : decode cX6_tell 4 = .ok (.aload_n 0, 1) := by decide +kernel
theorem dX6_tell_5 : decode cX6_tell 5 = .ok (.getfield 28, 3) := by decide +kernel
theorem dX6_tell_8 : decode cX6_tell 8 = .ok (.ireturn, 1) := by decide +kernel
theorem dX6_tell_9 : decode cX6_tell 9 = .ok (.iload_n 2, 1) := by decide +kernel
theorem dX6_tell_10 : decode cX6_tell 10 = .ok (.iconst 1, 1) := by decide +kernel
theorem dX6_tell_11 : decode cX6_tell 11 = .ok (.if_icmp .ne 12, 3) := by decide +kernel
theorem dX6_tell_14 : decode cX6_tell 14 = .ok (.aload_n 0, 1) := by decide +kernel
theorem dX6_tell_15 : decode cX6_tell 15 = .ok (.getfield 9, 3) := by decide +kernel
theorem dX6_tell_18 : decode cX6_tell 18 = .ok (.aload_n 1, 1) := by decide +kernel
theorem dX6_tell_19 : decode cX6_tell 19 = .ok (.invokevirtual 148, 3) := by decide +kernel
theorem dX6_tell_22 : decode cX6_tell 22 = .ok (.ireturn, 1) := by decide +kernel
theorem dX6_tell_23 : decode cX6_tell 23 = .ok (.iload_n 2, 1) := by decide +kernel
theorem dX6_tell_24 : decode cX6_tell 24 = .ok (.bipush 10, 2) := by decide +kernel
theorem dX6_tell_26 : decode cX6_tell 26 = .ok (.if_icmp .lt 9, 3) := by decide +kernel
theorem dX6_tell_29 : decode cX6_tell 29 = .ok (.iload_n 2, 1) := by decide +kernel
theorem dX6_tell_30 : decode cX6_tell 30 = .ok (.bipush 70, 2) := by decide +kernel
theorem dX6_tell_32 : decode cX6_tell 32 = .ok (.if_icmp .lt 6, 3) := by decide +kernel
theorem dX6_tell_35 : decode cX6_tell 35 = .ok (.bipush (-2), 2) := by decide +kernel
theorem dX6_tell_37 : decode cX6_tell 37 = .ok (.ireturn, 1) := by decide +kernel
theorem dX6_tell_38 : decode cX6_tell 38 = .ok (.iload_n 2, 1) := by decide +kernel
theorem dX6_tell_39 : decode cX6_tell 39 = .ok (.bipush 10, 2) := by decide +kernel
theorem dX6_tell_41 : decode cX6_tell 41 = .ok (.idiv, 1) := by decide +kernel
theorem dX6_tell_42 : decode cX6_tell 42 = .ok (.istore_n 3, 1) := by decide +kernel
theorem dX6_tell_43 : decode cX6_tell 43 = .ok (.iload_n 2, 1) := by decide +kernel
theorem dX6_tell_44 : decode cX6_tell 44 = .ok (.bipush 10, 2) := by decide +kernel
theorem dX6_tell_46 : decode cX6_tell 46 = .ok (.irem, 1) := by decide +kernel
theorem dX6_tell_47 : decode cX6_tell 47 = .ok (.istore 4, 2) := by decide +kernel
theorem dX6_tell_49 : decode cX6_tell 49 = .ok (.iload_n 3, 1) := by decide +kernel
theorem dX6_tell_50 : decode cX6_tell 50 = .ok (.iconst 2, 1) := by decide +kernel
theorem dX6_tell_51 : decode cX6_tell 51 = .ok (.if_icmp .gt 50, 3) := by decide +kernel
theorem dX6_tell_54 : decode cX6_tell 54 = .ok (.aload_n 0, 1) := by decide +kernel
theorem dX6_tell_55 : decode cX6_tell 55 = .ok (.getfield 9, 3) := by decide +kernel
theorem dX6_tell_58 : decode cX6_tell 58 = .ok (.getfield 70, 3) := by decide +kernel
theorem dX6_tell_61 : decode cX6_tell 61 = .ok (.iload 4, 2) := by decide +kernel
theorem dX6_tell_63 : decode cX6_tell 63 = .ok (.invokevirtual 91, 3) := by decide +kernel
theorem dX6_tell_66 : decode cX6_tell 66 = .ok (.ifCond .ne 6, 3) := by decide +kernel
theorem dX6_tell_69 : decode cX6_tell 69 = .ok (.bipush (-2), 2) := by decide +kernel
theorem dX6_tell_71 : decode cX6_tell 71 = .ok (.ireturn, 1) := by decide +kernel
theorem dX6_tell_72 : decode cX6_tell 72 = .ok (.iload_n 3, 1) := by decide +kernel
theorem dX6_tell_73 : decode cX6_tell 73 = .ok (.iconst 1, 1) := by decide +kernel
theorem dX6_tell_74 : decode cX6_tell 74 = .ok (.if_icmp .ne 19, 3) := by decide +kernel
theorem dX6_tell_77 : decode cX6_tell 77 = .ok (.aload_n 0, 1) := by decide +kernel
theorem dX6_tell_78 : decode cX6_tell 78 = .ok (.getfield 9, 3) := by decide +kernel
theorem dX6_tell_81 : decode cX6_tell 81 = .ok (.getfield 70, 3) := by decide +kernel
theorem dX6_tell_84 : decode cX6_tell 84 = .ok (.getfield 94, 3) := by decide +kernel
theorem dX6_tell_87 : decode cX6_tell 87 = .ok (.iload 4, 2) := by decide +kernel
theorem dX6_tell_89 : decode cX6_tell 89 = .ok (.iaload, 1) := by decide +kernel
theorem dX6_tell_90 : decode cX6_tell 90 = .ok (.goto 10, 3) := by decide +kernel
theorem dX6_tell_93 : decode cX6_tell 93 = .ok (.aload_n 0, 1) := by decide +kernel
theorem dX6_tell_94 : decode cX6_tell 94 = .ok (.getfield 15, 3) := by decide +kernel
theorem dX6_tell_97 : decode cX6_tell 97 = .ok (.iload 4, 2) := by decide +kernel
theorem dX6_tell_99 : decode cX6_tell 99 = .ok (.iaload, 1) := by decide +kernel
theorem dX6_tell_100 : decode cX6_tell 100 = .ok (.ireturn, 1) := by decide +kernel
theorem dX6_tell_101 : decode cX6_tell 101 = .ok (.aload_n 0, 1) := by decide +kernel
theorem dX6_tell_102 : decode cX6_tell 102 = .ok (.getfield 9, 3) := by decide +kernel
theorem dX6_tell_105 : decode cX6_tell 105 = .ok (.getfield 70, 3) := by decide +kernel
theorem dX6_tell_108 : decode cX6_tell 108 = .ok (.iload 4, 2) := by decide +kernel
theorem dX6_tell_110 : decode cX6_tell 110 = .ok (.invokevirtual 74, 3) := by decide +kernel
theorem dX6_tell_113 : decode cX6_tell 113 = .ok (.ifCond .eq 14, 3) := by decide +kernel
theorem dX6_tell_116 : decode cX6_tell 116 = .ok (.aload_n 0, 1) := by decide +kernel
theorem dX6_tell_117 : decode cX6_tell 117 = .ok (.aload_n 1, 1) := by decide +kernel
theorem dX6_tell_118 : decode cX6_tell 118 = .ok (.iload_n 3, 1) := by decide +kernel
theorem dX6_tell_119 : decode cX6_tell 119 = .ok (.iload 4, 2) := by decide +kernel
theorem dX6_tell_121 : decode cX6_tell 121 = .ok (.invokevirtual 152, 3) := by decide +kernel
theorem dX6_tell_124 : decode cX6_tell 124 = .ok (.goto 5, 3) := by decide +kernel
theorem dX6_tell_127 : decode cX6_tell 127 = .ok (.bipush (-2), 2) := by decide +kernel
theorem dX6_tell_129 : decode cX6_tell 129 = .ok (.ireturn, 1) := by decide +kernel
section
variable {p : Program} {l : Launch} {e : Env} {s : State} {m : MethodId} {args : Array Value} {below : List Frame} {meth : Method} {c : Code} {G : GG} {K : SK}
set_option maxHeartbeats 4000000 in
set_option maxRecDepth 100000 in
theorem tX6_begin (l : Launch) (G : GG) {K : SK} (hL : Lay K) (M : MM) (a1 : Nat) (h1 : Par K a1) (pp : MM) (hf : fX6_begin M a1 = some pp) : Ct l yX6_begin cX6_begin 2 none 4 0 0 G K M [.ref (G.1 + 78), .ref (G.1 + a1)] none K pp := by
  refine z_enter (lv := [(0, .ref (G.1 + 78)), (1, .ref (G.1 + a1))]) (by decide +kernel) (Nat.le_of_ble_eq_true rfl) rfl ?_
  intro p e s m args below meth c C hnm hs0
  replace C : CX p s m args meth c cX6_begin 2 none RX6 G := C
  unfold fX6_begin at hf
  refine z_aload_n C 0 0 dX6_begin_0 rfl rfl ?_
  refine z_getR C ok_X6 (lay_c78 hL) 0 (60) (by decide) rfl (lay_r78_0 hL) q_fl_X6_9 dX6_begin_1 ?_
  refine z_aload_n C 1 1 dX6_begin_4 rfl rfl ?_
  replace hf := bd_out hf
  obtain ⟨p1, e2, hf⟩ := hf
  refine z_cV0 C [] (tX0_begin l G hL M a1 h1 _ e2) lk_X0_begin ok_X0 (lay_c60 hL) q_ml_X6_22 rfl ⟨Nat.le_of_ble_eq_true rfl, Nat.le_of_ble_eq_true rfl⟩ rfl (Nat.le_of_ble_eq_true rfl) ⟨Nat.le_refl _, Nat.le_refl _⟩ dX6_begin_5 ?_
  refine z_aload_n C 0 0 dX6_begin_8 rfl rfl ?_
  refine z_iconst C 0 dX6_begin_9 (by decide) ?_
  refine z_putI C ok_X6 (lay_c78 hL) 1 (by decide) rfl rfl rfl rfl q_fl_X6_28 dX6_begin_10 ?_
  refine z_M (fun M3 e4 => ?_)
  replace hf := bnd_out e4 hf
  refine z_aload_n C 0 0 dX6_begin_13 rfl rfl ?_
  refine z_getR C ok_X6 (lay_c78 hL) 2 (79) (by decide) rfl (lay_r78_2 hL) q_fl_X6_15 dX6_begin_14 ?_
  refine z_iconst C 0 dX6_begin_17 (by decide) ?_
  replace hf := bd_out hf
  obtain ⟨p5, e6, hf⟩ := hf
  refine z_cS0 C [] (tJ7_fill_53178 l G M3 79 8 (lay_c79 hL) 0 _ e6) lk_J7_fill_53178 q_ml_X6_32 rfl ⟨Nat.le_of_ble_eq_true rfl, Nat.le_of_ble_eq_true rfl⟩ rfl (Nat.le_of_ble_eq_true rfl) ⟨Nat.le_refl _, Nat.le_refl _⟩ dX6_begin_18 ?_
  refine z_aload_n C 0 0 dX6_begin_21 rfl rfl ?_
  refine z_getR C ok_X6 (lay_c78 hL) 3 (80) (by decide) rfl (lay_r78_3 hL) q_fl_X6_19 dX6_begin_22 ?_
  refine z_iconst C 0 dX6_begin_25 (by decide) ?_
  replace hf := bd_out hf
  obtain ⟨p7, e8, hf⟩ := hf
  refine z_cS0 C [] (tJ7_fill_53178 l G p5 80 8 (lay_c80 hL) 0 _ e8) lk_J7_fill_53178 q_ml_X6_32 rfl ⟨Nat.le_of_ble_eq_true rfl, Nat.le_of_ble_eq_true rfl⟩ rfl (Nat.le_of_ble_eq_true rfl) ⟨Nat.le_refl _, Nat.le_refl _⟩ dX6_begin_26 ?_
  cases hf
  exact z_vret C rfl dX6_begin_29
set_option maxHeartbeats 4000000 in
set_option maxRecDepth 100000 in
theorem wX6_countAll_l80 (C : CX p s m args meth c cX6_countAll 4 none RX6 G) (hs0 : s.heap.size = G.1 + K.1) (hL : Lay K) (a1 : Nat) (h1 : Lw K a1) (k129 : MM → Int32 → Option MM) (pp : MM) (hk129 : ∀ (M20 : MM) (y21 : Int32), k129 M20 y21 = some pp → Z p l e (rmo 3 0 0) s m args below meth c 4 G (MQ below (QC G none K pp) args s 0 0 (AG G)) K 0 0 M20 129 [(0, .ref (G.1 + 78)), (1, .ref (G.1 + a1)), (2, .int y21)] []) : ∀ (n : Nat) (M16 : MM) (y17 : Int32) (y18 : Int32) (hf : fX6_countAll_l80 a1 k129 n M16 y17 y18 = some pp), Z p l e (rmo 3 0 0) s m args below meth c 4 G (MQ below (QC G none K pp) args s 0 0 (AG G)) K 0 0 M16 80 [(0, .ref (G.1 + 78)), (1, .ref (G.1 + a1)), (2, .int y17), (3, .int y18)] [] := by
  intro n
  induction n with
  | zero => intro M16 y17 y18 hf; exact nomatch (show (none : Option MM) = some pp from hf)
  | succ n ih =>
    intro M16 y17 y18 hf
    rw [fX6_countAll_l80.eq_2] at hf
    refine z_iload_n C 3 3 dX6_countAll_80 rfl rfl ?_
    refine z_aload_n C 0 0 dX6_countAll_81 rfl rfl ?_
    refine z_getR C ok_X6 (lay_c78 hL) 0 (60) (by decide) rfl (lay_r78_0 hL) q_fl_X6_9 dX6_countAll_82 ?_
    refine z_getR C ok_X0 (lay_c60 hL) 0 (61) (by decide) rfl (lay_r60_0 hL) q_fl_X6_70 dX6_countAll_85 ?_
    refine z_getI C ok_X5 (lay_c61 hL) 2 (by decide) rfl q_fl_X6_126 dX6_countAll_88 ?_
    refine z_icmp_ge C 129 dX6_countAll_91 (by decide) (fun c19 => ?_) (fun c19 => ?_)
    · replace hf := ite_t c19 hf
      refine z_lv (lv2 := [(0, .ref (G.1 + 78)), (1, .ref (G.1 + a1)), (2, .int y17)]) [0, 1, 2] rfl ?_
      exact hk129 M16 y17  hf
    · replace hf := ite_f c19 hf
      refine z_aload_n C 0 0 dX6_countAll_94 rfl rfl ?_
      refine z_getR C ok_X6 (lay_c78 hL) 0 (60) (by decide) rfl (lay_r78_0 hL) q_fl_X6_9 dX6_countAll_95 ?_
      refine z_getR C ok_X0 (lay_c60 hL) 1 (70) (by decide) rfl (lay_r60_1 hL) q_fl_X6_129 dX6_countAll_98 ?_
      refine z_iload_n C 2 2 dX6_countAll_101 rfl rfl ?_
      replace hf := gd_out hf
      obtain ⟨g22, hf⟩ := hf
      refine z_iald C (lay_c70 hL) (inb_in g22) dX6_countAll_102 ?_
      refine z_iload_n C 3 3 dX6_countAll_103 rfl rfl ?_
      refine z_iushr C dX6_countAll_104 ?_
      refine z_iconst C 1 dX6_countAll_105 (by decide) ?_
      refine z_iand C dX6_countAll_106 ?_
      refine z_if_eq C 123 dX6_countAll_107 (by decide) (fun c23 => ?_) (fun c23 => ?_)
      · replace hf := ite_t c23 hf
        refine z_iinc C 3 (y18 + 1) [(3, .int (y18 + 1)), (0, .ref (G.1 + 78)), (1, .ref (G.1 + a1)), (2, .int y17)] dX6_countAll_123 rfl rfl (by decide) rfl rfl ?_
        refine z_goto C 80 dX6_countAll_126 (by decide) ?_
        refine z_lv (lv2 := [(0, .ref (G.1 + 78)), (1, .ref (G.1 + a1)), (2, .int y17), (3, .int (y18 + 1))]) [1, 2, 3, 0] rfl ?_
        exact ih M16 y17 (y18 + 1)  hf
      · replace hf := ite_f c23 hf
        refine z_aload_n C 0 0 dX6_countAll_110 rfl rfl ?_
        refine z_getR C ok_X6 (lay_c78 hL) 2 (79) (by decide) rfl (lay_r78_2 hL) q_fl_X6_15 dX6_countAll_111 ?_
        refine z_iload_n C 3 3 dX6_countAll_114 rfl rfl ?_
        refine z_dup2 C rfl rfl dX6_countAll_115 ?_
        replace hf := gd_out hf
        obtain ⟨g24, hf⟩ := hf
        refine z_iald C (lay_c79 hL) (inb_in g24) dX6_countAll_116 ?_
        refine z_aload_n C 1 1 dX6_countAll_117 rfl rfl ?_
        refine z_getI C ok_X4 (Lw_o h1) 5 (by decide) rfl q_fl_X6_132 dX6_countAll_118 ?_
        refine z_iadd C dX6_countAll_121 ?_
        replace hf := gd_out hf
        obtain ⟨g25, hf⟩ := hf
        refine z_iast C (lay_c79 hL) (inb_in g25) dX6_countAll_122 ?_
        refine z_M (fun M26 e27 => ?_)
        replace hf := bnd_out e27 hf
        refine z_iinc C 3 (y18 + 1) [(3, .int (y18 + 1)), (0, .ref (G.1 + 78)), (1, .ref (G.1 + a1)), (2, .int y17)] dX6_countAll_123 rfl rfl (by decide) rfl rfl ?_
        refine z_goto C 80 dX6_countAll_126 (by decide) ?_
        refine z_lv (lv2 := [(0, .ref (G.1 + 78)), (1, .ref (G.1 + a1)), (2, .int y17), (3, .int (y18 + 1))]) [1, 2, 3, 0] rfl ?_
        exact ih M26 y17 (y18 + 1)  hf
set_option maxHeartbeats 4000000 in
set_option maxRecDepth 100000 in
theorem wX6_countAll_l24 (C : CX p s m args meth c cX6_countAll 4 none RX6 G) (hs0 : s.heap.size = G.1 + K.1) (hL : Lay K) (a1 : Nat) (h1 : Lw K a1)  (pp : MM)  : ∀ (n : Nat) (M5 : MM) (y6 : Int32) (hf : fX6_countAll_l24 a1 n M5 y6 = some pp), Z p l e (rmo 3 0 0) s m args below meth c 4 G (MQ below (QC G none K pp) args s 0 0 (AG G)) K 0 0 M5 24 [(0, .ref (G.1 + 78)), (1, .ref (G.1 + a1)), (2, .int y6)] [] := by
  intro n
  induction n with
  | zero => intro M5 y6 hf; exact nomatch (show (none : Option MM) = some pp from hf)
  | succ n ih =>
    intro M5 y6 hf
    rw [fX6_countAll_l24.eq_2] at hf
    refine z_iload_n C 2 2 dX6_countAll_24 rfl rfl ?_
    refine z_aload_n C 0 0 dX6_countAll_25 rfl rfl ?_
    refine z_getR C ok_X6 (lay_c78 hL) 0 (60) (by decide) rfl (lay_r78_0 hL) q_fl_X6_9 dX6_countAll_26 ?_
    refine z_getR C ok_X0 (lay_c60 hL) 0 (61) (by decide) rfl (lay_r60_0 hL) q_fl_X6_70 dX6_countAll_29 ?_
    refine z_getI C ok_X5 (lay_c61 hL) 3 (by decide) rfl q_fl_X6_115 dX6_countAll_32 ?_
    refine z_icmp_ge C 135 dX6_countAll_35 (by decide) (fun c7 => ?_) (fun c7 => ?_)
    · replace hf := ite_t c7 hf
      cases hf
      exact z_vret C rfl dX6_countAll_135
    · replace hf := ite_f c7 hf
      refine z_aload_n C 0 0 dX6_countAll_38 rfl rfl ?_
      refine z_getR C ok_X6 (lay_c78 hL) 3 (80) (by decide) rfl (lay_r78_3 hL) q_fl_X6_19 dX6_countAll_39 ?_
      refine z_iload_n C 2 2 dX6_countAll_42 rfl rfl ?_
      refine z_dup2 C rfl rfl dX6_countAll_43 ?_
      replace hf := gd_out hf
      obtain ⟨g8, hf⟩ := hf
      refine z_iald C (lay_c80 hL) (inb_in g8) dX6_countAll_44 ?_
      refine z_aload_n C 0 0 dX6_countAll_45 rfl rfl ?_
      refine z_getR C ok_X6 (lay_c78 hL) 0 (60) (by decide) rfl (lay_r78_0 hL) q_fl_X6_9 dX6_countAll_46 ?_
      refine z_iload_n C 2 2 dX6_countAll_49 rfl rfl ?_
      refine z_aload_n C 1 1 dX6_countAll_50 rfl rfl ?_
      replace hf := bd_out hf
      obtain ⟨p9, e10, hf⟩ := hf
      refine z_cV1 C [.int (gI M5 80 (ix y6)), .int y6, .ref (G.1 + 80)] (tX0_countIn l G hL M5 y6 a1 h1 _ e10) lk_X0_countIn ok_X0 (lay_c60 hL) q_ml_X6_118 rfl ⟨Nat.le_of_ble_eq_true rfl, Nat.le_of_ble_eq_true rfl⟩ rfl (Nat.le_of_ble_eq_true rfl) ⟨Nat.le_refl _, Nat.le_refl _⟩ dX6_countAll_51 ?_
      refine z_iadd C dX6_countAll_54 ?_
      replace hf := gd_out hf
      obtain ⟨g11, hf⟩ := hf
      refine z_iast C (lay_c80 hL) (inb_in g11) dX6_countAll_55 ?_
      refine z_M (fun M12 e13 => ?_)
      replace hf := bnd_out e13 hf
      refine z_aload_n C 1 1 dX6_countAll_56 rfl rfl ?_
      refine z_aload_n C 0 0 dX6_countAll_57 rfl rfl ?_
      refine z_getR C ok_X6 (lay_c78 hL) 0 (60) (by decide) rfl (lay_r78_0 hL) q_fl_X6_9 dX6_countAll_58 ?_
      refine z_getR C ok_X0 (lay_c60 hL) 0 (61) (by decide) rfl (lay_r60_0 hL) q_fl_X6_70 dX6_countAll_61 ?_
      refine z_getR C ok_X5 (lay_c61 hL) 6 (64) (by decide) rfl (lay_r61_6 hL) q_fl_X6_122 dX6_countAll_64 ?_
      refine z_iload_n C 2 2 dX6_countAll_67 rfl rfl ?_
      replace hf := gd_out hf
      obtain ⟨g14, hf⟩ := hf
      refine z_iald C (lay_c64 hL) (inb_in g14) dX6_countAll_68 ?_
      refine z_cV1 C [] (tX4_isSoup l G hL M12 a1 h1 (gI M12 64 (ix y6))) lk_X4_isSoup ok_X4 (Lw_o h1) q_ml_X6_123 rfl ⟨Nat.le_of_ble_eq_true rfl, Nat.le_of_ble_eq_true rfl⟩ rfl (Nat.le_of_ble_eq_true rfl) ⟨Nat.le_refl _, Nat.le_refl _⟩ dX6_countAll_69 ?_
      refine z_if_eq C 78 dX6_countAll_72 (by decide) (fun c15 => ?_) (fun c15 => ?_)
      · replace hf := ite_t c15 hf
        refine z_iconst C 0 dX6_countAll_78 (by decide) ?_
        refine z_istore_n C [(3, .int 0), (0, .ref (G.1 + 78)), (1, .ref (G.1 + a1)), (2, .int y6)] dX6_countAll_79 rfl (by decide) rfl rfl ?_
        refine z_lv (lv2 := [(0, .ref (G.1 + 78)), (1, .ref (G.1 + a1)), (2, .int y6), (3, .int 0)]) [1, 2, 3, 0] rfl ?_
        refine wX6_countAll_l80 C hs0 hL a1 h1 _ pp ?_ FU M12 y6 0 hf
        · intro M28 y29 hf
          refine z_iinc C 2 (y29 + 1) [(2, .int (y29 + 1)), (0, .ref (G.1 + 78)), (1, .ref (G.1 + a1))] dX6_countAll_129 rfl rfl (by decide) rfl rfl ?_
          refine z_goto C 24 dX6_countAll_132 (by decide) ?_
          refine z_lv (lv2 := [(0, .ref (G.1 + 78)), (1, .ref (G.1 + a1)), (2, .int (y29 + 1))]) [1, 2, 0] rfl ?_
          exact ih M28 (y29 + 1)  hf
      · replace hf := ite_f c15 hf
        refine z_goto C 129 dX6_countAll_75 (by decide) ?_
        refine z_iinc C 2 (y6 + 1) [(2, .int (y6 + 1)), (0, .ref (G.1 + 78)), (1, .ref (G.1 + a1))] dX6_countAll_129 rfl rfl (by decide) rfl rfl ?_
        refine z_goto C 24 dX6_countAll_132 (by decide) ?_
        refine z_lv (lv2 := [(0, .ref (G.1 + 78)), (1, .ref (G.1 + a1)), (2, .int (y6 + 1))]) [1, 2, 0] rfl ?_
        exact ih M12 (y6 + 1)  hf
set_option maxHeartbeats 4000000 in
set_option maxRecDepth 100000 in
theorem tX6_countAll (l : Launch) (G : GG) {K : SK} (hL : Lay K) (M : MM) (a1 : Nat) (h1 : Lw K a1) (pp : MM) (hf : fX6_countAll M a1 = some pp) : Ct l yX6_countAll cX6_countAll 4 none 3 0 0 G K M [.ref (G.1 + 78), .ref (G.1 + a1)] none K pp := by
  refine z_enter (lv := [(0, .ref (G.1 + 78)), (1, .ref (G.1 + a1))]) (by decide +kernel) (Nat.le_of_ble_eq_true rfl) rfl ?_
  intro p e s m args below meth c C hnm hs0
  replace C : CX p s m args meth c cX6_countAll 4 none RX6 G := C
  unfold fX6_countAll at hf
  refine z_aload_n C 0 0 dX6_countAll_0 rfl rfl ?_
  refine z_dup C rfl dX6_countAll_1 ?_
  refine z_getI C ok_X6 (lay_c78 hL) 1 (by decide) rfl q_fl_X6_28 dX6_countAll_2 ?_
  refine z_iconst C 1 dX6_countAll_5 (by decide) ?_
  refine z_iadd C dX6_countAll_6 ?_
  refine z_putI C ok_X6 (lay_c78 hL) 1 (by decide) rfl rfl rfl rfl q_fl_X6_28 dX6_countAll_7 ?_
  refine z_M (fun M1 e2 => ?_)
  replace hf := bnd_out e2 hf
  refine z_aload_n C 0 0 dX6_countAll_10 rfl rfl ?_
  refine z_getR C ok_X6 (lay_c78 hL) 0 (60) (by decide) rfl (lay_r78_0 hL) q_fl_X6_9 dX6_countAll_11 ?_
  refine z_aload_n C 1 1 dX6_countAll_14 rfl rfl ?_
  refine z_getI C ok_X4 (Lw_o h1) 0 (by decide) rfl q_fl_X6_106 dX6_countAll_15 ?_
  replace hf := bd_out hf
  obtain ⟨p3, e4, hf⟩ := hf
  refine z_cV1 C [] (tX0_spread l G hL M1 (gI M1 a1 0) _ e4) lk_X0_spread ok_X0 (lay_c60 hL) q_ml_X6_111 rfl ⟨Nat.le_of_ble_eq_true rfl, Nat.le_of_ble_eq_true rfl⟩ rfl (Nat.le_of_ble_eq_true rfl) ⟨Nat.le_refl _, Nat.le_refl _⟩ dX6_countAll_18 ?_
  refine z_pop C rfl dX6_countAll_21 ?_
  refine z_iconst C 0 dX6_countAll_22 (by decide) ?_
  refine z_istore_n C [(2, .int 0), (0, .ref (G.1 + 78)), (1, .ref (G.1 + a1))] dX6_countAll_23 rfl (by decide) rfl rfl ?_
  refine z_lv (lv2 := [(0, .ref (G.1 + 78)), (1, .ref (G.1 + a1)), (2, .int 0)]) [1, 2, 0] rfl ?_
  exact wX6_countAll_l24 C hs0 hL a1 h1 pp FU p3.2 0 hf
set_option maxHeartbeats 4000000 in
set_option maxRecDepth 100000 in
theorem tX6_go (l : Launch) (G : GG) {K : SK} (hL : Lay K) (M : MM) (x1 : Int32) (x2 : Int32) (pp : (Int32 × MM)) (hf : fX6_go M x1 x2 = some pp) : Ct l yX6_go cX6_go 5 (some .boolean) 4 0 0 G K M [.ref (G.1 + 78), .int x1, .int x2] (some (.int pp.1)) K pp.2 := by
  refine z_enter (lv := [(0, .ref (G.1 + 78)), (1, .int x1), (2, .int x2)]) (by decide +kernel) (Nat.le_of_ble_eq_true rfl) rfl ?_
  intro p e s m args below meth c C hnm hs0
  replace C : CX p s m args meth c cX6_go 5 (some .boolean) RX6 G := C
  unfold fX6_go at hf
  refine z_aload_n C 0 0 dX6_go_0 rfl rfl ?_
  refine z_getR C ok_X6 (lay_c78 hL) 0 (60) (by decide) rfl (lay_r78_0 hL) q_fl_X6_9 dX6_go_1 ?_
  refine z_getR C ok_X0 (lay_c60 hL) 0 (61) (by decide) rfl (lay_r60_0 hL) q_fl_X6_70 dX6_go_4 ?_
  refine z_iload_n C 1 1 dX6_go_7 rfl rfl ?_
  refine z_cV1 C [] (tX5_hasPerson l G hL M 61 (lay_Par61 hL) x1) lk_X5_hasPerson ok_X5 (lay_c61 hL) q_ml_X6_91 rfl ⟨Nat.le_of_ble_eq_true rfl, Nat.le_of_ble_eq_true rfl⟩ rfl (Nat.le_of_ble_eq_true rfl) ⟨Nat.le_refl _, Nat.le_refl _⟩ dX6_go_8 ?_
  refine z_if_ne C 16 dX6_go_11 (by decide) (fun c1 => ?_) (fun c1 => ?_)
  · replace hf := ite_f c1 hf
    refine z_aload_n C 0 0 dX6_go_16 rfl rfl ?_
    refine z_getR C ok_X6 (lay_c78 hL) 0 (60) (by decide) rfl (lay_r78_0 hL) q_fl_X6_9 dX6_go_17 ?_
    refine z_getR C ok_X0 (lay_c60 hL) 0 (61) (by decide) rfl (lay_r60_0 hL) q_fl_X6_70 dX6_go_20 ?_
    refine z_getR C ok_X5 (lay_c61 hL) 4 (62) (by decide) rfl (lay_r61_4 hL) q_fl_X6_94 dX6_go_23 ?_
    refine z_iload_n C 1 1 dX6_go_26 rfl rfl ?_
    replace hf := gd_out hf
    obtain ⟨g2, hf⟩ := hf
    refine z_iald C (lay_c62 hL) (inb_in g2) dX6_go_27 ?_
    refine z_topi (fun v3 e4 => ?_)
    replace hf := bnd_out e4 hf
    refine z_istore_n C [(3, .int v3), (0, .ref (G.1 + 78)), (1, .int x1), (2, .int x2)] dX6_go_28 rfl (by decide) rfl rfl ?_
    refine z_aload_n C 1 0 dX6_go_29 rfl rfl ?_
    refine z_getR C ok_X6 (lay_c78 hL) 0 (60) (by decide) rfl (lay_r78_0 hL) q_fl_X6_9 dX6_go_30 ?_
    refine z_iload_n C 0 3 dX6_go_33 rfl rfl ?_
    refine z_iload_n C 3 2 dX6_go_34 rfl rfl ?_
    replace hf := bd_out hf
    obtain ⟨p5, e6, hf⟩ := hf
    refine z_cV1 C [] (tX0_stepFrom l G hL M v3 x2 _ e6) lk_X0_stepFrom ok_X0 (lay_c60 hL) q_ml_X6_97 rfl ⟨Nat.le_of_ble_eq_true rfl, Nat.le_of_ble_eq_true rfl⟩ rfl (Nat.le_of_ble_eq_true rfl) ⟨Nat.le_refl _, Nat.le_refl _⟩ dX6_go_35 ?_
    refine z_istore C [(4, .int p5), (3, .int v3), (0, .ref (G.1 + 78)), (1, .int x1), (2, .int x2)] dX6_go_38 (by decide) rfl rfl ?_
    refine z_iload C 0 dX6_go_40 rfl ?_
    refine z_iconst C (-1) dX6_go_42 (by decide) ?_
    refine z_icmp_eq C 58 dX6_go_43 (by decide) (fun c7 => ?_) (fun c7 => ?_)
    · replace hf := ite_t c7 hf
      refine z_iconst C 0 dX6_go_58 (by decide) ?_
      cases hf
      exact z_zret C rfl nb0 dX6_go_59
    · replace hf := ite_f c7 hf
      refine z_aload_n C 2 0 dX6_go_46 rfl rfl ?_
      refine z_getR C ok_X6 (lay_c78 hL) 0 (60) (by decide) rfl (lay_r78_0 hL) q_fl_X6_9 dX6_go_47 ?_
      refine z_iload C 0 dX6_go_50 rfl ?_
      replace hf := bd_out hf
      obtain ⟨p8, e9, hf⟩ := hf
      refine z_cV1 C [] (tX0_isFree l G hL M p5 _ e9) lk_X0_isFree ok_X0 (lay_c60 hL) q_ml_X6_100 rfl ⟨Nat.le_of_ble_eq_true rfl, Nat.le_of_ble_eq_true rfl⟩ rfl (Nat.le_of_ble_eq_true rfl) ⟨Nat.le_refl _, Nat.le_refl _⟩ dX6_go_52 ?_
      refine z_if_ne C 60 dX6_go_55 (by decide) (fun c10 => ?_) (fun c10 => ?_)
      · replace hf := ite_f c10 hf
        refine z_aload_n C 2 0 dX6_go_60 rfl rfl ?_
        refine z_getR C ok_X6 (lay_c78 hL) 0 (60) (by decide) rfl (lay_r78_0 hL) q_fl_X6_9 dX6_go_61 ?_
        refine z_iload_n C 1 3 dX6_go_64 rfl rfl ?_
        refine z_iconst C 0 dX6_go_65 (by decide) ?_
        replace hf := bd_out hf
        obtain ⟨p11, e12, hf⟩ := hf
        refine z_cV0 C [] (tX0_lay l G hL M v3 0 _ e12) lk_X0_lay ok_X0 (lay_c60 hL) q_ml_X6_103 rfl ⟨Nat.le_of_ble_eq_true rfl, Nat.le_of_ble_eq_true rfl⟩ rfl (Nat.le_of_ble_eq_true rfl) ⟨Nat.le_refl _, Nat.le_refl _⟩ dX6_go_66 ?_
        refine z_aload_n C 2 0 dX6_go_69 rfl rfl ?_
        refine z_getR C ok_X6 (lay_c78 hL) 0 (60) (by decide) rfl (lay_r78_0 hL) q_fl_X6_9 dX6_go_70 ?_
        refine z_iload C 0 dX6_go_73 rfl ?_
        refine z_bipush C 10 dX6_go_75 (by decide) ?_
        refine z_iload_n C 3 1 dX6_go_77 rfl rfl ?_
        refine z_iadd C dX6_go_78 ?_
        replace hf := bd_out hf
        obtain ⟨p13, e14, hf⟩ := hf
        refine z_cV0 C [] (tX0_lay l G hL p11 p5 (10 + x1) _ e14) lk_X0_lay ok_X0 (lay_c60 hL) q_ml_X6_103 rfl ⟨Nat.le_of_ble_eq_true rfl, Nat.le_of_ble_eq_true rfl⟩ rfl (Nat.le_of_ble_eq_true rfl) ⟨Nat.le_refl _, Nat.le_refl _⟩ dX6_go_79 ?_
        refine z_aload_n C 2 0 dX6_go_82 rfl rfl ?_
        refine z_getR C ok_X6 (lay_c78 hL) 0 (60) (by decide) rfl (lay_r78_0 hL) q_fl_X6_9 dX6_go_83 ?_
        refine z_getR C ok_X0 (lay_c60 hL) 0 (61) (by decide) rfl (lay_r60_0 hL) q_fl_X6_70 dX6_go_86 ?_
        refine z_getR C ok_X5 (lay_c61 hL) 4 (62) (by decide) rfl (lay_r61_4 hL) q_fl_X6_94 dX6_go_89 ?_
        refine z_iload_n C 3 1 dX6_go_92 rfl rfl ?_
        refine z_iload C 0 dX6_go_93 rfl ?_
        replace hf := gd_out hf
        obtain ⟨g15, hf⟩ := hf
        refine z_iast C (lay_c62 hL) (inb_in g15) dX6_go_95 ?_
        refine z_M (fun M16 e17 => ?_)
        replace hf := bnd_out e17 hf
        refine z_iconst C 1 dX6_go_96 (by decide) ?_
        cases hf
        exact z_zret C rfl nb1 dX6_go_97
      · replace hf := ite_t c10 hf
        refine z_iconst C 0 dX6_go_58 (by decide) ?_
        cases hf
        exact z_zret C rfl nb0 dX6_go_59
  · replace hf := ite_t c1 hf
    refine z_iconst C 0 dX6_go_14 (by decide) ?_
    cases hf
    exact z_zret C rfl nb0 dX6_go_15
set_option maxHeartbeats 4000000 in
set_option maxRecDepth 100000 in
theorem wX6_does_j74 (C : CX p s m args meth c cX6_does 5 (some .boolean) RX6 G) (hs0 : s.heap.size = G.1 + K.1) (hL : Lay K) (a4 : Nat) (h4 : Lw K a4)  (pp : (Int32 × MM))  (M6 : MM) (y7 : Int32) (y8 : Int32) (y9 : Int32) (hf : fX6_does_j74 a4 M6 y7 y8 y9 = some pp) : Z p l e (rmo 5 0 0) s m args below meth c 5 G (MQ below (QC G (some (.int pp.1)) K pp.2) args s 0 0 (AG G)) K 0 0 M6 74 [(0, .ref (G.1 + 78)), (2, .int y7)] [.int y9, .int y8] := by
  unfold fX6_does_j74 at hf
  refine z_icmp_eq C 79 dX6_does_74 (by decide) (fun c10 => ?_) (fun c10 => ?_)
  · replace hf := ite_t c10 hf
    refine z_aload_n C 0 0 dX6_does_79 rfl rfl ?_
    refine z_getR C ok_X6 (lay_c78 hL) 0 (60) (by decide) rfl (lay_r78_0 hL) q_fl_X6_9 dX6_does_80 ?_
    refine z_iload_n C 1 2 dX6_does_83 rfl rfl ?_
    replace hf := bd_out hf
    obtain ⟨p11, e12, hf⟩ := hf
    refine z_cV0 C [] (tX0_stirOrCalm l G hL M6 y7 _ e12) lk_X0_stirOrCalm ok_X0 (lay_c60 hL) q_ml_X6_87 rfl ⟨Nat.le_of_ble_eq_true rfl, Nat.le_of_ble_eq_true rfl⟩ rfl (Nat.le_of_ble_eq_true rfl) ⟨Nat.le_refl _, Nat.le_refl _⟩ dX6_does_84 ?_
    refine z_iconst C 1 dX6_does_87 (by decide) ?_
    cases hf
    exact z_zret C rfl nb1 dX6_does_88
  · replace hf := ite_f c10 hf
    refine z_iconst C 0 dX6_does_77 (by decide) ?_
    cases hf
    exact z_zret C rfl nb0 dX6_does_78
set_option maxHeartbeats 4000000 in
set_option maxRecDepth 100000 in
theorem tX6_does (l : Launch) (G : GG) {K : SK} (hL : Lay K) (M : MM) (x1 : Int32) (x2 : Int32) (x3 : Int32) (a4 : Nat) (h4 : Lw K a4) (pp : (Int32 × MM)) (hf : fX6_does M x1 x2 x3 a4 = some pp) : Ct l yX6_does cX6_does 5 (some .boolean) 5 0 0 G K M [.ref (G.1 + 78), .int x1, .int x2, .int x3, .ref (G.1 + a4)] (some (.int pp.1)) K pp.2 := by
  refine z_enter (lv := [(0, .ref (G.1 + 78)), (1, .int x1), (2, .int x2), (3, .int x3), (4, .ref (G.1 + a4))]) (by decide +kernel) (Nat.le_of_ble_eq_true rfl) rfl ?_
  intro p e s m args below meth c C hnm hs0
  replace C : CX p s m args meth c cX6_does 5 (some .boolean) RX6 G := C
  unfold fX6_does at hf
  refine z_iload_n C 1 1 dX6_does_0 rfl rfl ?_
  refine z_iconst C 4 dX6_does_1 (by decide) ?_
  refine z_icmp_ne C 13 dX6_does_2 (by decide) (fun c1 => ?_) (fun c1 => ?_)
  · replace hf := ite_f c1 hf
    refine z_iload_n C 1 1 dX6_does_13 rfl rfl ?_
    refine z_if_ne C 24 dX6_does_14 (by decide) (fun c2 => ?_) (fun c2 => ?_)
    · replace hf := ite_f c2 hf
      refine z_aload_n C 0 0 dX6_does_24 rfl rfl ?_
      refine z_getR C ok_X6 (lay_c78 hL) 0 (60) (by decide) rfl (lay_r78_0 hL) q_fl_X6_9 dX6_does_25 ?_
      refine z_getR C ok_X0 (lay_c60 hL) 0 (61) (by decide) rfl (lay_r60_0 hL) q_fl_X6_70 dX6_does_28 ?_
      refine z_iload_n C 2 2 dX6_does_31 rfl rfl ?_
      refine z_cV1 C [] (tX5_hasShine l G hL M 61 (lay_Par61 hL) x2) lk_X5_hasShine ok_X5 (lay_c61 hL) q_ml_X6_74 rfl ⟨Nat.le_of_ble_eq_true rfl, Nat.le_of_ble_eq_true rfl⟩ rfl (Nat.le_of_ble_eq_true rfl) ⟨Nat.le_refl _, Nat.le_refl _⟩ dX6_does_32 ?_
      refine z_if_ne C 40 dX6_does_35 (by decide) (fun c3 => ?_) (fun c3 => ?_)
      · replace hf := ite_f c3 hf
        refine z_iload_n C 1 1 dX6_does_40 rfl rfl ?_
        refine z_iconst C 1 dX6_does_41 (by decide) ?_
        refine z_icmp_ne C 56 dX6_does_42 (by decide) (fun c4 => ?_) (fun c4 => ?_)
        · replace hf := ite_f c4 hf
          refine z_aload_n C 0 0 dX6_does_56 rfl rfl ?_
          refine z_getR C ok_X6 (lay_c78 hL) 0 (60) (by decide) rfl (lay_r78_0 hL) q_fl_X6_9 dX6_does_57 ?_
          refine z_iload_n C 2 2 dX6_does_60 rfl rfl ?_
          refine z_cV1 C [] (tX0_isStirred l G hL M x2) lk_X0_isStirred ok_X0 (lay_c60 hL) q_ml_X6_84 rfl ⟨Nat.le_of_ble_eq_true rfl, Nat.le_of_ble_eq_true rfl⟩ rfl (Nat.le_of_ble_eq_true rfl) ⟨Nat.le_refl _, Nat.le_refl _⟩ dX6_does_61 ?_
          refine z_iload_n C 1 1 dX6_does_64 rfl rfl ?_
          refine z_iconst C 3 dX6_does_65 (by decide) ?_
          refine z_icmp_ne C 73 dX6_does_66 (by decide) (fun c5 => ?_) (fun c5 => ?_)
          · replace hf := ite_f c5 hf
            refine z_iconst C 0 dX6_does_73 (by decide) ?_
            refine z_lv (lv2 := [(0, .ref (G.1 + 78)), (2, .int x2)]) [0, 2] rfl ?_
            exact wX6_does_j74 C hs0 hL a4 h4 pp M x2 (fX0_isStirred M x2) 0 hf
          · replace hf := ite_t c5 hf
            refine z_iconst C 1 dX6_does_69 (by decide) ?_
            refine z_goto C 74 dX6_does_70 (by decide) ?_
            refine z_lv (lv2 := [(0, .ref (G.1 + 78)), (2, .int x2)]) [0, 2] rfl ?_
            exact wX6_does_j74 C hs0 hL a4 h4 pp M x2 (fX0_isStirred M x2) 1 hf
        · replace hf := ite_t c4 hf
          refine z_aload_n C 0 0 dX6_does_45 rfl rfl ?_
          refine z_getR C ok_X6 (lay_c78 hL) 0 (60) (by decide) rfl (lay_r78_0 hL) q_fl_X6_9 dX6_does_46 ?_
          refine z_iload_n C 2 2 dX6_does_49 rfl rfl ?_
          refine z_iload_n C 3 3 dX6_does_50 rfl rfl ?_
          replace hf := bd_out hf
          obtain ⟨p13, e14, hf⟩ := hf
          refine z_cV0 C [] (tX0_face l G hL M x2 x3 _ e14) lk_X0_face ok_X0 (lay_c60 hL) q_ml_X6_80 rfl ⟨Nat.le_of_ble_eq_true rfl, Nat.le_of_ble_eq_true rfl⟩ rfl (Nat.le_of_ble_eq_true rfl) ⟨Nat.le_refl _, Nat.le_refl _⟩ dX6_does_51 ?_
          refine z_iconst C 1 dX6_does_54 (by decide) ?_
          cases hf
          exact z_zret C rfl nb1 dX6_does_55
      · replace hf := ite_t c3 hf
        refine z_iconst C 0 dX6_does_38 (by decide) ?_
        cases hf
        exact z_zret C rfl nb0 dX6_does_39
    · replace hf := ite_t c2 hf
      refine z_aload_n C 0 0 dX6_does_17 rfl rfl ?_
      refine z_iload_n C 2 2 dX6_does_18 rfl rfl ?_
      refine z_iload_n C 3 3 dX6_does_19 rfl rfl ?_
      replace hf := bd_out hf
      obtain ⟨p15, e16, hf⟩ := hf
      refine z_cV1 C [] (tX6_go l G hL M x2 x3 _ e16) lk_X6_go ok_X6 (lay_c78 hL) q_ml_X6_66 rfl ⟨Nat.le_of_ble_eq_true rfl, Nat.le_of_ble_eq_true rfl⟩ rfl (Nat.le_of_ble_eq_true rfl) ⟨Nat.le_refl _, Nat.le_refl _⟩ dX6_does_20 ?_
      replace hf := gd_out hf
      obtain ⟨g17, hf⟩ := hf
      cases hf
      exact z_zret C rfl (isb_n g17) dX6_does_23
  · replace hf := ite_t c1 hf
    refine z_aload_n C 0 0 dX6_does_5 rfl rfl ?_
    refine z_aload C 4 dX6_does_6 rfl ?_
    replace hf := bd_out hf
    obtain ⟨p18, e19, hf⟩ := hf
    refine z_cV0 C [] (tX6_countAll l G hL M a4 h4 _ e19) lk_X6_countAll ok_X6 (lay_c78 hL) q_ml_X6_62 rfl ⟨Nat.le_of_ble_eq_true rfl, Nat.le_of_ble_eq_true rfl⟩ rfl (Nat.le_of_ble_eq_true rfl) ⟨Nat.le_refl _, Nat.le_refl _⟩ dX6_does_8 ?_
    refine z_iconst C 1 dX6_does_11 (by decide) ?_
    cases hf
    exact z_zret C rfl nb1 dX6_does_12
set_option maxHeartbeats 4000000 in
set_option maxRecDepth 100000 in
theorem wX6_perform_l3 (C : CX p s m args meth c cX6_perform 5 (some .int) RX6 G) (hs0 : s.heap.size = G.1 + K.1) (hL : Lay K) (a1 : Nat) (h1 : Ev K a1) (a2 : Nat) (h2 : Lw K a2) (k56 : MM → Int32 → Option (Int32 × MM)) (pp : (Int32 × MM)) (hk56 : ∀ (M5 : MM) (y6 : Int32), k56 M5 y6 = some pp → Z p l e (rmo 6 0 0) s m args below meth c 5 G (MQ below (QC G (some (.int pp.1)) K pp.2) args s 0 0 (AG G)) K 0 0 M5 56 [(1, .ref (G.1 + a1)), (3, .int y6)] []) : ∀ (n : Nat) (M1 : MM) (y2 : Int32) (y3 : Int32) (hf : fX6_perform_l3 a1 a2 k56 n M1 y2 y3 = some pp), Z p l e (rmo 6 0 0) s m args below meth c 5 G (MQ below (QC G (some (.int pp.1)) K pp.2) args s 0 0 (AG G)) K 0 0 M1 3 [(0, .ref (G.1 + 78)), (1, .ref (G.1 + a1)), (2, .ref (G.1 + a2)), (3, .int y2), (4, .int y3)] [] := by
  intro n
  induction n with
  | zero => intro M1 y2 y3 hf; exact nomatch (show (none : Option (Int32 × MM)) = some pp from hf)
  | succ n ih =>
    intro M1 y2 y3 hf
    rw [fX6_perform_l3.eq_2] at hf
    refine z_iload C 4 dX6_perform_3 rfl ?_
    refine z_iload_n C 3 3 dX6_perform_5 rfl rfl ?_
    refine z_icmp_ge C 56 dX6_perform_6 (by decide) (fun c4 => ?_) (fun c4 => ?_)
    · replace hf := ite_t c4 hf
      refine z_lv (lv2 := [(1, .ref (G.1 + a1)), (3, .int y2)]) [1, 3] rfl ?_
      exact hk56 M1 y2  hf
    · replace hf := ite_f c4 hf
      refine z_iload C 4 dX6_perform_9 rfl ?_
      refine z_aload_n C 1 1 dX6_perform_11 rfl rfl ?_
      refine z_getI C ok_X2 (Ev_o h1) 0 (by decide) rfl q_fl_X6_38 dX6_perform_12 ?_
      refine z_icmp_ge C 56 dX6_perform_15 (by decide) (fun c7 => ?_) (fun c7 => ?_)
      · replace hf := ite_t c7 hf
        refine z_lv (lv2 := [(1, .ref (G.1 + a1)), (3, .int y2)]) [1, 3] rfl ?_
        exact hk56 M1 y2  hf
      · replace hf := ite_f c7 hf
        refine z_aload_n C 0 0 dX6_perform_18 rfl rfl ?_
        refine z_aload_n C 1 1 dX6_perform_19 rfl rfl ?_
        refine z_getR C ok_X2 (Ev_o h1) 1 (a1 + 1) (by decide) rfl (Ev_r1 h1) q_fl_X6_43 dX6_perform_20 ?_
        refine z_iload C 4 dX6_perform_23 rfl ?_
        replace hf := gd_out hf
        obtain ⟨g8, hf⟩ := hf
        refine z_iald C (Ev_c1 h1) (inb_in g8) dX6_perform_25 ?_
        refine z_aload_n C 1 1 dX6_perform_26 rfl rfl ?_
        refine z_getR C ok_X2 (Ev_o h1) 2 (a1 + 2) (by decide) rfl (Ev_r2 h1) q_fl_X6_46 dX6_perform_27 ?_
        refine z_iload C 4 dX6_perform_30 rfl ?_
        replace hf := gd_out hf
        obtain ⟨g9, hf⟩ := hf
        refine z_iald C (Ev_c2 h1) (inb_in g9) dX6_perform_32 ?_
        refine z_aload_n C 1 1 dX6_perform_33 rfl rfl ?_
        refine z_getR C ok_X2 (Ev_o h1) 3 (a1 + 3) (by decide) rfl (Ev_r3 h1) q_fl_X6_49 dX6_perform_34 ?_
        refine z_iload C 4 dX6_perform_37 rfl ?_
        replace hf := gd_out hf
        obtain ⟨g10, hf⟩ := hf
        refine z_iald C (Ev_c3 h1) (inb_in g10) dX6_perform_39 ?_
        refine z_aload_n C 2 2 dX6_perform_40 rfl rfl ?_
        replace hf := bd_out hf
        obtain ⟨p11, e12, hf⟩ := hf
        refine z_cV1 C [] (tX6_does l G hL M1 (gI M1 (a1 + 1) (ix y3)) (gI M1 (a1 + 2) (ix y3)) (gI M1 (a1 + 3) (ix y3)) a2 h2 _ e12) lk_X6_does ok_X6 (lay_c78 hL) q_ml_X6_52 rfl ⟨Nat.le_of_ble_eq_true rfl, Nat.le_of_ble_eq_true rfl⟩ rfl (Nat.le_of_ble_eq_true rfl) ⟨Nat.le_refl _, Nat.le_refl _⟩ dX6_perform_41 ?_
        refine z_if_ne C 50 dX6_perform_44 (by decide) (fun c13 => ?_) (fun c13 => ?_)
        · replace hf := ite_f c13 hf
          refine z_iinc C 4 (y3 + 1) [(4, .int (y3 + 1)), (0, .ref (G.1 + 78)), (1, .ref (G.1 + a1)), (2, .ref (G.1 + a2)), (3, .int y2)] dX6_perform_50 rfl rfl (by decide) rfl rfl ?_
          refine z_goto C 3 dX6_perform_53 (by decide) ?_
          refine z_lv (lv2 := [(0, .ref (G.1 + 78)), (1, .ref (G.1 + a1)), (2, .ref (G.1 + a2)), (3, .int y2), (4, .int (y3 + 1))]) [1, 2, 3, 4, 0] rfl ?_
          exact ih p11.2 y2 (y3 + 1)  hf
        · replace hf := ite_t c13 hf
          refine z_iload C 4 dX6_perform_47 rfl ?_
          cases hf
          exact z_iret C rfl dX6_perform_49
set_option maxHeartbeats 4000000 in
set_option maxRecDepth 100000 in
theorem wX6_perform_j56 (C : CX p s m args meth c cX6_perform 5 (some .int) RX6 G) (hs0 : s.heap.size = G.1 + K.1) (hL : Lay K) (a1 : Nat) (h1 : Ev K a1) (a2 : Nat) (h2 : Lw K a2)  (pp : (Int32 × MM))  (M16 : MM) (y17 : Int32) (hf : fX6_perform_j56 a1 a2 M16 y17 = some pp) : Z p l e (rmo 6 0 0) s m args below meth c 5 G (MQ below (QC G (some (.int pp.1)) K pp.2) args s 0 0 (AG G)) K 0 0 M16 56 [(1, .ref (G.1 + a1)), (3, .int y17)] [] := by
  unfold fX6_perform_j56 at hf
  refine z_iload_n C 1 3 dX6_perform_56 rfl rfl ?_
  refine z_aload_n C 0 1 dX6_perform_57 rfl rfl ?_
  refine z_getI C ok_X2 (Ev_o h1) 0 (by decide) rfl q_fl_X6_38 dX6_perform_58 ?_
  refine z_mmin C lkm_min q_ml_X6_56 (Nat.le_of_ble_eq_true rfl) (Nat.le_of_ble_eq_true rfl) ⟨Nat.le_refl _, Nat.le_refl _⟩ dX6_perform_61 ?_
  cases hf
  exact z_iret C rfl dX6_perform_64
set_option maxHeartbeats 4000000 in
set_option maxRecDepth 100000 in
theorem tX6_perform (l : Launch) (G : GG) {K : SK} (hL : Lay K) (M : MM) (a1 : Nat) (h1 : Ev K a1) (a2 : Nat) (h2 : Lw K a2) (x3 : Int32) (pp : (Int32 × MM)) (hf : fX6_perform M a1 a2 x3 = some pp) : Ct l yX6_perform cX6_perform 5 (some .int) 6 0 0 G K M [.ref (G.1 + 78), .ref (G.1 + a1), .ref (G.1 + a2), .int x3] (some (.int pp.1)) K pp.2 := by
  refine z_enter (lv := [(0, .ref (G.1 + 78)), (1, .ref (G.1 + a1)), (2, .ref (G.1 + a2)), (3, .int x3)]) (by decide +kernel) (Nat.le_of_ble_eq_true rfl) rfl ?_
  intro p e s m args below meth c C hnm hs0
  replace C : CX p s m args meth c cX6_perform 5 (some .int) RX6 G := C
  unfold fX6_perform at hf
  refine z_iconst C 0 dX6_perform_0 (by decide) ?_
  refine z_istore C [(4, .int 0), (0, .ref (G.1 + 78)), (1, .ref (G.1 + a1)), (2, .ref (G.1 + a2)), (3, .int x3)] dX6_perform_1 (by decide) rfl rfl ?_
  refine z_lv (lv2 := [(0, .ref (G.1 + 78)), (1, .ref (G.1 + a1)), (2, .ref (G.1 + a2)), (3, .int x3), (4, .int 0)]) [1, 2, 3, 4, 0] rfl ?_
  refine wX6_perform_l3 C hs0 hL a1 h1 a2 h2 _ pp ?_ FU M x3 0 hf
  · intro M14 y15 hf
    exact wX6_perform_j56 C hs0 hL a1 h1 a2 h2 pp M14 y15 hf
set_option maxHeartbeats 4000000 in
set_option maxRecDepth 100000 in
theorem tX6_draw (l : Launch) (G : GG) {K : SK} (hL : Lay K) (M : MM) (x1 : Int32) (pp : (Int32 × MM)) (hf : fX6_draw M x1 = some pp) : Ct l yX6_draw cX6_draw 2 (some .int) 0 0 0 G K M [.ref (G.1 + 78), .int x1] (some (.int pp.1)) K pp.2 := by
  refine z_enter (lv := [(0, .ref (G.1 + 78)), (1, .int x1)]) (by decide +kernel) (Nat.le_of_ble_eq_true rfl) rfl ?_
  intro p e s m args below meth c C hnm hs0
  replace C : CX p s m args meth c cX6_draw 2 (some .int) RX6 G := C
  unfold fX6_draw at hf
  refine z_aload_n C 0 0 dX6_draw_0 rfl rfl ?_
  refine z_aload_n C 0 0 dX6_draw_1 rfl rfl ?_
  refine z_getI C ok_X6 (lay_c78 hL) 4 (by decide) rfl q_fl_X6_135 dX6_draw_2 ?_
  refine z_ldc C 1103515245 q_ct_X6_147 dX6_draw_5 ?_
  refine z_imul C dX6_draw_7 ?_
  refine z_sipush C 12345 dX6_draw_8 (by decide) ?_
  refine z_iadd C dX6_draw_11 ?_
  refine z_putI C ok_X6 (lay_c78 hL) 4 (by decide) rfl rfl rfl rfl q_fl_X6_135 dX6_draw_12 ?_
  refine z_M (fun M1 e2 => ?_)
  replace hf := bnd_out e2 hf
  refine z_iload_n C 1 1 dX6_draw_15 rfl rfl ?_
  refine z_iconst C 1 dX6_draw_16 (by decide) ?_
  refine z_icmp_ge C 24 dX6_draw_17 (by decide) (fun c3 => ?_) (fun c3 => ?_)
  · replace hf := ite_t c3 hf
    refine z_aload_n C 0 0 dX6_draw_24 rfl rfl ?_
    refine z_getI C ok_X6 (lay_c78 hL) 4 (by decide) rfl q_fl_X6_135 dX6_draw_25 ?_
    refine z_bipush C 16 dX6_draw_28 (by decide) ?_
    refine z_iushr C dX6_draw_30 ?_
    refine z_iload_n C 1 1 dX6_draw_31 rfl rfl ?_
    replace hf := gd_out hf
    obtain ⟨g4, hf⟩ := hf
    refine z_irem C (nz_ne g4) dX6_draw_32 ?_
    cases hf
    exact z_iret C rfl dX6_draw_33
  · replace hf := ite_f c3 hf
    refine z_iconst C 0 dX6_draw_20 (by decide) ?_
    refine z_goto C 33 dX6_draw_21 (by decide) ?_
    cases hf
    exact z_iret C rfl dX6_draw_33
set_option maxHeartbeats 4000000 in
set_option maxRecDepth 100000 in
theorem tX6_goDrawn (l : Launch) (G : GG) {K : SK} (hL : Lay K) (M : MM)  (pp : MM) (hf : fX6_goDrawn M = some pp) : Ct l yX6_goDrawn cX6_goDrawn 3 none 5 0 0 G K M [.ref (G.1 + 78)] none K pp := by
  refine z_enter (lv := [(0, .ref (G.1 + 78))]) (by decide +kernel) (Nat.le_of_ble_eq_true rfl) rfl ?_
  intro p e s m args below meth c C hnm hs0
  replace C : CX p s m args meth c cX6_goDrawn 3 none RX6 G := C
  unfold fX6_goDrawn at hf
  refine z_aload_n C 0 0 dX6_goDrawn_0 rfl rfl ?_
  refine z_getR C ok_X6 (lay_c78 hL) 0 (60) (by decide) rfl (lay_r78_0 hL) q_fl_X6_9 dX6_goDrawn_1 ?_
  refine z_getR C ok_X0 (lay_c60 hL) 0 (61) (by decide) rfl (lay_r60_0 hL) q_fl_X6_70 dX6_goDrawn_4 ?_
  refine z_getI C ok_X5 (lay_c61 hL) 2 (by decide) rfl q_fl_X6_126 dX6_goDrawn_7 ?_
  refine z_if_ne C 14 dX6_goDrawn_10 (by decide) (fun c1 => ?_) (fun c1 => ?_)
  · replace hf := ite_f c1 hf
    refine z_aload_n C 0 0 dX6_goDrawn_14 rfl rfl ?_
    refine z_aload_n C 0 0 dX6_goDrawn_15 rfl rfl ?_
    refine z_getR C ok_X6 (lay_c78 hL) 0 (60) (by decide) rfl (lay_r78_0 hL) q_fl_X6_9 dX6_goDrawn_16 ?_
    refine z_getR C ok_X0 (lay_c60 hL) 0 (61) (by decide) rfl (lay_r60_0 hL) q_fl_X6_70 dX6_goDrawn_19 ?_
    refine z_getI C ok_X5 (lay_c61 hL) 2 (by decide) rfl q_fl_X6_126 dX6_goDrawn_22 ?_
    replace hf := bd_out hf
    obtain ⟨p2, e3, hf⟩ := hf
    refine z_cV1 C [] (tX6_draw l G hL M (gI M 61 2) _ e3) lk_X6_draw ok_X6 (lay_c78 hL) q_ml_X6_138 rfl ⟨Nat.le_of_ble_eq_true rfl, Nat.le_of_ble_eq_true rfl⟩ rfl (Nat.le_of_ble_eq_true rfl) ⟨Nat.le_refl _, Nat.le_refl _⟩ dX6_goDrawn_25 ?_
    refine z_istore_n C [(1, .int p2.1), (0, .ref (G.1 + 78))] dX6_goDrawn_28 rfl (by decide) rfl rfl ?_
    refine z_aload_n C 1 0 dX6_goDrawn_29 rfl rfl ?_
    refine z_bipush C 8 dX6_goDrawn_30 (by decide) ?_
    replace hf := bd_out hf
    obtain ⟨p4, e5, hf⟩ := hf
    refine z_cV1 C [] (tX6_draw l G hL p2.2 8 _ e5) lk_X6_draw ok_X6 (lay_c78 hL) q_ml_X6_138 rfl ⟨Nat.le_of_ble_eq_true rfl, Nat.le_of_ble_eq_true rfl⟩ rfl (Nat.le_of_ble_eq_true rfl) ⟨Nat.le_refl _, Nat.le_refl _⟩ dX6_goDrawn_32 ?_
    refine z_istore_n C [(2, .int p4.1), (1, .int p2.1), (0, .ref (G.1 + 78))] dX6_goDrawn_35 rfl (by decide) rfl rfl ?_
    refine z_aload_n C 2 0 dX6_goDrawn_36 rfl rfl ?_
    refine z_iload_n C 1 1 dX6_goDrawn_37 rfl rfl ?_
    refine z_iload_n C 0 2 dX6_goDrawn_38 rfl rfl ?_
    replace hf := bd_out hf
    obtain ⟨p6, e7, hf⟩ := hf
    refine z_cV1 C [] (tX6_go l G hL p4.2 p2.1 p4.1 _ e7) lk_X6_go ok_X6 (lay_c78 hL) q_ml_X6_66 rfl ⟨Nat.le_of_ble_eq_true rfl, Nat.le_of_ble_eq_true rfl⟩ rfl (Nat.le_of_ble_eq_true rfl) ⟨Nat.le_refl _, Nat.le_refl _⟩ dX6_goDrawn_39 ?_
    refine z_pop C rfl dX6_goDrawn_42 ?_
    cases hf
    exact z_vret C rfl dX6_goDrawn_43
  · replace hf := ite_t c1 hf
    cases hf
    exact z_vret C rfl dX6_goDrawn_13
set_option maxHeartbeats 4000000 in
set_option maxRecDepth 100000 in
theorem tX6_turnDrawn (l : Launch) (G : GG) {K : SK} (hL : Lay K) (M : MM)  (pp : MM) (hf : fX6_turnDrawn M = some pp) : Ct l yX6_turnDrawn cX6_turnDrawn 3 none 4 0 0 G K M [.ref (G.1 + 78)] none K pp := by
  refine z_enter (lv := [(0, .ref (G.1 + 78))]) (by decide +kernel) (Nat.le_of_ble_eq_true rfl) rfl ?_
  intro p e s m args below meth c C hnm hs0
  replace C : CX p s m args meth c cX6_turnDrawn 3 none RX6 G := C
  unfold fX6_turnDrawn at hf
  refine z_aload_n C 0 0 dX6_turnDrawn_0 rfl rfl ?_
  refine z_getR C ok_X6 (lay_c78 hL) 0 (60) (by decide) rfl (lay_r78_0 hL) q_fl_X6_9 dX6_turnDrawn_1 ?_
  refine z_getR C ok_X0 (lay_c60 hL) 0 (61) (by decide) rfl (lay_r60_0 hL) q_fl_X6_70 dX6_turnDrawn_4 ?_
  refine z_getI C ok_X5 (lay_c61 hL) 3 (by decide) rfl q_fl_X6_115 dX6_turnDrawn_7 ?_
  refine z_if_ne C 14 dX6_turnDrawn_10 (by decide) (fun c1 => ?_) (fun c1 => ?_)
  · replace hf := ite_f c1 hf
    refine z_aload_n C 0 0 dX6_turnDrawn_14 rfl rfl ?_
    refine z_aload_n C 0 0 dX6_turnDrawn_15 rfl rfl ?_
    refine z_getR C ok_X6 (lay_c78 hL) 0 (60) (by decide) rfl (lay_r78_0 hL) q_fl_X6_9 dX6_turnDrawn_16 ?_
    refine z_getR C ok_X0 (lay_c60 hL) 0 (61) (by decide) rfl (lay_r60_0 hL) q_fl_X6_70 dX6_turnDrawn_19 ?_
    refine z_getI C ok_X5 (lay_c61 hL) 3 (by decide) rfl q_fl_X6_115 dX6_turnDrawn_22 ?_
    replace hf := bd_out hf
    obtain ⟨p2, e3, hf⟩ := hf
    refine z_cV1 C [] (tX6_draw l G hL M (gI M 61 3) _ e3) lk_X6_draw ok_X6 (lay_c78 hL) q_ml_X6_138 rfl ⟨Nat.le_of_ble_eq_true rfl, Nat.le_of_ble_eq_true rfl⟩ rfl (Nat.le_of_ble_eq_true rfl) ⟨Nat.le_refl _, Nat.le_refl _⟩ dX6_turnDrawn_25 ?_
    refine z_istore_n C [(1, .int p2.1), (0, .ref (G.1 + 78))] dX6_turnDrawn_28 rfl (by decide) rfl rfl ?_
    refine z_aload_n C 1 0 dX6_turnDrawn_29 rfl rfl ?_
    refine z_bipush C 8 dX6_turnDrawn_30 (by decide) ?_
    replace hf := bd_out hf
    obtain ⟨p4, e5, hf⟩ := hf
    refine z_cV1 C [] (tX6_draw l G hL p2.2 8 _ e5) lk_X6_draw ok_X6 (lay_c78 hL) q_ml_X6_138 rfl ⟨Nat.le_of_ble_eq_true rfl, Nat.le_of_ble_eq_true rfl⟩ rfl (Nat.le_of_ble_eq_true rfl) ⟨Nat.le_refl _, Nat.le_refl _⟩ dX6_turnDrawn_32 ?_
    refine z_istore_n C [(2, .int p4.1), (1, .int p2.1), (0, .ref (G.1 + 78))] dX6_turnDrawn_35 rfl (by decide) rfl rfl ?_
    refine z_aload_n C 2 0 dX6_turnDrawn_36 rfl rfl ?_
    refine z_getR C ok_X6 (lay_c78 hL) 0 (60) (by decide) rfl (lay_r78_0 hL) q_fl_X6_9 dX6_turnDrawn_37 ?_
    refine z_iload_n C 1 1 dX6_turnDrawn_40 rfl rfl ?_
    refine z_iload_n C 0 2 dX6_turnDrawn_41 rfl rfl ?_
    replace hf := bd_out hf
    obtain ⟨p6, e7, hf⟩ := hf
    refine z_cV0 C [] (tX0_face l G hL p4.2 p2.1 p4.1 _ e7) lk_X0_face ok_X0 (lay_c60 hL) q_ml_X6_80 rfl ⟨Nat.le_of_ble_eq_true rfl, Nat.le_of_ble_eq_true rfl⟩ rfl (Nat.le_of_ble_eq_true rfl) ⟨Nat.le_refl _, Nat.le_refl _⟩ dX6_turnDrawn_42 ?_
    cases hf
    exact z_vret C rfl dX6_turnDrawn_45
  · replace hf := ite_t c1 hf
    cases hf
    exact z_vret C rfl dX6_turnDrawn_13
set_option maxHeartbeats 4000000 in
set_option maxRecDepth 100000 in
theorem wX6_performDrawn_l8 (C : CX p s m args meth c cX6_performDrawn 6 none RX6 G) (hs0 : s.heap.size = G.1 + K.1) (hL : Lay K) (a1 : Nat) (h1 : Lw K a1)  (pp : MM)  : ∀ (n : Nat) (M3 : MM) (y4 : Int32) (y5 : Int32) (hf : fX6_performDrawn_l8 a1 n M3 y4 y5 = some pp), Z p l e (rmo 6 0 0) s m args below meth c 6 G (MQ below (QC G none K pp) args s 0 0 (AG G)) K 0 0 M3 8 [(0, .ref (G.1 + 78)), (1, .ref (G.1 + a1)), (3, .int y4), (4, .int y5)] [] := by
  intro n
  induction n with
  | zero => intro M3 y4 y5 hf; exact nomatch (show (none : Option MM) = some pp from hf)
  | succ n ih =>
    intro M3 y4 y5 hf
    rw [fX6_performDrawn_l8.eq_2] at hf
    refine z_iload C 3 dX6_performDrawn_8 rfl ?_
    refine z_iload_n C 2 3 dX6_performDrawn_10 rfl rfl ?_
    refine z_icmp_ge C 58 dX6_performDrawn_11 (by decide) (fun c6 => ?_) (fun c6 => ?_)
    · replace hf := ite_t c6 hf
      cases hf
      exact z_vret C rfl dX6_performDrawn_58
    · replace hf := ite_f c6 hf
      refine z_aload_n C 0 0 dX6_performDrawn_14 rfl rfl ?_
      refine z_iconst C 4 dX6_performDrawn_15 (by decide) ?_
      replace hf := bd_out hf
      obtain ⟨p7, e8, hf⟩ := hf
      refine z_cV1 C [] (tX6_draw l G hL M3 4 _ e8) lk_X6_draw ok_X6 (lay_c78 hL) q_ml_X6_138 rfl ⟨Nat.le_of_ble_eq_true rfl, Nat.le_of_ble_eq_true rfl⟩ rfl (Nat.le_of_ble_eq_true rfl) ⟨Nat.le_refl _, Nat.le_refl _⟩ dX6_performDrawn_16 ?_
      refine z_istore C [(5, .int p7.1), (0, .ref (G.1 + 78)), (1, .ref (G.1 + a1)), (3, .int y4), (4, .int y5)] dX6_performDrawn_19 (by decide) rfl rfl ?_
      refine z_iload C 0 dX6_performDrawn_21 rfl ?_
      refine z_iconst C 3 dX6_performDrawn_23 (by decide) ?_
      refine z_icmp_ne C 35 dX6_performDrawn_24 (by decide) (fun c9 => ?_) (fun c9 => ?_)
      · replace hf := ite_f c9 hf
        refine z_iload C 0 dX6_performDrawn_35 rfl ?_
        refine z_iconst C 2 dX6_performDrawn_37 (by decide) ?_
        refine z_icmp_ne C 48 dX6_performDrawn_38 (by decide) (fun c10 => ?_) (fun c10 => ?_)
        · replace hf := ite_f c10 hf
          refine z_aload_n C 1 0 dX6_performDrawn_48 rfl rfl ?_
          replace hf := bd_out hf
          obtain ⟨p11, e12, hf⟩ := hf
          refine z_cV0 C [] (tX6_goDrawn l G hL p7.2  _ e12) lk_X6_goDrawn ok_X6 (lay_c78 hL) q_ml_X6_144 rfl ⟨Nat.le_of_ble_eq_true rfl, Nat.le_of_ble_eq_true rfl⟩ rfl (Nat.le_of_ble_eq_true rfl) ⟨Nat.le_refl _, Nat.le_refl _⟩ dX6_performDrawn_49 ?_
          refine z_iinc C 4 (y5 + 1) [(4, .int (y5 + 1)), (5, .int p7.1), (0, .ref (G.1 + 78)), (1, .ref (G.1 + a1)), (3, .int y4)] dX6_performDrawn_52 rfl rfl (by decide) rfl rfl ?_
          refine z_goto C 8 dX6_performDrawn_55 (by decide) ?_
          refine z_lv (lv2 := [(0, .ref (G.1 + 78)), (1, .ref (G.1 + a1)), (3, .int y4), (4, .int (y5 + 1))]) [2, 3, 4, 0] rfl ?_
          exact ih p11 y4 (y5 + 1)  hf
        · replace hf := ite_t c10 hf
          refine z_aload_n C 1 0 dX6_performDrawn_41 rfl rfl ?_
          replace hf := bd_out hf
          obtain ⟨p13, e14, hf⟩ := hf
          refine z_cV0 C [] (tX6_turnDrawn l G hL p7.2  _ e14) lk_X6_turnDrawn ok_X6 (lay_c78 hL) q_ml_X6_141 rfl ⟨Nat.le_of_ble_eq_true rfl, Nat.le_of_ble_eq_true rfl⟩ rfl (Nat.le_of_ble_eq_true rfl) ⟨Nat.le_refl _, Nat.le_refl _⟩ dX6_performDrawn_42 ?_
          refine z_goto C 52 dX6_performDrawn_45 (by decide) ?_
          refine z_iinc C 4 (y5 + 1) [(4, .int (y5 + 1)), (5, .int p7.1), (0, .ref (G.1 + 78)), (1, .ref (G.1 + a1)), (3, .int y4)] dX6_performDrawn_52 rfl rfl (by decide) rfl rfl ?_
          refine z_goto C 8 dX6_performDrawn_55 (by decide) ?_
          refine z_lv (lv2 := [(0, .ref (G.1 + 78)), (1, .ref (G.1 + a1)), (3, .int y4), (4, .int (y5 + 1))]) [2, 3, 4, 0] rfl ?_
          exact ih p13 y4 (y5 + 1)  hf
      · replace hf := ite_t c9 hf
        refine z_aload_n C 1 0 dX6_performDrawn_27 rfl rfl ?_
        refine z_aload_n C 2 1 dX6_performDrawn_28 rfl rfl ?_
        replace hf := bd_out hf
        obtain ⟨p15, e16, hf⟩ := hf
        refine z_cV0 C [] (tX6_countAll l G hL p7.2 a1 h1 _ e16) lk_X6_countAll ok_X6 (lay_c78 hL) q_ml_X6_62 rfl ⟨Nat.le_of_ble_eq_true rfl, Nat.le_of_ble_eq_true rfl⟩ rfl (Nat.le_of_ble_eq_true rfl) ⟨Nat.le_refl _, Nat.le_refl _⟩ dX6_performDrawn_29 ?_
        refine z_goto C 52 dX6_performDrawn_32 (by decide) ?_
        refine z_iinc C 4 (y5 + 1) [(4, .int (y5 + 1)), (5, .int p7.1), (0, .ref (G.1 + 78)), (1, .ref (G.1 + a1)), (3, .int y4)] dX6_performDrawn_52 rfl rfl (by decide) rfl rfl ?_
        refine z_goto C 8 dX6_performDrawn_55 (by decide) ?_
        refine z_lv (lv2 := [(0, .ref (G.1 + 78)), (1, .ref (G.1 + a1)), (3, .int y4), (4, .int (y5 + 1))]) [2, 3, 4, 0] rfl ?_
        exact ih p15 y4 (y5 + 1)  hf
set_option maxHeartbeats 4000000 in
set_option maxRecDepth 100000 in
theorem tX6_performDrawn (l : Launch) (G : GG) {K : SK} (hL : Lay K) (M : MM) (a1 : Nat) (h1 : Lw K a1) (x2 : Int32) (x3 : Int32) (pp : MM) (hf : fX6_performDrawn M a1 x2 x3 = some pp) : Ct l yX6_performDrawn cX6_performDrawn 6 none 6 0 0 G K M [.ref (G.1 + 78), .ref (G.1 + a1), .int x2, .int x3] none K pp := by
  refine z_enter (lv := [(0, .ref (G.1 + 78)), (1, .ref (G.1 + a1)), (2, .int x2), (3, .int x3)]) (by decide +kernel) (Nat.le_of_ble_eq_true rfl) rfl ?_
  intro p e s m args below meth c C hnm hs0
  replace C : CX p s m args meth c cX6_performDrawn 6 none RX6 G := C
  unfold fX6_performDrawn at hf
  refine z_aload_n C 0 0 dX6_performDrawn_0 rfl rfl ?_
  refine z_iload_n C 2 2 dX6_performDrawn_1 rfl rfl ?_
  refine z_putI C ok_X6 (lay_c78 hL) 4 (by decide) rfl rfl rfl rfl q_fl_X6_135 dX6_performDrawn_2 ?_
  refine z_M (fun M1 e2 => ?_)
  replace hf := bnd_out e2 hf
  refine z_iconst C 0 dX6_performDrawn_5 (by decide) ?_
  refine z_istore C [(4, .int 0), (0, .ref (G.1 + 78)), (1, .ref (G.1 + a1)), (2, .int x2), (3, .int x3)] dX6_performDrawn_6 (by decide) rfl rfl ?_
  refine z_lv (lv2 := [(0, .ref (G.1 + 78)), (1, .ref (G.1 + a1)), (3, .int x3), (4, .int 0)]) [1, 2, 4, 0] rfl ?_
  exact wX6_performDrawn_l8 C hs0 hL a1 h1 pp FU M1 x3 0 hf
set_option maxHeartbeats 4000000 in
set_option maxRecDepth 100000 in
theorem tX6_tellShine (l : Launch) (G : GG) {K : SK} (hL : Lay K) (M : MM) (a1 : Nat) (h1 : Lw K a1) (x2 : Int32) (x3 : Int32) (pp : (Int32 × MM)) (hf : fX6_tellShine M a1 x2 x3 = some pp) : Ct l yX6_tellShine cX6_tellShine 4 (some .int) 3 0 0 G K M [.ref (G.1 + 78), .ref (G.1 + a1), .int x2, .int x3] (some (.int pp.1)) K pp.2 := by
  refine z_enter (lv := [(0, .ref (G.1 + 78)), (1, .ref (G.1 + a1)), (2, .int x2), (3, .int x3)]) (by decide +kernel) (Nat.le_of_ble_eq_true rfl) rfl ?_
  intro p e s m args below meth c C hnm hs0
  replace C : CX p s m args meth c cX6_tellShine 4 (some .int) RX6 G := C
  unfold fX6_tellShine at hf
  refine z_iload_n C 2 2 dX6_tellShine_0 rfl rfl ?_
  refine z_iconst C 3 dX6_tellShine_1 (by decide) ?_
  refine z_icmp_ne C 18 dX6_tellShine_2 (by decide) (fun c1 => ?_) (fun c1 => ?_)
  · replace hf := ite_f c1 hf
    refine z_iload_n C 2 2 dX6_tellShine_18 rfl rfl ?_
    refine z_iconst C 4 dX6_tellShine_19 (by decide) ?_
    refine z_icmp_ne C 30 dX6_tellShine_20 (by decide) (fun c2 => ?_) (fun c2 => ?_)
    · replace hf := ite_f c2 hf
      refine z_iload_n C 2 2 dX6_tellShine_30 rfl rfl ?_
      refine z_iconst C 5 dX6_tellShine_31 (by decide) ?_
      refine z_icmp_ne C 52 dX6_tellShine_32 (by decide) (fun c3 => ?_) (fun c3 => ?_)
      · replace hf := ite_f c3 hf
        refine z_aload_n C 0 0 dX6_tellShine_52 rfl rfl ?_
        refine z_getR C ok_X6 (lay_c78 hL) 0 (60) (by decide) rfl (lay_r78_0 hL) q_fl_X6_9 dX6_tellShine_53 ?_
        refine z_aload_n C 1 1 dX6_tellShine_56 rfl rfl ?_
        refine z_getI C ok_X4 (Lw_o h1) 0 (by decide) rfl q_fl_X6_106 dX6_tellShine_57 ?_
        replace hf := bd_out hf
        obtain ⟨p4, e5, hf⟩ := hf
        refine z_cV1 C [] (tX0_spread l G hL M (gI M a1 0) _ e5) lk_X0_spread ok_X0 (lay_c60 hL) q_ml_X6_111 rfl ⟨Nat.le_of_ble_eq_true rfl, Nat.le_of_ble_eq_true rfl⟩ rfl (Nat.le_of_ble_eq_true rfl) ⟨Nat.le_refl _, Nat.le_refl _⟩ dX6_tellShine_60 ?_
        refine z_pop C rfl dX6_tellShine_63 ?_
        refine z_aload_n C 0 0 dX6_tellShine_64 rfl rfl ?_
        refine z_getR C ok_X6 (lay_c78 hL) 0 (60) (by decide) rfl (lay_r78_0 hL) q_fl_X6_9 dX6_tellShine_65 ?_
        refine z_iload_n C 3 3 dX6_tellShine_68 rfl rfl ?_
        refine z_aload_n C 1 1 dX6_tellShine_69 rfl rfl ?_
        replace hf := bd_out hf
        obtain ⟨p6, e7, hf⟩ := hf
        refine z_cV1 C [] (tX0_countIn l G hL p4.2 x3 a1 h1 _ e7) lk_X0_countIn ok_X0 (lay_c60 hL) q_ml_X6_118 rfl ⟨Nat.le_of_ble_eq_true rfl, Nat.le_of_ble_eq_true rfl⟩ rfl (Nat.le_of_ble_eq_true rfl) ⟨Nat.le_refl _, Nat.le_refl _⟩ dX6_tellShine_70 ?_
        cases hf
        exact z_iret C rfl dX6_tellShine_73
      · replace hf := ite_t c3 hf
        refine z_aload_n C 0 0 dX6_tellShine_35 rfl rfl ?_
        refine z_getR C ok_X6 (lay_c78 hL) 0 (60) (by decide) rfl (lay_r78_0 hL) q_fl_X6_9 dX6_tellShine_36 ?_
        refine z_iload_n C 3 3 dX6_tellShine_39 rfl rfl ?_
        refine z_cV1 C [] (tX0_isStirred l G hL M x3) lk_X0_isStirred ok_X0 (lay_c60 hL) q_ml_X6_84 rfl ⟨Nat.le_of_ble_eq_true rfl, Nat.le_of_ble_eq_true rfl⟩ rfl (Nat.le_of_ble_eq_true rfl) ⟨Nat.le_refl _, Nat.le_refl _⟩ dX6_tellShine_40 ?_
        refine z_if_eq C 50 dX6_tellShine_43 (by decide) (fun c8 => ?_) (fun c8 => ?_)
        · replace hf := ite_t c8 hf
          refine z_iconst C 0 dX6_tellShine_50 (by decide) ?_
          cases hf
          exact z_iret C rfl dX6_tellShine_51
        · replace hf := ite_f c8 hf
          refine z_iconst C 1 dX6_tellShine_46 (by decide) ?_
          refine z_goto C 51 dX6_tellShine_47 (by decide) ?_
          cases hf
          exact z_iret C rfl dX6_tellShine_51
    · replace hf := ite_t c2 hf
      refine z_aload_n C 0 0 dX6_tellShine_23 rfl rfl ?_
      refine z_getR C ok_X6 (lay_c78 hL) 3 (80) (by decide) rfl (lay_r78_3 hL) q_fl_X6_19 dX6_tellShine_24 ?_
      refine z_iload_n C 3 3 dX6_tellShine_27 rfl rfl ?_
      replace hf := gd_out hf
      obtain ⟨g9, hf⟩ := hf
      refine z_iald C (lay_c80 hL) (inb_in g9) dX6_tellShine_28 ?_
      cases hf
      exact z_iret C rfl dX6_tellShine_29
  · replace hf := ite_t c1 hf
    refine z_aload_n C 0 0 dX6_tellShine_5 rfl rfl ?_
    refine z_getR C ok_X6 (lay_c78 hL) 0 (60) (by decide) rfl (lay_r78_0 hL) q_fl_X6_9 dX6_tellShine_6 ?_
    refine z_getR C ok_X0 (lay_c60 hL) 0 (61) (by decide) rfl (lay_r60_0 hL) q_fl_X6_70 dX6_tellShine_9 ?_
    refine z_getR C ok_X5 (lay_c61 hL) 8 (66) (by decide) rfl (lay_r61_8 hL) q_fl_X6_156 dX6_tellShine_12 ?_
    refine z_iload_n C 3 3 dX6_tellShine_15 rfl rfl ?_
    replace hf := gd_out hf
    obtain ⟨g10, hf⟩ := hf
    refine z_iald C (lay_c66 hL) (inb_in g10) dX6_tellShine_16 ?_
    cases hf
    exact z_iret C rfl dX6_tellShine_17
set_option maxHeartbeats 4000000 in
set_option maxRecDepth 100000 in
theorem tX6_tell (l : Launch) (G : GG) {K : SK} (hL : Lay K) (M : MM) (a1 : Nat) (h1 : Lw K a1) (x2 : Int32) (pp : (Int32 × MM)) (hf : fX6_tell M a1 x2 = some pp) : Ct l yX6_tell cX6_tell 5 (some .int) 4 0 0 G K M [.ref (G.1 + 78), .ref (G.1 + a1), .int x2] (some (.int pp.1)) K pp.2 := by
  refine z_enter (lv := [(0, .ref (G.1 + 78)), (1, .ref (G.1 + a1)), (2, .int x2)]) (by decide +kernel) (Nat.le_of_ble_eq_true rfl) rfl ?_
  intro p e s m args below meth c C hnm hs0
  replace C : CX p s m args meth c cX6_tell 5 (some .int) RX6 G := C
  unfold fX6_tell at hf
  refine z_iload_n C 2 2 dX6_tell_0 rfl rfl ?_
  refine z_if_ne C 9 dX6_tell_1 (by decide) (fun c1 => ?_) (fun c1 => ?_)
  · replace hf := ite_f c1 hf
    refine z_iload_n C 2 2 dX6_tell_9 rfl rfl ?_
    refine z_iconst C 1 dX6_tell_10 (by decide) ?_
    refine z_icmp_ne C 23 dX6_tell_11 (by decide) (fun c2 => ?_) (fun c2 => ?_)
    · replace hf := ite_f c2 hf
      refine z_iload_n C 2 2 dX6_tell_23 rfl rfl ?_
      refine z_bipush C 10 dX6_tell_24 (by decide) ?_
      refine z_icmp_lt C 35 dX6_tell_26 (by decide) (fun c3 => ?_) (fun c3 => ?_)
      · replace hf := ite_t c3 hf
        refine z_bipush C (-2) dX6_tell_35 (by decide) ?_
        cases hf
        exact z_iret C rfl dX6_tell_37
      · replace hf := ite_f c3 hf
        refine z_iload_n C 2 2 dX6_tell_29 rfl rfl ?_
        refine z_bipush C 70 dX6_tell_30 (by decide) ?_
        refine z_icmp_lt C 38 dX6_tell_32 (by decide) (fun c4 => ?_) (fun c4 => ?_)
        · replace hf := ite_t c4 hf
          refine z_iload_n C 2 2 dX6_tell_38 rfl rfl ?_
          refine z_bipush C 10 dX6_tell_39 (by decide) ?_
          refine z_idiv C (by decide) dX6_tell_41 ?_
          refine z_topi (fun v5 e6 => ?_)
          replace hf := bnd_out e6 hf
          refine z_istore_n C [(3, .int v5), (0, .ref (G.1 + 78)), (1, .ref (G.1 + a1)), (2, .int x2)] dX6_tell_42 rfl (by decide) rfl rfl ?_
          refine z_iload_n C 3 2 dX6_tell_43 rfl rfl ?_
          refine z_bipush C 10 dX6_tell_44 (by decide) ?_
          refine z_irem C (by decide) dX6_tell_46 ?_
          refine z_topi (fun v7 e8 => ?_)
          replace hf := bnd_out e8 hf
          refine z_istore C [(4, .int v7), (3, .int v5), (0, .ref (G.1 + 78)), (1, .ref (G.1 + a1)), (2, .int x2)] dX6_tell_47 (by decide) rfl rfl ?_
          refine z_iload_n C 1 3 dX6_tell_49 rfl rfl ?_
          refine z_iconst C 2 dX6_tell_50 (by decide) ?_
          refine z_icmp_gt C 101 dX6_tell_51 (by decide) (fun c9 => ?_) (fun c9 => ?_)
          · replace hf := ite_t c9 hf
            refine z_aload_n C 2 0 dX6_tell_101 rfl rfl ?_
            refine z_getR C ok_X6 (lay_c78 hL) 0 (60) (by decide) rfl (lay_r78_0 hL) q_fl_X6_9 dX6_tell_102 ?_
            refine z_getR C ok_X0 (lay_c60 hL) 0 (61) (by decide) rfl (lay_r60_0 hL) q_fl_X6_70 dX6_tell_105 ?_
            refine z_iload C 0 dX6_tell_108 rfl ?_
            refine z_cV1 C [] (tX5_hasShine l G hL M 61 (lay_Par61 hL) v7) lk_X5_hasShine ok_X5 (lay_c61 hL) q_ml_X6_74 rfl ⟨Nat.le_of_ble_eq_true rfl, Nat.le_of_ble_eq_true rfl⟩ rfl (Nat.le_of_ble_eq_true rfl) ⟨Nat.le_refl _, Nat.le_refl _⟩ dX6_tell_110 ?_
            refine z_if_eq C 127 dX6_tell_113 (by decide) (fun c10 => ?_) (fun c10 => ?_)
            · replace hf := ite_t c10 hf
              refine z_bipush C (-2) dX6_tell_127 (by decide) ?_
              cases hf
              exact z_iret C rfl dX6_tell_129
            · replace hf := ite_f c10 hf
              refine z_aload_n C 2 0 dX6_tell_116 rfl rfl ?_
              refine z_aload_n C 3 1 dX6_tell_117 rfl rfl ?_
              refine z_iload_n C 1 3 dX6_tell_118 rfl rfl ?_
              refine z_iload C 0 dX6_tell_119 rfl ?_
              replace hf := bd_out hf
              obtain ⟨p11, e12, hf⟩ := hf
              refine z_cV1 C [] (tX6_tellShine l G hL M a1 h1 v5 v7 _ e12) lk_X6_tellShine ok_X6 (lay_c78 hL) q_ml_X6_152 rfl ⟨Nat.le_of_ble_eq_true rfl, Nat.le_of_ble_eq_true rfl⟩ rfl (Nat.le_of_ble_eq_true rfl) ⟨Nat.le_refl _, Nat.le_refl _⟩ dX6_tell_121 ?_
              refine z_goto C 129 dX6_tell_124 (by decide) ?_
              cases hf
              exact z_iret C rfl dX6_tell_129
          · replace hf := ite_f c9 hf
            refine z_aload_n C 2 0 dX6_tell_54 rfl rfl ?_
            refine z_getR C ok_X6 (lay_c78 hL) 0 (60) (by decide) rfl (lay_r78_0 hL) q_fl_X6_9 dX6_tell_55 ?_
            refine z_getR C ok_X0 (lay_c60 hL) 0 (61) (by decide) rfl (lay_r60_0 hL) q_fl_X6_70 dX6_tell_58 ?_
            refine z_iload C 0 dX6_tell_61 rfl ?_
            refine z_cV1 C [] (tX5_hasPerson l G hL M 61 (lay_Par61 hL) v7) lk_X5_hasPerson ok_X5 (lay_c61 hL) q_ml_X6_91 rfl ⟨Nat.le_of_ble_eq_true rfl, Nat.le_of_ble_eq_true rfl⟩ rfl (Nat.le_of_ble_eq_true rfl) ⟨Nat.le_refl _, Nat.le_refl _⟩ dX6_tell_63 ?_
            refine z_if_ne C 72 dX6_tell_66 (by decide) (fun c13 => ?_) (fun c13 => ?_)
            · replace hf := ite_f c13 hf
              refine z_iload_n C 1 3 dX6_tell_72 rfl rfl ?_
              refine z_iconst C 1 dX6_tell_73 (by decide) ?_
              refine z_icmp_ne C 93 dX6_tell_74 (by decide) (fun c14 => ?_) (fun c14 => ?_)
              · replace hf := ite_f c14 hf
                refine z_aload_n C 2 0 dX6_tell_93 rfl rfl ?_
                refine z_getR C ok_X6 (lay_c78 hL) 2 (79) (by decide) rfl (lay_r78_2 hL) q_fl_X6_15 dX6_tell_94 ?_
                refine z_iload C 0 dX6_tell_97 rfl ?_
                replace hf := gd_out hf
                obtain ⟨g15, hf⟩ := hf
                refine z_iald C (lay_c79 hL) (inb_in g15) dX6_tell_99 ?_
                cases hf
                exact z_iret C rfl dX6_tell_100
              · replace hf := ite_t c14 hf
                refine z_aload_n C 2 0 dX6_tell_77 rfl rfl ?_
                refine z_getR C ok_X6 (lay_c78 hL) 0 (60) (by decide) rfl (lay_r78_0 hL) q_fl_X6_9 dX6_tell_78 ?_
                refine z_getR C ok_X0 (lay_c60 hL) 0 (61) (by decide) rfl (lay_r60_0 hL) q_fl_X6_70 dX6_tell_81 ?_
                refine z_getR C ok_X5 (lay_c61 hL) 4 (62) (by decide) rfl (lay_r61_4 hL) q_fl_X6_94 dX6_tell_84 ?_
                refine z_iload C 0 dX6_tell_87 rfl ?_
                replace hf := gd_out hf
                obtain ⟨g16, hf⟩ := hf
                refine z_iald C (lay_c62 hL) (inb_in g16) dX6_tell_89 ?_
                refine z_goto C 100 dX6_tell_90 (by decide) ?_
                cases hf
                exact z_iret C rfl dX6_tell_100
            · replace hf := ite_t c13 hf
              refine z_bipush C (-2) dX6_tell_69 (by decide) ?_
              cases hf
              exact z_iret C rfl dX6_tell_71
        · replace hf := ite_f c4 hf
          refine z_bipush C (-2) dX6_tell_35 (by decide) ?_
          cases hf
          exact z_iret C rfl dX6_tell_37
    · replace hf := ite_t c2 hf
      refine z_aload_n C 0 0 dX6_tell_14 rfl rfl ?_
      refine z_getR C ok_X6 (lay_c78 hL) 0 (60) (by decide) rfl (lay_r78_0 hL) q_fl_X6_9 dX6_tell_15 ?_
      refine z_aload_n C 1 1 dX6_tell_18 rfl rfl ?_
      replace hf := bd_out hf
      obtain ⟨p17, e18, hf⟩ := hf
      refine z_cV1 C [] (tX0_sumBy l G hL M a1 h1 _ e18) lk_X0_sumBy ok_X0 (lay_c60 hL) q_ml_X6_148 rfl ⟨Nat.le_of_ble_eq_true rfl, Nat.le_of_ble_eq_true rfl⟩ rfl (Nat.le_of_ble_eq_true rfl) ⟨Nat.le_refl _, Nat.le_refl _⟩ dX6_tell_19 ?_
      cases hf
      exact z_iret C rfl dX6_tell_22
  · replace hf := ite_t c1 hf
    refine z_aload_n C 0 0 dX6_tell_4 rfl rfl ?_
    refine z_getI C ok_X6 (lay_c78 hL) 1 (by decide) rfl q_fl_X6_28 dX6_tell_5 ?_
    cases hf
    exact z_iret C rfl dX6_tell_8
end
