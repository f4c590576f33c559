theorem dX0_drawStepsFrom_0 : decode cX0_drawStepsFrom 0 = .ok (.iconst 0, 1) := by decide +kernel
theorem dX0_drawStepsFrom_1 : decode cX0_drawStepsFrom 1 = .ok (.istore_n 3, 1) := by decide +kernel
theorem dX0_drawStepsFrom_2 : decode cX0_drawStepsFrom 2 = .ok (.iload_n 3, 1) := by decide +kernel
theorem dX0_drawStepsFrom_3 : decode cX0_drawStepsFrom 3 = .ok (.bipush 8, 2) := by decide +kernel
theorem dX0_drawStepsFrom_5 : decode cX0_drawStepsFrom 5 = .ok (.if_icmp .ge 99, 3) := by decide +kernel
theorem dX0_drawStepsFrom_8 : decode cX0_drawStepsFrom 8 = .ok (.iload_n 1, 1) := by decide +kernel
theorem dX0_drawStepsFrom_9 : decode cX0_drawStepsFrom 9 = .ok (.getstatic 74, 3) := by decide +kernel
theorem dX0_drawStepsFrom_12 : decode cX0_drawStepsFrom 12 = .ok (.iload_n 3, 1) := by decide +kernel
theorem dX0_drawStepsFrom_13 : decode cX0_drawStepsFrom 13 = .ok (.iaload, 1) := by decide +kernel
theorem dX0_drawStepsFrom_14 : decode cX0_drawStepsFrom 14 = .ok (.iadd, 1) := by decide +kernel
theorem dX0_drawStepsFrom_15 : decode cX0_drawStepsFrom 15 = .ok (.istore 4, 2) := by decide +kernel
theorem dX0_drawStepsFrom_17 : decode cX0_drawStepsFrom 17 = .ok (.iload_n 2, 1) := by decide +kernel
theorem dX0_drawStepsFrom_18 : decode cX0_drawStepsFrom 18 = .ok (.getstatic 77, 3) := by decide +kernel
theorem dX0_drawStepsFrom_21 : decode cX0_drawStepsFrom 21 = .ok (.iload_n 3, 1) := by decide +kernel
theorem dX0_drawStepsFrom_22 : decode cX0_drawStepsFrom 22 = .ok (.iaload, 1) := by decide +kernel
theorem dX0_drawStepsFrom_23 : decode cX0_drawStepsFrom 23 = .ok (.iadd, 1) := by decide +kernel
theorem dX0_drawStepsFrom_24 : decode cX0_drawStepsFrom 24 = .ok (.istore 5, 2) := by decide +kernel
theorem dX0_drawStepsFrom_26 : decode cX0_drawStepsFrom 26 = .ok (.iload 4, 2) := by decide +kernel
theorem dX0_drawStepsFrom_28 : decode cX0_drawStepsFrom 28 = .ok (.ifCond .lt 30, 3) := by decide +kernel
theorem dX0_drawStepsFrom_31 : decode cX0_drawStepsFrom 31 = .ok (.iload 4, 2) := by decide +kernel
theorem dX0_drawStepsFrom_33 : decode cX0_drawStepsFrom 33 = .ok (.aload_n 0, 1) := by decide +kernel
theorem dX0_drawStepsFrom_34 : decode cX0_drawStepsFrom 34 = .ok (.getfield 48, 3) := by decide +kernel
theorem dX0_drawStepsFrom_37 : decode cX0_drawStepsFrom 37 = .ok (.if_icmp .ge 21, 3) := by decide +kernel
theorem dX0_drawStepsFrom_40 : decode cX0_drawStepsFrom 40 = .ok (.iload 5, 2) := by decide +kernel
theorem dX0_drawStepsFrom_42 : decode cX0_drawStepsFrom 42 = .ok (.ifCond .lt 16, 3) := by decide +kernel
theorem dX0_drawStepsFrom_45 : decode cX0_drawStepsFrom 45 = .ok (.iload 5, 2) := by decide +kernel
theorem dX0_drawStepsFrom_47 : decode cX0_drawStepsFrom 47 = .ok (.aload_n 0, 1) := by decide +kernel
theorem dX0_drawStepsFrom_48 : decode cX0_drawStepsFrom 48 = .ok (.getfield 53, 3) := by decide +kernel
theorem dX0_drawStepsFrom_51 : decode cX0_drawStepsFrom 51 = .ok (.if_icmp .ge 7, 3) := by decide +kernel
theorem dX0_drawStepsFrom_54 : decode cX0_drawStepsFrom 54 = .ok (.iconst 1, 1) := by decide +kernel
theorem dX0_drawStepsFrom_55 : decode cX0_drawStepsFrom 55 = .ok (.goto 4, 3) := by decide +kernel
theorem dX0_drawStepsFrom_58 : decode cX0_drawStepsFrom 58 = .ok (.iconst 0, 1) := by decide +kernel
theorem dX0_drawStepsFrom_59 : decode cX0_drawStepsFrom 59 = .ok (.istore 6, 2) := by decide +kernel
theorem dX0_drawStepsFrom_61 : decode cX0_drawStepsFrom 61 = .ok (.aload_n 0, 1) := by decide +kernel
theorem dX0_drawStepsFrom_62 : decode cX0_drawStepsFrom 62 = .ok (.getfield 28, 3) := by decide +kernel
theorem dX0_drawStepsFrom_65 : decode cX0_drawStepsFrom 65 = .ok (.bipush 64, 2) := by decide +kernel
theorem dX0_drawStepsFrom_67 : decode cX0_drawStepsFrom 67 = .ok (.iload_n 3, 1) := by decide +kernel
theorem dX0_drawStepsFrom_68 : decode cX0_drawStepsFrom 68 = .ok (.imul, 1) := by decide +kernel
theorem dX0_drawStepsFrom_69 : decode cX0_drawStepsFrom 69 = .ok (.aload_n 0, 1) := by decide +kernel
theorem dX0_drawStepsFrom_70 : decode cX0_drawStepsFrom 70 = .ok (.getfield 48, 3) := by decide +kernel
theorem dX0_drawStepsFrom_73 : decode cX0_drawStepsFrom 73 = .ok (.iload_n 2, 1) := by decide +kernel
theorem dX0_drawStepsFrom_74 : decode cX0_drawStepsFrom 74 = .ok (.imul, 1) := by decide +kernel
theorem dX0_drawStepsFrom_75 : decode cX0_drawStepsFrom 75 = .ok (.iadd, 1) := by decide +kernel
theorem dX0_drawStepsFrom_76 : decode cX0_drawStepsFrom 76 = .ok (.iload_n 1, 1) := by decide +kernel
theorem dX0_drawStepsFrom_77 : decode cX0_drawStepsFrom 77 = .ok (.iadd, 1) := by decide +kernel
theorem dX0_drawStepsFrom_78 : decode cX0_drawStepsFrom 78 = .ok (.iload 6, 2) := by decide +kernel
theorem dX0_drawStepsFrom_80 : decode cX0_drawStepsFrom 80 = .ok (.ifCond .eq 16, 3) := by decide +kernel
theorem dX0_drawStepsFrom_83 : decode cX0_drawStepsFrom 83 = .ok (.aload_n 0, 1) := by decide +kernel
theorem dX0_drawStepsFrom_84 : decode cX0_drawStepsFrom 84 = .ok (.getfield 48, 3) := by decide +kernel
theorem dX0_drawStepsFrom_87 : decode cX0_drawStepsFrom 87 = .ok (.iload 5, 2) := by decide +kernel
theorem dX0_drawStepsFrom_89 : decode cX0_drawStepsFrom 89 = .ok (.imul, 1) := by decide +kernel
theorem dX0_drawStepsFrom_90 : decode cX0_drawStepsFrom 90 = .ok (.iload 4, 2) := by decide +kernel
theorem dX0_drawStepsFrom_92 : decode cX0_drawStepsFrom 92 = .ok (.iadd, 1) := by decide +kernel
theorem dX0_drawStepsFrom_93 : decode cX0_drawStepsFrom 93 = .ok (.goto 4, 3) := by decide +kernel
theorem dX0_drawStepsFrom_96 : decode cX0_drawStepsFrom 96 = .ok (.iconst (-1), 1) := by decide +kernel
theorem dX0_drawStepsFrom_97 : decode cX0_drawStepsFrom 97 = .ok (.iastore, 1) := by decide +kernel
theorem dX0_drawStepsFrom_98 : decode cX0_drawStepsFrom 98 = .ok (.iinc 3 1, 3) := by decide +kernel
theorem dX0_drawStepsFrom_101 : decode cX0_drawStepsFrom 101 = .ok (.goto (-99), 3) := by decide +kernel
theorem dX0_drawStepsFrom_104 : decode cX0_drawStepsFrom 104 = .ok (.return_, 1) := by decide +kernel
theorem dX0_drawSteps_0 : decode cX0_drawSteps 0 = .ok (.aload_n 0, 1) := by decide +kernel
theorem dX0_drawSteps_1 : decode cX0_drawSteps 1 = .ok (.aload_n 0, 1) := by decide +kernel
theorem dX0_drawSteps_2 : decode cX0_drawSteps 2 = .ok (.getfield 12, 3) := by decide +kernel
theorem dX0_drawSteps_5 : decode cX0_drawSteps 5 = .ok (.getfield 52, 3) := by decide +kernel
theorem dX0_drawSteps_8 : decode cX0_drawSteps 8 = .ok (.putfield 48, 3) := by decide +kernel
theorem dX0_drawSteps_11 : decode cX0_drawSteps 11 = .ok (.aload_n 0, 1) := by decide +kernel
theorem dX0_drawSteps_12 : decode cX0_drawSteps 12 = .ok (.aload_n 0, 1) := by decide +kernel
theorem dX0_drawSteps_13 : decode cX0_drawSteps 13 = .ok (.getfield 12, 3) := by decide +kernel
theorem dX0_drawSteps_16 : decode cX0_drawSteps 16 = .ok (.getfield 56, 3) := by decide +kernel
theorem dX0_drawSteps_19 : decode cX0_drawSteps 19 = .ok (.putfield 53, 3) := by decide +kernel
theorem dX0_drawSteps_22 : decode cX0_drawSteps 22 = .ok (.iconst 0, 1) := by decide +kernel
theorem dX0_drawSteps_23 : decode cX0_drawSteps 23 = .ok (.istore_n 1, 1) := by decide +kernel
theorem dX0_drawSteps_24 : decode cX0_drawSteps 24 = .ok (.iload_n 1, 1) := by decide +kernel
theorem dX0_drawSteps_25 : decode cX0_drawSteps 25 = .ok (.aload_n 0, 1) := by decide +kernel
theorem dX0_drawSteps_26 : decode cX0_drawSteps 26 = .ok (.getfield 53, 3) := by decide +kernel
theorem dX0_drawSteps_29 : decode cX0_drawSteps 29 = .ok (.if_icmp .ge 31, 3) := by decide +kernel
theorem dX0_drawSteps_32 : decode cX0_drawSteps 32 = .ok (.iconst 0, 1) := by decide +kernel
theorem dX0_drawSteps_33 : decode cX0_drawSteps 33 = .ok (.istore_n 2, 1) := by decide +kernel
theorem dX0_drawSteps_34 : decode cX0_drawSteps 34 = .ok (.iload_n 2, 1) := by decide +kernel
theorem dX0_drawSteps_35 : decode cX0_drawSteps 35 = .ok (.aload_n 0, 1) := by decide +kernel
theorem dX0_drawSteps_36 : decode cX0_drawSteps 36 = .ok (.getfield 48, 3) := by decide +kernel
theorem dX0_drawSteps_39 : decode cX0_drawSteps 39 = .ok (.if_icmp .ge 15, 3) := by decide +kernel
theorem dX0_drawSteps_42 : decode cX0_drawSteps 42 = .ok (.aload_n 0, 1) := by decide +kernel
theorem dX0_drawSteps_43 : decode cX0_drawSteps 43 = .ok (.iload_n 2, 1) := by decide +kernel
theorem dX0_drawSteps_44 : decode cX0_drawSteps 44 = .ok (.iload_n 1, 1) := by decide +kernel
theorem dX0_drawSteps_45 : decode cX0_drawSteps 45 = .ok (.invokevirtual 70, 3) := by decide +kernel
theorem dX0_drawSteps_48 : decode cX0_drawSteps 48 = .ok (.iinc 2 1, 3) := by decide +kernel
theorem dX0_drawSteps_51 : decode cX0_drawSteps 51 = .ok (.goto (-17), 3) := by decide +kernel
theorem dX0_drawSteps_54 : decode cX0_drawSteps 54 = .ok (.iinc 1 1, 3) := by decide +kernel
theorem dX0_drawSteps_57 : decode cX0_drawSteps 57 = .ok (.goto (-33), 3) := by decide +kernel
theorem dX0_drawSteps_60 : decode cX0_drawSteps 60 = .ok (.return_, 1) := by decide +kernel
theorem dX0_isStirred_0 : decode cX0_isStirred 0 = .ok (.aload_n 0, 1) := by decide +kernel
theorem dX0_isStirred_1 : decode cX0_isStirred 1 = .ok (.getfield 60, 3) := by decide +kernel
theorem dX0_isStirred_4 : decode cX0_isStirred 4 = .ok (.iload_n 1, 1) := by decide +kernel
theorem dX0_isStirred_5 : decode cX0_isStirred 5 = .ok (.iushr, 1) := by decide +kernel
theorem dX0_isStirred_6 : decode cX0_isStirred 6 = .ok (.iconst 1, 1) := by decide +kernel
theorem dX0_isStirred_7 : decode cX0_isStirred 7 = .ok (.iand, 1) := by decide +kernel
theorem dX0_isStirred_8 : decode cX0_isStirred 8 = .ok (.ifCond .eq 7, 3) := by decide +kernel
theorem dX0_isStirred_11 : decode cX0_isStirred 11 = .ok (.iconst 1, 1) := by decide +kernel
theorem dX0_isStirred_12 : decode cX0_isStirred 12 = .ok (.goto 4, 3) := by decide +kernel
theorem dX0_isStirred_15 : decode cX0_isStirred 15 = .ok (.iconst 0, 1) := by decide +kernel
theorem dX0_isStirred_16 : decode cX0_isStirred 16 = .ok (.ireturn, 1) := by decide +kernel
theorem dX0_stepFrom_0 : decode cX0_stepFrom 0 = .ok (.aload_n 0, 1) := by decide +kernel
theorem dX0_stepFrom_1 : decode cX0_stepFrom 1 = .ok (.getfield 28, 3) := by decide +kernel
theorem dX0_stepFrom_4 : decode cX0_stepFrom 4 = .ok (.bipush 64, 2) := by decide +kernel
theorem dX0_stepFrom_6 : decode cX0_stepFrom 6 = .ok (.iload_n 2, 1) := by decide +kernel
theorem dX0_stepFrom_7 : decode cX0_stepFrom 7 = .ok (.imul, 1) := by decide +kernel
theorem dX0_stepFrom_8 : decode cX0_stepFrom 8 = .ok (.iload_n 1, 1) := by decide +kernel
theorem dX0_stepFrom_9 : decode cX0_stepFrom 9 = .ok (.iadd, 1) := by decide +kernel
theorem dX0_stepFrom_10 : decode cX0_stepFrom 10 = .ok (.iaload, 1) := by decide +kernel
theorem dX0_stepFrom_11 : decode cX0_stepFrom 11 = .ok (.ireturn, 1) := by decide +kernel
theorem dX0_meets_0 : decode cX0_meets 0 = .ok (.aload_n 0, 1) := by decide +kernel
theorem dX0_meets_1 : decode cX0_meets 1 = .ok (.aload_n 0, 1) := by decide +kernel
theorem dX0_meets_2 : decode cX0_meets 2 = .ok (.getfield 12, 3) := by decide +kernel
theorem dX0_meets_5 : decode cX0_meets 5 = .ok (.getfield 95, 3) := by decide +kernel
theorem dX0_meets_8 : decode cX0_meets 8 = .ok (.iload_n 1, 1) := by decide +kernel
theorem dX0_meets_9 : decode cX0_meets 9 = .ok (.iaload, 1) := by decide +kernel
theorem dX0_meets_10 : decode cX0_meets 10 = .ok (.iload_n 2, 1) := by decide +kernel
theorem dX0_meets_11 : decode cX0_meets 11 = .ok (.invokevirtual 98, 3) := by decide +kernel
theorem dX0_meets_14 : decode cX0_meets 14 = .ok (.istore_n 3, 1) := by decide +kernel
theorem dX0_meets_15 : decode cX0_meets 15 = .ok (.iconst 0, 1) := by decide +kernel
theorem dX0_meets_16 : decode cX0_meets 16 = .ok (.istore 4, 2) := by decide +kernel
theorem dX0_meets_18 : decode cX0_meets 18 = .ok (.iload 4, 2) := by decide +kernel
theorem dX0_meets_20 : decode cX0_meets 20 = .ok (.bipush 8, 2) := by decide +kernel
theorem dX0_meets_22 : decode cX0_meets 22 = .ok (.if_icmp .ge 55, 3) := by decide +kernel
theorem dX0_meets_25 : decode cX0_meets 25 = .ok (.iload_n 3, 1) := by decide +kernel
theorem dX0_meets_26 : decode cX0_meets 26 = .ok (.iconst (-1), 1) := by decide +kernel
theorem dX0_meets_27 : decode cX0_meets 27 = .ok (.if_icmp .eq 50, 3) := by decide +kernel
theorem dX0_meets_30 : decode cX0_meets 30 = .ok (.aload_n 0, 1) := by decide +kernel
theorem dX0_meets_31 : decode cX0_meets 31 = .ok (.getfield 37, 3) := by decide +kernel
theorem dX0_meets_34 : decode cX0_meets 34 = .ok (.iload_n 1, 1) := by decide +kernel
theorem dX0_meets_35 : decode cX0_meets 35 = .ok (.dup2, 1) := by decide +kernel
theorem dX0_meets_36 : decode cX0_meets 36 = .ok (.laload, 1) := by decide +kernel
theorem dX0_meets_37 : decode cX0_meets 37 = .ok (.lconst 1, 1) := by decide +kernel
theorem dX0_meets_38 : decode cX0_meets 38 = .ok (.iload_n 3, 1) := by decide +kernel
theorem dX0_meets_39 : decode cX0_meets 39 = .ok (.lshl, 1) := by decide +kernel
theorem dX0_meets_40 : decode cX0_meets 40 = .ok (.lor, 1) := by decide +kernel
theorem dX0_meets_41 : decode cX0_meets 41 = .ok (.lastore, 1) := by decide +kernel
theorem dX0_meets_42 : decode cX0_meets 42 = .ok (.aload_n 0, 1) := by decide +kernel
theorem dX0_meets_43 : decode cX0_meets 43 = .ok (.getfield 12, 3) := by decide +kernel
theorem dX0_meets_46 : decode cX0_meets 46 = .ok (.getfield 80, 3) := by decide +kernel
theorem dX0_meets_49 : decode cX0_meets 49 = .ok (.iload_n 3, 1) := by decide +kernel
theorem dX0_meets_50 : decode cX0_meets 50 = .ok (.iaload, 1) := by decide +kernel
theorem dX0_meets_51 : decode cX0_meets 51 = .ok (.ifCond .eq 13, 3) := by decide +kernel
theorem dX0_meets_54 : decode cX0_meets 54 = .ok (.aload_n 0, 1) := by decide +kernel
theorem dX0_meets_55 : decode cX0_meets 55 = .ok (.getfield 12, 3) := by decide +kernel
theorem dX0_meets_58 : decode cX0_meets 58 = .ok (.getfield 80, 3) := by decide +kernel
theorem dX0_meets_61 : decode cX0_meets 61 = .ok (.iload_n 3, 1) := by decide +kernel
theorem dX0_meets_62 : decode cX0_meets 62 = .ok (.iaload, 1) := by decide +kernel
theorem dX0_meets_63 : decode cX0_meets 63 = .ok (.ireturn, 1) := by decide +kernel
theorem dX0_meets_64 : decode cX0_meets 64 = .ok (.aload_n 0, 1) := by decide +kernel
theorem dX0_meets_65 : decode cX0_meets 65 = .ok (.iload_n 3, 1) := by decide +kernel
theorem dX0_meets_66 : decode cX0_meets 66 = .ok (.iload_n 2, 1) := by decide +kernel
theorem dX0_meets_67 : decode cX0_meets 67 = .ok (.invokevirtual 98, 3) := by decide +kernel
theorem dX0_meets_70 : decode cX0_meets 70 = .ok (.istore_n 3, 1) := by decide +kernel
theorem dX0_meets_71 : decode cX0_meets 71 = .ok (.iinc 4 1, 3) := by decide +kernel
theorem dX0_meets_74 : decode cX0_meets 74 = .ok (.goto (-56), 3) := by decide +kernel
theorem dX0_meets_77 : decode cX0_meets 77 = .ok (.iconst 1, 1) := by decide +kernel
theorem dX0_meets_78 : decode cX0_meets 78 = .ok (.ireturn, 1) := by decide +kernel
theorem dX0_opens_0 : decode cX0_opens 0 = .ok (.aload_n 0, 1) := by decide +kernel
theorem dX0_opens_1 : decode cX0_opens 1 = .ok (.getfield 12, 3) := by decide +kernel
theorem dX0_opens_4 : decode cX0_opens 4 = .ok (.getfield 86, 3) := by decide +kernel
theorem dX0_opens_7 : decode cX0_opens 7 = .ok (.iload_n 1, 1) := by decide +kernel
theorem dX0_opens_8 : decode cX0_opens 8 = .ok (.iaload, 1) := by decide +kernel
theorem dX0_opens_9 : decode cX0_opens 9 = .ok (.istore_n 3, 1) := by decide +kernel
theorem dX0_opens_10 : decode cX0_opens 10 = .ok (.iload_n 2, 1) := by decide +kernel
theorem dX0_opens_11 : decode cX0_opens 11 = .ok (.aload_n 0, 1) := by decide +kernel
theorem dX0_opens_12 : decode cX0_opens 12 = .ok (.getfield 12, 3) := by decide +kernel
theorem dX0_opens_15 : decode cX0_opens 15 = .ok (.getfield 83, 3) := by decide +kernel
theorem dX0_opens_18 : decode cX0_opens 18 = .ok (.iload_n 1, 1) := by decide +kernel
theorem dX0_opens_19 : decode cX0_opens 19 = .ok (.iaload, 1) := by decide +kernel
theorem dX0_opens_20 : decode cX0_opens 20 = .ok (.isub, 1) := by decide +kernel
theorem dX0_opens_21 : decode cX0_opens 21 = .ok (.bipush 7, 2) := by decide +kernel
theorem dX0_opens_23 : decode cX0_opens 23 = .ok (.iand, 1) := by decide +kernel
theorem dX0_opens_24 : decode cX0_opens 24 = .ok (.istore 4, 2) := by decide +kernel
theorem dX0_opens_26 : decode cX0_opens 26 = .ok (.iload_n 3, 1) := by decide +kernel
theorem dX0_opens_27 : decode cX0_opens 27 = .ok (.ifCond .eq 8, 3) := by decide +kernel
theorem dX0_opens_30 : decode cX0_opens 30 = .ok (.iload 4, 2) := by decide +kernel
theorem dX0_opens_32 : decode cX0_opens 32 = .ok (.ifCond .ne 5, 3) := by decide +kernel
theorem dX0_opens_35 : decode cX0_opens 35 = .ok (.iconst 1, 1) := by decide +kernel
theorem dX0_opens_36 : decode cX0_opens 36 = .ok (.ireturn, 1) := by decide +kernel
theorem dX0_opens_37 : decode cX0_opens 37 = .ok (.iload_n 3, 1) := by decide +kernel
theorem dX0_opens_38 : decode cX0_opens 38 = .ok (.iconst 2, 1) := by decide +kernel
theorem dX0_opens_39 : decode cX0_opens 39 = .ok (.if_icmp .ne 22, 3) := by decide +kernel
theorem dX0_opens_42 : decode cX0_opens 42 = .ok (.iload 4, 2) := by decide +kernel
theorem dX0_opens_44 : decode cX0_opens 44 = .ok (.iconst 1, 1) := by decide +kernel
theorem dX0_opens_45 : decode cX0_opens 45 = .ok (.if_icmp .eq 10, 3) := by decide +kernel
theorem dX0_opens_48 : decode cX0_opens 48 = .ok (.iload 4, 2) := by decide +kernel
theorem dX0_opens_50 : decode cX0_opens 50 = .ok (.bipush 7, 2) := by decide +kernel
theorem dX0_opens_52 : decode cX0_opens 52 = .ok (.if_icmp .ne 7, 3) := by decide +kernel
theorem dX0_opens_55 : decode cX0_opens 55 = .ok (.iconst 1, 1) := by decide +kernel
theorem dX0_opens_56 : decode cX0_opens 56 = .ok (.goto 4, 3) := by decide +kernel
theorem dX0_opens_59 : decode cX0_opens 59 = .ok (.iconst 0, 1) := by decide +kernel
theorem dX0_opens_60 : decode cX0_opens 60 = .ok (.ireturn, 1) := by decide +kernel
theorem dX0_opens_61 : decode cX0_opens 61 = .ok (.iload_n 3, 1) := by decide +kernel
theorem dX0_opens_62 : decode cX0_opens 62 = .ok (.iconst 3, 1) := by decide +kernel
theorem dX0_opens_63 : decode cX0_opens 63 = .ok (.if_icmp .ne 13, 3) := by decide +kernel
theorem dX0_opens_66 : decode cX0_opens 66 = .ok (.iload 4, 2) := by decide +kernel
theorem dX0_opens_68 : decode cX0_opens 68 = .ok (.iconst 4, 1) := by decide +kernel
theorem dX0_opens_69 : decode cX0_opens 69 = .ok (.if_icmp .ne 7, 3) := by decide +kernel
theorem dX0_opens_72 : decode cX0_opens 72 = .ok (.iconst 1, 1) := by decide +kernel
theorem dX0_opens_73 : decode cX0_opens 73 = .ok (.goto 4, 3) := by decide +kernel
theorem dX0_opens_76 : decode cX0_opens 76 = .ok (.iconst 0, 1) := by decide +kernel
theorem dX0_opens_77 : decode cX0_opens 77 = .ok (.ireturn, 1) := by decide +kernel
theorem dX0_look_0 : decode cX0_look 0 = .ok (.aload_n 0, 1) := by decide +kernel
theorem dX0_look_1 : decode cX0_look 1 = .ok (.getfield 31, 3) := by decide +kernel
theorem dX0_look_4 : decode cX0_look 4 = .ok (.iload_n 1, 1) := by decide +kernel
theorem dX0_look_5 : decode cX0_look 5 = .ok (.iconst 0, 1) := by decide +kernel
theorem dX0_look_6 : decode cX0_look 6 = .ok (.iastore, 1) := by decide +kernel
theorem dX0_look_7 : decode cX0_look 7 = .ok (.aload_n 0, 1) := by decide +kernel
theorem dX0_look_8 : decode cX0_look 8 = .ok (.getfield 34, 3) := by decide +kernel
theorem dX0_look_11 : decode cX0_look 11 = .ok (.iload_n 1, 1) := by decide +kernel
theorem dX0_look_12 : decode cX0_look 12 = .ok (.iconst 0, 1) := by decide +kernel
theorem dX0_look_13 : decode cX0_look 13 = .ok (.iastore, 1) := by decide +kernel
theorem dX0_look_14 : decode cX0_look 14 = .ok (.aload_n 0, 1) := by decide +kernel
theorem dX0_look_15 : decode cX0_look 15 = .ok (.getfield 37, 3) := by decide +kernel
theorem dX0_look_18 : decode cX0_look 18 = .ok (.iload_n 1, 1) := by decide +kernel
theorem dX0_look_19 : decode cX0_look 19 = .ok (.lconst 0, 1) := by decide +kernel
theorem dX0_look_20 : decode cX0_look 20 = .ok (.lastore, 1) := by decide +kernel
theorem dX0_look_21 : decode cX0_look 21 = .ok (.aload_n 0, 1) := by decide +kernel
theorem dX0_look_22 : decode cX0_look 22 = .ok (.iload_n 1, 1) := by decide +kernel
theorem dX0_look_23 : decode cX0_look 23 = .ok (.invokevirtual 102, 3) := by decide +kernel
theorem dX0_look_26 : decode cX0_look 26 = .ok (.ifCond .eq 4, 3) := by decide +kernel
theorem dX0_look_29 : decode cX0_look 29 = .ok (.return_, 1) := by decide +kernel
theorem dX0_look_30 : decode cX0_look 30 = .ok (.iconst 0, 1) := by decide +kernel
theorem dX0_look_31 : decode cX0_look 31 = .ok (.istore_n 2, 1) := by decide +kernel
theorem dX0_look_32 : decode cX0_look 32 = .ok (.iload_n 2, 1) := by decide +kernel
theorem dX0_look_33 : decode cX0_look 33 = .ok (.bipush 8, 2) := by decide +kernel
theorem dX0_look_35 : decode cX0_look 35 = .ok (.if_icmp .ge 73, 3) := by decide +kernel
theorem dX0_look_38 : decode cX0_look 38 = .ok (.aload_n 0, 1) := by decide +kernel
theorem dX0_look_39 : decode cX0_look 39 = .ok (.iload_n 1, 1) := by decide +kernel
theorem dX0_look_40 : decode cX0_look 40 = .ok (.iload_n 2, 1) := by decide +kernel
theorem dX0_look_41 : decode cX0_look 41 = .ok (.invokevirtual 106, 3) := by decide +kernel
theorem dX0_look_44 : decode cX0_look 44 = .ok (.ifCond .ne 6, 3) := by decide +kernel
theorem dX0_look_47 : decode cX0_look 47 = .ok (.goto 55, 3) := by decide +kernel
theorem dX0_look_50 : decode cX0_look 50 = .ok (.aload_n 0, 1) := by decide +kernel
theorem dX0_look_51 : decode cX0_look 51 = .ok (.iload_n 1, 1) := by decide +kernel
theorem dX0_look_52 : decode cX0_look 52 = .ok (.iload_n 2, 1) := by decide +kernel
theorem dX0_look_53 : decode cX0_look 53 = .ok (.invokevirtual 110, 3) := by decide +kernel
theorem dX0_look_56 : decode cX0_look 56 = .ok (.istore_n 3, 1) := by decide +kernel
theorem dX0_look_57 : decode cX0_look 57 = .ok (.iload_n 3, 1) := by decide +kernel
theorem dX0_look_58 : decode cX0_look 58 = .ok (.bipush 20, 2) := by decide +kernel
theorem dX0_look_60 : decode cX0_look 60 = .ok (.if_icmp .lt 21, 3) := by decide +kernel
theorem dX0_look_63 : decode cX0_look 63 = .ok (.aload_n 0, 1) := by decide +kernel
theorem dX0_look_64 : decode cX0_look 64 = .ok (.getfield 34, 3) := by decide +kernel
theorem dX0_look_67 : decode cX0_look 67 = .ok (.iload_n 1, 1) := by decide +kernel
theorem dX0_look_68 : decode cX0_look 68 = .ok (.dup2, 1) := by decide +kernel
theorem dX0_look_69 : decode cX0_look 69 = .ok (.iaload, 1) := by decide +kernel
theorem dX0_look_70 : decode cX0_look 70 = .ok (.iconst 1, 1) := by decide +kernel
theorem dX0_look_71 : decode cX0_look 71 = .ok (.iload_n 3, 1) := by decide +kernel
theorem dX0_look_72 : decode cX0_look 72 = .ok (.bipush 20, 2) := by decide +kernel
theorem dX0_look_74 : decode cX0_look 74 = .ok (.isub, 1) := by decide +kernel
theorem dX0_look_75 : decode cX0_look 75 = .ok (.ishl, 1) := by decide +kernel
theorem dX0_look_76 : decode cX0_look 76 = .ok (.ior, 1) := by decide +kernel
theorem dX0_look_77 : decode cX0_look 77 = .ok (.iastore, 1) := by decide +kernel
theorem dX0_look_78 : decode cX0_look 78 = .ok (.goto 24, 3) := by decide +kernel
theorem dX0_look_81 : decode cX0_look 81 = .ok (.iload_n 3, 1) := by decide +kernel
theorem dX0_look_82 : decode cX0_look 82 = .ok (.bipush 10, 2) := by decide +kernel
theorem dX0_look_84 : decode cX0_look 84 = .ok (.if_icmp .lt 18, 3) := by decide +kernel
theorem dX0_look_87 : decode cX0_look 87 = .ok (.aload_n 0, 1) := by decide +kernel
theorem dX0_look_88 : decode cX0_look 88 = .ok (.getfield 31, 3) := by decide +kernel
theorem dX0_look_91 : decode cX0_look 91 = .ok (.iload_n 1, 1) := by decide +kernel
theorem dX0_look_92 : decode cX0_look 92 = .ok (.dup2, 1) := by decide +kernel
theorem dX0_look_93 : decode cX0_look 93 = .ok (.iaload, 1) := by decide +kernel
theorem dX0_look_94 : decode cX0_look 94 = .ok (.iconst 1, 1) := by decide +kernel
theorem dX0_look_95 : decode cX0_look 95 = .ok (.iload_n 3, 1) := by decide +kernel
theorem dX0_look_96 : decode cX0_look 96 = .ok (.bipush 10, 2) := by decide +kernel
theorem dX0_look_98 : decode cX0_look 98 = .ok (.isub, 1) := by decide +kernel
theorem dX0_look_99 : decode cX0_look 99 = .ok (.ishl, 1) := by decide +kernel
theorem dX0_look_100 : decode cX0_look 100 = .ok (.ior, 1) := by decide +kernel
theorem dX0_look_101 : decode cX0_look 101 = .ok (.iastore, 1) := by decide +kernel
theorem dX0_look_102 : decode cX0_look 102 = .ok (.iinc 2 1, 3) := by decide +kernel
theorem dX0_look_105 : decode cX0_look 105 = .ok (.goto (-73), 3) := by decide +kernel
theorem dX0_look_108 : decode cX0_look 108 = .ok (.return_, 1) := by decide +kernel
theorem dX0_begin_0 : decode cX0_begin 0 = .ok (.aload_n 0, 1) := by decide +kernel
theorem dX0_begin_1 : decode cX0_begin 1 = .ok (.getfield 12, 3) := by decide +kernel
theorem dX0_begin_4 : decode cX0_begin 4 = .ok (.aload_n 1, 1) := by decide +kernel
theorem dX0_begin_5 : decode cX0_begin 5 = .ok (.invokevirtual 44, 3) := by decide +kernel
theorem dX0_begin_8 : decode cX0_begin 8 = .ok (.aload_n 0, 1) := by decide +kernel
theorem dX0_begin_9 : decode cX0_begin 9 = .ok (.getfield 48, 3) := by decide +kernel
theorem dX0_begin_12 : decode cX0_begin 12 = .ok (.aload_n 0, 1) := by decide +kernel
theorem dX0_begin_13 : decode cX0_begin 13 = .ok (.getfield 12, 3) := by decide +kernel
theorem dX0_begin_16 : decode cX0_begin 16 = .ok (.getfield 52, 3) := by decide +kernel
theorem dX0_begin_19 : decode cX0_begin 19 = .ok (.if_icmp .ne 17, 3) := by decide +kernel
theorem dX0_begin_22 : decode cX0_begin 22 = .ok (.aload_n 0, 1) := by decide +kernel
theorem dX0_begin_23 : decode cX0_begin 23 = .ok (.getfield 53, 3) := by decide +kernel
theorem dX0_begin_26 : decode cX0_begin 26 = .ok (.aload_n 0, 1) := by decide +kernel
theorem dX0_begin_27 : decode cX0_begin 27 = .ok (.getfield 12, 3) := by decide +kernel
theorem dX0_begin_30 : decode cX0_begin 30 = .ok (.getfield 56, 3) := by decide +kernel
theorem dX0_begin_33 : decode cX0_begin 33 = .ok (.if_icmp .eq 7, 3) := by decide +kernel
theorem dX0_begin_36 : decode cX0_begin 36 = .ok (.aload_n 0, 1) := by decide +kernel
theorem dX0_begin_37 : decode cX0_begin 37 = .ok (.invokevirtual 57, 3) := by decide +kernel
theorem dX0_begin_40 : decode cX0_begin 40 = .ok (.aload_n 0, 1) := by decide +kernel
theorem dX0_begin_41 : decode cX0_begin 41 = .ok (.iconst 0, 1) := by decide +kernel
theorem dX0_begin_42 : decode cX0_begin 42 = .ok (.putfield 60, 3) := by decide +kernel
theorem dX0_begin_45 : decode cX0_begin 45 = .ok (.iconst 0, 1) := by decide +kernel
theorem dX0_begin_46 : decode cX0_begin 46 = .ok (.istore_n 2, 1) := by decide +kernel
theorem dX0_begin_47 : decode cX0_begin 47 = .ok (.iload_n 2, 1) := by decide +kernel
theorem dX0_begin_48 : decode cX0_begin 48 = .ok (.aload_n 0, 1) := by decide +kernel
theorem dX0_begin_49 : decode cX0_begin 49 = .ok (.getfield 12, 3) := by decide +kernel
theorem dX0_begin_52 : decode cX0_begin 52 = .ok (.getfield 63, 3) := by decide +kernel
theorem dX0_begin_55 : decode cX0_begin 55 = .ok (.if_icmp .ge 14, 3) := by decide +kernel
theorem dX0_begin_58 : decode cX0_begin 58 = .ok (.aload_n 0, 1) := by decide +kernel
theorem dX0_begin_59 : decode cX0_begin 59 = .ok (.iload_n 2, 1) := by decide +kernel
theorem dX0_begin_60 : decode cX0_begin 60 = .ok (.invokevirtual 66, 3) := by decide +kernel
theorem dX0_begin_63 : decode cX0_begin 63 = .ok (.iinc 2 1, 3) := by decide +kernel
theorem dX0_begin_66 : decode cX0_begin 66 = .ok (.goto (-19), 3) := by decide +kernel
theorem dX0_begin_69 : decode cX0_begin 69 = .ok (.return_, 1) := by decide +kernel
theorem dX0_squares_0 : decode cX0_squares 0 = .ok (.aload_n 0, 1) := by decide +kernel
theorem dX0_squares_1 : decode cX0_squares 1 = .ok (.getfield 12, 3) := by decide +kernel
theorem dX0_squares_4 : decode cX0_squares 4 = .ok (.getfield 52, 3) := by decide +kernel
theorem dX0_squares_7 : decode cX0_squares 7 = .ok (.aload_n 0, 1) := by decide +kernel
theorem dX0_squares_8 : decode cX0_squares 8 = .ok (.getfield 12, 3) := by decide +kernel
theorem dX0_squares_11 : decode cX0_squares 11 = .ok (.getfield 56, 3) := by decide +kernel
theorem dX0_squares_14 : decode cX0_squares 14 = .ok (.imul, 1) := by decide +kernel
theorem dX0_squares_15 : decode cX0_squares 15 = .ok (.ireturn, 1) := by decide +kernel
theorem dX0_isFree_0 : decode cX0_isFree 0 = .ok (.aload_n 0, 1) := by decide +kernel
theorem dX0_isFree_1 : decode cX0_isFree 1 = .ok (.getfield 12, 3) := by decide +kernel
theorem dX0_isFree_4 : decode cX0_isFree 4 = .ok (.getfield 80, 3) := by decide +kernel
theorem dX0_isFree_7 : decode cX0_isFree 7 = .ok (.iload_n 1, 1) := by decide +kernel
theorem dX0_isFree_8 : decode cX0_isFree 8 = .ok (.iaload, 1) := by decide +kernel
theorem dX0_isFree_9 : decode cX0_isFree 9 = .ok (.ifCond .ne 7, 3) := by decide +kernel
theorem dX0_isFree_12 : decode cX0_isFree 12 = .ok (.iconst 1, 1) := by decide +kernel
theorem dX0_isFree_13 : decode cX0_isFree 13 = .ok (.goto 4, 3) := by decide +kernel
theorem dX0_isFree_16 : decode cX0_isFree 16 = .ok (.iconst 0, 1) := by decide +kernel
theorem dX0_isFree_17 : decode cX0_isFree 17 = .ok (.ireturn, 1) := by decide +kernel
theorem dX0_lay_0 : decode cX0_lay 0 = .ok (.aload_n 0, 1) := by decide +kernel
theorem dX0_lay_1 : decode cX0_lay 1 = .ok (.getfield 12, 3) := by decide +kernel
theorem dX0_lay_4 : decode cX0_lay 4 = .ok (.getfield 80, 3) := by decide +kernel
theorem dX0_lay_7 : decode cX0_lay 7 = .ok (.iload_n 1, 1) := by decide +kernel
theorem dX0_lay_8 : decode cX0_lay 8 = .ok (.iload_n 2, 1) := by decide +kernel
theorem dX0_lay_9 : decode cX0_lay 9 = .ok (.iastore, 1) := by decide +kernel
theorem dX0_lay_10 : decode cX0_lay 10 = .ok (.iconst 0, 1) := by decide +kernel
theorem dX0_lay_11 : decode cX0_lay 11 = .ok (.istore_n 3, 1) := by decide +kernel
theorem dX0_lay_12 : decode cX0_lay 12 = .ok (.iload_n 3, 1) := by decide +kernel
theorem dX0_lay_13 : decode cX0_lay 13 = .ok (.aload_n 0, 1) := by decide +kernel
theorem dX0_lay_14 : decode cX0_lay 14 = .ok (.getfield 12, 3) := by decide +kernel
theorem dX0_lay_17 : decode cX0_lay 17 = .ok (.getfield 63, 3) := by decide +kernel
theorem dX0_lay_20 : decode cX0_lay 20 = .ok (.if_icmp .ge 29, 3) := by decide +kernel
theorem dX0_lay_23 : decode cX0_lay 23 = .ok (.aload_n 0, 1) := by decide +kernel
theorem dX0_lay_24 : decode cX0_lay 24 = .ok (.getfield 37, 3) := by decide +kernel
theorem dX0_lay_27 : decode cX0_lay 27 = .ok (.iload_n 3, 1) := by decide +kernel
theorem dX0_lay_28 : decode cX0_lay 28 = .ok (.laload, 1) := by decide +kernel
theorem dX0_lay_29 : decode cX0_lay 29 = .ok (.iload_n 1, 1) := by decide +kernel
theorem dX0_lay_30 : decode cX0_lay 30 = .ok (.lushr, 1) := by decide +kernel
theorem dX0_lay_31 : decode cX0_lay 31 = .ok (.lconst 1, 1) := by decide +kernel
theorem dX0_lay_32 : decode cX0_lay 32 = .ok (.land, 1) := by decide +kernel
theorem dX0_lay_33 : decode cX0_lay 33 = .ok (.lconst 0, 1) := by decide +kernel
theorem dX0_lay_34 : decode cX0_lay 34 = .ok (.lcmp, 1) := by decide +kernel
theorem dX0_lay_35 : decode cX0_lay 35 = .ok (.ifCond .eq 8, 3) := by decide +kernel
theorem dX0_lay_38 : decode cX0_lay 38 = .ok (.aload_n 0, 1) := by decide +kernel
theorem dX0_lay_39 : decode cX0_lay 39 = .ok (.iload_n 3, 1) := by decide +kernel
theorem dX0_lay_40 : decode cX0_lay 40 = .ok (.invokevirtual 66, 3) := by decide +kernel
theorem dX0_lay_43 : decode cX0_lay 43 = .ok (.iinc 3 1, 3) := by decide +kernel
theorem dX0_lay_46 : decode cX0_lay 46 = .ok (.goto (-34), 3) := by decide +kernel
theorem dX0_lay_49 : decode cX0_lay 49 = .ok (.return_, 1) := by decide +kernel
theorem dX0_isInSight_0 : decode cX0_isInSight 0 = .ok (.iconst 0, 1) := by decide +kernel
theorem dX0_isInSight_1 : decode cX0_isInSight 1 = .ok (.istore_n 2, 1) := by decide +kernel
theorem dX0_isInSight_2 : decode cX0_isInSight 2 = .ok (.iload_n 2, 1) := by decide +kernel
theorem dX0_isInSight_3 : decode cX0_isInSight 3 = .ok (.aload_n 0, 1) := by decide +kernel
theorem dX0_isInSight_4 : decode cX0_isInSight 4 = .ok (.getfield 12, 3) := by decide +kernel
theorem dX0_isInSight_7 : decode cX0_isInSight 7 = .ok (.getfield 63, 3) := by decide +kernel
theorem dX0_isInSight_10 : decode cX0_isInSight 10 = .ok (.if_icmp .ge 26, 3) := by decide +kernel
theorem dX0_isInSight_13 : decode cX0_isInSight 13 = .ok (.aload_n 0, 1) := by decide +kernel
theorem dX0_isInSight_14 : decode cX0_isInSight 14 = .ok (.getfield 37, 3) := by decide +kernel
theorem dX0_isInSight_17 : decode cX0_isInSight 17 = .ok (.iload_n 2, 1) := by decide +kernel
theorem dX0_isInSight_18 : decode cX0_isInSight 18 = .ok (.laload, 1) := by decide +kernel
theorem dX0_isInSight_19 : decode cX0_isInSight 19 = .ok (.iload_n 1, 1) := by decide +kernel
theorem dX0_isInSight_20 : decode cX0_isInSight 20 = .ok (.lushr, 1) := by decide +kernel
theorem dX0_isInSight_21 : decode cX0_isInSight 21 = .ok (.lconst 1, 1) := by decide +kernel
theorem dX0_isInSight_22 : decode cX0_isInSight 22 = .ok (.land, 1) := by decide +kernel
theorem dX0_isInSight_23 : decode cX0_isInSight 23 = .ok (.lconst 0, 1) := by decide +kernel
theorem dX0_isInSight_24 : decode cX0_isInSight 24 = .ok (.lcmp, 1) := by decide +kernel
theorem dX0_isInSight_25 : decode cX0_isInSight 25 = .ok (.ifCond .eq 5, 3) := by decide +kernel
theorem dX0_isInSight_28 : decode cX0_isInSight 28 = .ok (.iconst 1, 1) := by decide +kernel
theorem dX0_isInSight_29 : decode cX0_isInSight 29 = .ok (.ireturn, 1) := by decide +kernel
theorem dX0_isInSight_30 : decode cX0_isInSight 30 = .ok (.iinc 2 1, 3) := by decide +kernel
theorem dX0_isInSight_33 : decode cX0_isInSight 33 = .ok (.goto (-31), 3) := by decide +kernel
theorem dX0_isInSight_36 : decode cX0_isInSight 36 = .ok (.iconst 0, 1) := by decide +kernel
theorem dX0_isInSight_37 : decode cX0_isInSight 37 = .ok (.ireturn, 1) := by decide +kernel
theorem dX0_face_0 : decode cX0_face 0 = .ok (.aload_n 0, 1) := by decide +kernel
theorem dX0_face_1 : decode cX0_face 1 = .ok (.getfield 12, 3) := by decide +kernel
theorem dX0_face_4 : decode cX0_face 4 = .ok (.getfield 83, 3) := by decide +kernel
theorem dX0_face_7 : decode cX0_face 7 = .ok (.iload_n 1, 1) := by decide +kernel
theorem dX0_face_8 : decode cX0_face 8 = .ok (.iload_n 2, 1) := by decide +kernel
theorem dX0_face_9 : decode cX0_face 9 = .ok (.iastore, 1) := by decide +kernel
theorem dX0_face_10 : decode cX0_face 10 = .ok (.aload_n 0, 1) := by decide +kernel
theorem dX0_face_11 : decode cX0_face 11 = .ok (.iload_n 1, 1) := by decide +kernel
theorem dX0_face_12 : decode cX0_face 12 = .ok (.invokevirtual 66, 3) := by decide +kernel
theorem dX0_face_15 : decode cX0_face 15 = .ok (.return_, 1) := by decide +kernel
theorem dX0_stirOrCalm_0 : decode cX0_stirOrCalm 0 = .ok (.aload_n 0, 1) := by decide +kernel
theorem dX0_stirOrCalm_1 : decode cX0_stirOrCalm 1 = .ok (.dup, 1) := by decide +kernel
theorem dX0_stirOrCalm_2 : decode cX0_stirOrCalm 2 = .ok (.getfield 60, 3) := by decide +kernel
theorem dX0_stirOrCalm_5 : decode cX0_stirOrCalm 5 = .ok (.iconst 1, 1) := by decide +kernel
theorem dX0_stirOrCalm_6 : decode cX0_stirOrCalm 6 = .ok (.iload_n 1, 1) := by decide +kernel
theorem dX0_stirOrCalm_7 : decode cX0_stirOrCalm 7 = .ok (.ishl, 1) := by decide +kernel
theorem dX0_stirOrCalm_8 : decode cX0_stirOrCalm 8 = .ok (.ixor, 1) := by decide +kernel
theorem dX0_stirOrCalm_9 : decode cX0_stirOrCalm 9 = .ok (.putfield 60, 3) := by decide +kernel
theorem dX0_stirOrCalm_12 : decode cX0_stirOrCalm 12 = .ok (.aload_n 0, 1) := by decide +kernel
theorem dX0_stirOrCalm_13 : decode cX0_stirOrCalm 13 = .ok (.iload_n 1, 1) := by decide +kernel
theorem dX0_stirOrCalm_14 : decode cX0_stirOrCalm 14 = .ok (.invokevirtual 66, 3) := by decide +kernel
theorem dX0_stirOrCalm_17 : decode cX0_stirOrCalm 17 = .ok (.return_, 1) := by decide +kernel
theorem dX0_addSpoon_0 : decode cX0_addSpoon 0 = .ok (.aload_n 0, 1) := by decide +kernel
theorem dX0_addSpoon_1 : decode cX0_addSpoon 1 = .ok (.getfield 12, 3) := by decide +kernel
theorem dX0_addSpoon_4 : decode cX0_addSpoon 4 = .ok (.getfield 63, 3) := by decide +kernel
theorem dX0_addSpoon_7 : decode cX0_addSpoon 7 = .ok (.istore_n 2, 1) := by decide +kernel
theorem dX0_addSpoon_8 : decode cX0_addSpoon 8 = .ok (.iload_n 2, 1) := by decide +kernel
theorem dX0_addSpoon_9 : decode cX0_addSpoon 9 = .ok (.bipush 8, 2) := by decide +kernel
theorem dX0_addSpoon_11 : decode cX0_addSpoon 11 = .ok (.if_icmp .lt 5, 3) := by decide +kernel
theorem dX0_addSpoon_14 : decode cX0_addSpoon 14 = .ok (.iconst (-1), 1) := by decide +kernel
theorem dX0_addSpoon_15 : decode cX0_addSpoon 15 = .ok (.ireturn, 1) := by decide +kernel
theorem dX0_addSpoon_16 : decode cX0_addSpoon 16 = .ok (.aload_n 0, 1) := by decide +kernel
theorem dX0_addSpoon_17 : decode cX0_addSpoon 17 = .ok (.getfield 12, 3) := by decide +kernel
theorem dX0_addSpoon_20 : decode cX0_addSpoon 20 = .ok (.getfield 86, 3) := by decide +kernel
theorem dX0_addSpoon_23 : decode cX0_addSpoon 23 = .ok (.iload_n 2, 1) := by decide +kernel
theorem dX0_addSpoon_24 : decode cX0_addSpoon 24 = .ok (.iconst 1, 1) := by decide +kernel
theorem dX0_addSpoon_25 : decode cX0_addSpoon 25 = .ok (.iastore, 1) := by decide +kernel
theorem dX0_addSpoon_26 : decode cX0_addSpoon 26 = .ok (.aload_n 0, 1) := by decide +kernel
theorem dX0_addSpoon_27 : decode cX0_addSpoon 27 = .ok (.getfield 12, 3) := by decide +kernel
theorem dX0_addSpoon_30 : decode cX0_addSpoon 30 = .ok (.getfield 89, 3) := by decide +kernel
theorem dX0_addSpoon_33 : decode cX0_addSpoon 33 = .ok (.iload_n 2, 1) := by decide +kernel
theorem dX0_addSpoon_34 : decode cX0_addSpoon 34 = .ok (.bipush 9, 2) := by decide +kernel
theorem dX0_addSpoon_36 : decode cX0_addSpoon 36 = .ok (.iastore, 1) := by decide +kernel
theorem dX0_addSpoon_37 : decode cX0_addSpoon 37 = .ok (.aload_n 0, 1) := by decide +kernel
theorem dX0_addSpoon_38 : decode cX0_addSpoon 38 = .ok (.getfield 12, 3) := by decide +kernel
theorem dX0_addSpoon_41 : decode cX0_addSpoon 41 = .ok (.getfield 92, 3) := by decide +kernel
theorem dX0_addSpoon_44 : decode cX0_addSpoon 44 = .ok (.iload_n 2, 1) := by decide +kernel
theorem dX0_addSpoon_45 : decode cX0_addSpoon 45 = .ok (.iload_n 1, 1) := by decide +kernel
theorem dX0_addSpoon_46 : decode cX0_addSpoon 46 = .ok (.iastore, 1) := by decide +kernel
theorem dX0_addSpoon_47 : decode cX0_addSpoon 47 = .ok (.aload_n 0, 1) := by decide +kernel
theorem dX0_addSpoon_48 : decode cX0_addSpoon 48 = .ok (.getfield 12, 3) := by decide +kernel
theorem dX0_addSpoon_51 : decode cX0_addSpoon 51 = .ok (.iload_n 2, 1) := by decide +kernel
theorem dX0_addSpoon_52 : decode cX0_addSpoon 52 = .ok (.iconst 1, 1) := by decide +kernel
theorem dX0_addSpoon_53 : decode cX0_addSpoon 53 = .ok (.iadd, 1) := by decide +kernel
theorem dX0_addSpoon_54 : decode cX0_addSpoon 54 = .ok (.putfield 63, 3) := by decide +kernel
theorem dX0_addSpoon_57 : decode cX0_addSpoon 57 = .ok (.aload_n 0, 1) := by decide +kernel
theorem dX0_addSpoon_58 : decode cX0_addSpoon 58 = .ok (.getfield 37, 3) := by decide +kernel
theorem dX0_addSpoon_61 : decode cX0_addSpoon 61 = .ok (.iload_n 2, 1) := by decide +kernel
theorem dX0_addSpoon_62 : decode cX0_addSpoon 62 = .ok (.lconst 0, 1) := by decide +kernel
theorem dX0_addSpoon_63 : decode cX0_addSpoon 63 = .ok (.lastore, 1) := by decide +kernel
theorem dX0_addSpoon_64 : decode cX0_addSpoon 64 = .ok (.iload_n 2, 1) := by decide +kernel
theorem dX0_addSpoon_65 : decode cX0_addSpoon 65 = .ok (.ireturn, 1) := by decide +kernel
theorem dX0_widen_0 : decode cX0_widen 0 = .ok (.iconst 0, 1) := by decide +kernel
theorem dX0_widen_1 : decode cX0_widen 1 = .ok (.istore_n 1, 1) := by decide +kernel
theorem dX0_widen_2 : decode cX0_widen 2 = .ok (.iconst 0, 1) := by decide +kernel
theorem dX0_widen_3 : decode cX0_widen 3 = .ok (.istore_n 2, 1) := by decide +kernel
theorem dX0_widen_4 : decode cX0_widen 4 = .ok (.iload_n 2, 1) := by decide +kernel
theorem dX0_widen_5 : decode cX0_widen 5 = .ok (.aload_n 0, 1) := by decide +kernel
theorem dX0_widen_6 : decode cX0_widen 6 = .ok (.getfield 12, 3) := by decide +kernel
theorem dX0_widen_9 : decode cX0_widen 9 = .ok (.getfield 63, 3) := by decide +kernel
theorem dX0_widen_12 : decode cX0_widen 12 = .ok (.if_icmp .ge 80, 3) := by decide +kernel
theorem dX0_widen_15 : decode cX0_widen 15 = .ok (.aload_n 0, 1) := by decide +kernel
theorem dX0_widen_16 : decode cX0_widen 16 = .ok (.getfield 18, 3) := by decide +kernel
theorem dX0_widen_19 : decode cX0_widen 19 = .ok (.iload_n 2, 1) := by decide +kernel
theorem dX0_widen_20 : decode cX0_widen 20 = .ok (.iaload, 1) := by decide +kernel
theorem dX0_widen_21 : decode cX0_widen 21 = .ok (.istore_n 3, 1) := by decide +kernel
theorem dX0_widen_22 : decode cX0_widen 22 = .ok (.iconst 0, 1) := by decide +kernel
theorem dX0_widen_23 : decode cX0_widen 23 = .ok (.istore 4, 2) := by decide +kernel
theorem dX0_widen_25 : decode cX0_widen 25 = .ok (.iload 4, 2) := by decide +kernel
theorem dX0_widen_27 : decode cX0_widen 27 = .ok (.aload_n 0, 1) := by decide +kernel
theorem dX0_widen_28 : decode cX0_widen 28 = .ok (.getfield 12, 3) := by decide +kernel
theorem dX0_widen_31 : decode cX0_widen 31 = .ok (.getfield 63, 3) := by decide +kernel
theorem dX0_widen_34 : decode cX0_widen 34 = .ok (.if_icmp .ge 33, 3) := by decide +kernel
theorem dX0_widen_37 : decode cX0_widen 37 = .ok (.aload_n 0, 1) := by decide +kernel
theorem dX0_widen_38 : decode cX0_widen 38 = .ok (.getfield 34, 3) := by decide +kernel
theorem dX0_widen_41 : decode cX0_widen 41 = .ok (.iload_n 2, 1) := by decide +kernel
theorem dX0_widen_42 : decode cX0_widen 42 = .ok (.iaload, 1) := by decide +kernel
theorem dX0_widen_43 : decode cX0_widen 43 = .ok (.iload 4, 2) := by decide +kernel
theorem dX0_widen_45 : decode cX0_widen 45 = .ok (.iushr, 1) := by decide +kernel
theorem dX0_widen_46 : decode cX0_widen 46 = .ok (.iconst 1, 1) := by decide +kernel
theorem dX0_widen_47 : decode cX0_widen 47 = .ok (.iand, 1) := by decide +kernel
theorem dX0_widen_48 : decode cX0_widen 48 = .ok (.ifCond .eq 13, 3) := by decide +kernel
theorem dX0_widen_51 : decode cX0_widen 51 = .ok (.iload_n 3, 1) := by decide +kernel
theorem dX0_widen_52 : decode cX0_widen 52 = .ok (.aload_n 0, 1) := by decide +kernel
theorem dX0_widen_53 : decode cX0_widen 53 = .ok (.getfield 18, 3) := by decide +kernel
theorem dX0_widen_56 : decode cX0_widen 56 = .ok (.iload 4, 2) := by decide +kernel
theorem dX0_widen_58 : decode cX0_widen 58 = .ok (.iaload, 1) := by decide +kernel
theorem dX0_widen_59 : decode cX0_widen 59 = .ok (.ior, 1) := by decide +kernel
theorem dX0_widen_60 : decode cX0_widen 60 = .ok (.istore_n 3, 1) := by decide +kernel
theorem dX0_widen_61 : decode cX0_widen 61 = .ok (.iinc 4 1, 3) := by decide +kernel
theorem dX0_widen_64 : decode cX0_widen 64 = .ok (.goto (-39), 3) := by decide +kernel
theorem dX0_widen_67 : decode cX0_widen 67 = .ok (.aload_n 0, 1) := by decide +kernel
theorem dX0_widen_68 : decode cX0_widen 68 = .ok (.getfield 41, 3) := by decide +kernel
theorem dX0_widen_71 : decode cX0_widen 71 = .ok (.iload_n 2, 1) := by decide +kernel
theorem dX0_widen_72 : decode cX0_widen 72 = .ok (.iload_n 3, 1) := by decide +kernel
theorem dX0_widen_73 : decode cX0_widen 73 = .ok (.iastore, 1) := by decide +kernel
theorem dX0_widen_74 : decode cX0_widen 74 = .ok (.iload_n 3, 1) := by decide +kernel
theorem dX0_widen_75 : decode cX0_widen 75 = .ok (.aload_n 0, 1) := by decide +kernel
theorem dX0_widen_76 : decode cX0_widen 76 = .ok (.getfield 18, 3) := by decide +kernel
theorem dX0_widen_79 : decode cX0_widen 79 = .ok (.iload_n 2, 1) := by decide +kernel
theorem dX0_widen_80 : decode cX0_widen 80 = .ok (.iaload, 1) := by decide +kernel
theorem dX0_widen_81 : decode cX0_widen 81 = .ok (.if_icmp .eq 5, 3) := by decide +kernel
theorem dX0_widen_84 : decode cX0_widen 84 = .ok (.iconst 1, 1) := by decide +kernel
theorem dX0_widen_85 : decode cX0_widen 85 = .ok (.istore_n 1, 1) := by decide +kernel
theorem dX0_widen_86 : decode cX0_widen 86 = .ok (.iinc 2 1, 3) := by decide +kernel
theorem dX0_widen_89 : decode cX0_widen 89 = .ok (.goto (-85), 3) := by decide +kernel
theorem dX0_widen_92 : decode cX0_widen 92 = .ok (.aload_n 0, 1) := by decide +kernel
theorem dX0_widen_93 : decode cX0_widen 93 = .ok (.getfield 41, 3) := by decide +kernel
theorem dX0_widen_96 : decode cX0_widen 96 = .ok (.iconst 0, 1) := by decide +kernel
theorem dX0_widen_97 : decode cX0_widen 97 = .ok (.aload_n 0, 1) := by decide +kernel
theorem dX0_widen_98 : decode cX0_widen 98 = .ok (.getfield 18, 3) := by decide +kernel
theorem dX0_widen_101 : decode cX0_widen 101 = .ok (.iconst 0, 1) := by decide +kernel
theorem dX0_widen_102 : decode cX0_widen 102 = .ok (.aload_n 0, 1) := by decide +kernel
theorem dX0_widen_103 : decode cX0_widen 103 = .ok (.getfield 12, 3) := by decide +kernel
theorem dX0_widen_106 : decode cX0_widen 106 = .ok (.getfield 63, 3) := by decide +kernel
theorem dX0_widen_109 : decode cX0_widen 109 = .ok (.invokestatic 117, 3) := by decide +kernel
theorem dX0_widen_112 : decode cX0_widen 112 = .ok (.iload_n 1, 1) := by decide +kernel
theorem dX0_widen_113 : decode cX0_widen 113 = .ok (.ireturn, 1) := by decide +kernel
theorem dX0_spread_0 : decode cX0_spread 0 = .ok (.iconst 0, 1) := by decide +kernel
theorem dX0_spread_1 : decode cX0_spread 1 = .ok (.istore_n 2, 1) := by decide +kernel
theorem dX0_spread_2 : decode cX0_spread 2 = .ok (.iload_n 2, 1) := by decide +kernel
theorem dX0_spread_3 : decode cX0_spread 3 = .ok (.aload_n 0, 1) := by decide +kernel
theorem dX0_spread_4 : decode cX0_spread 4 = .ok (.getfield 12, 3) := by decide +kernel
theorem dX0_spread_7 : decode cX0_spread 7 = .ok (.getfield 63, 3) := by decide +kernel
theorem dX0_spread_10 : decode cX0_spread 10 = .ok (.if_icmp .ge 21, 3) := by decide +kernel
theorem dX0_spread_13 : decode cX0_spread 13 = .ok (.aload_n 0, 1) := by decide +kernel
theorem dX0_spread_14 : decode cX0_spread 14 = .ok (.getfield 18, 3) := by decide +kernel
theorem dX0_spread_17 : decode cX0_spread 17 = .ok (.iload_n 2, 1) := by decide +kernel
theorem dX0_spread_18 : decode cX0_spread 18 = .ok (.aload_n 0, 1) := by decide +kernel
theorem dX0_spread_19 : decode cX0_spread 19 = .ok (.getfield 31, 3) := by decide +kernel
theorem dX0_spread_22 : decode cX0_spread 22 = .ok (.iload_n 2, 1) := by decide +kernel
theorem dX0_spread_23 : decode cX0_spread 23 = .ok (.iaload, 1) := by decide +kernel
theorem dX0_spread_24 : decode cX0_spread 24 = .ok (.iastore, 1) := by decide +kernel
theorem dX0_spread_25 : decode cX0_spread 25 = .ok (.iinc 2 1, 3) := by decide +kernel
theorem dX0_spread_28 : decode cX0_spread 28 = .ok (.goto (-26), 3) := by decide +kernel
theorem dX0_spread_31 : decode cX0_spread 31 = .ok (.iconst 0, 1) := by decide +kernel
theorem dX0_spread_32 : decode cX0_spread 32 = .ok (.istore_n 2, 1) := by decide +kernel
theorem dX0_spread_33 : decode cX0_spread 33 = .ok (.iload_n 2, 1) := by decide +kernel
theorem dX0_spread_34 : decode cX0_spread 34 = .ok (.iload_n 1, 1) := by decide +kernel
theorem dX0_spread_35 : decode cX0_spread 35 = .ok (.if_icmp .ge 16, 3) := by decide +kernel
theorem dX0_spread_38 : decode cX0_spread 38 = .ok (.aload_n 0, 1) := by decide +kernel
theorem dX0_spread_39 : decode cX0_spread 39 = .ok (.invokevirtual 113, 3) := by decide +kernel
theorem dX0_spread_42 : decode cX0_spread 42 = .ok (.ifCond .eq 9, 3) := by decide +kernel
theorem dX0_spread_45 : decode cX0_spread 45 = .ok (.iinc 2 1, 3) := by decide +kernel
theorem dX0_spread_48 : decode cX0_spread 48 = .ok (.goto (-15), 3) := by decide +kernel
theorem dX0_spread_51 : decode cX0_spread 51 = .ok (.iload_n 2, 1) := by decide +kernel
theorem dX0_spread_52 : decode cX0_spread 52 = .ok (.ireturn, 1) := by decide +kernel
theorem dX0_degreeOf_0 : decode cX0_degreeOf 0 = .ok (.aload_n 0, 1) := by decide +kernel
theorem dX0_degreeOf_1 : decode cX0_degreeOf 1 = .ok (.iconst 0, 1) := by decide +kernel
theorem dX0_degreeOf_2 : decode cX0_degreeOf 2 = .ok (.invokevirtual 123, 3) := by decide +kernel
theorem dX0_degreeOf_5 : decode cX0_degreeOf 5 = .ok (.pop, 1) := by decide +kernel
theorem dX0_degreeOf_6 : decode cX0_degreeOf 6 = .ok (.iconst 0, 1) := by decide +kernel
theorem dX0_degreeOf_7 : decode cX0_degreeOf 7 = .ok (.istore_n 3, 1) := by decide +kernel
theorem dX0_degreeOf_8 : decode cX0_degreeOf 8 = .ok (.iload_n 3, 1) := by decide +kernel
theorem dX0_degreeOf_9 : decode cX0_degreeOf 9 = .ok (.bipush 8, 2) := by decide +kernel
theorem dX0_degreeOf_11 : decode cX0_degreeOf 11 = .ok (.if_icmp .ge 29, 3) := by decide +kernel
theorem dX0_degreeOf_14 : decode cX0_degreeOf 14 = .ok (.aload_n 0, 1) := by decide +kernel
theorem dX0_degreeOf_15 : decode cX0_degreeOf 15 = .ok (.getfield 18, 3) := by decide +kernel
theorem dX0_degreeOf_18 : decode cX0_degreeOf 18 = .ok (.iload_n 1, 1) := by decide +kernel
theorem dX0_degreeOf_19 : decode cX0_degreeOf 19 = .ok (.iaload, 1) := by decide +kernel
theorem dX0_degreeOf_20 : decode cX0_degreeOf 20 = .ok (.iload_n 2, 1) := by decide +kernel
theorem dX0_degreeOf_21 : decode cX0_degreeOf 21 = .ok (.iushr, 1) := by decide +kernel
theorem dX0_degreeOf_22 : decode cX0_degreeOf 22 = .ok (.iconst 1, 1) := by decide +kernel
theorem dX0_degreeOf_23 : decode cX0_degreeOf 23 = .ok (.iand, 1) := by decide +kernel
theorem dX0_degreeOf_24 : decode cX0_degreeOf 24 = .ok (.ifCond .eq 5, 3) := by decide +kernel
theorem dX0_degreeOf_27 : decode cX0_degreeOf 27 = .ok (.iload_n 3, 1) := by decide +kernel
theorem dX0_degreeOf_28 : decode cX0_degreeOf 28 = .ok (.ireturn, 1) := by decide +kernel
theorem dX0_degreeOf_29 : decode cX0_degreeOf 29 = .ok (.aload_n 0, 1) := by decide +kernel
theorem dX0_degreeOf_30 : decode cX0_degreeOf 30 = .ok (.invokevirtual 113, 3) := by decide +kernel
theorem dX0_degreeOf_33 : decode cX0_degreeOf 33 = .ok (.pop, 1) := by decide +kernel
theorem dX0_degreeOf_34 : decode cX0_degreeOf 34 = .ok (.iinc 3 1, 3) := by decide +kernel
theorem dX0_degreeOf_37 : decode cX0_degreeOf 37 = .ok (.goto (-29), 3) := by decide +kernel
theorem dX0_degreeOf_40 : decode cX0_degreeOf 40 = .ok (.iconst (-1), 1) := by decide +kernel
theorem dX0_degreeOf_41 : decode cX0_degreeOf 41 = .ok (.ireturn, 1) := by decide +kernel
theorem dX0_headsIn_0 : decode cX0_headsIn 0 = .ok (.aload_n 2, 1) := by decide +kernel
theorem dX0_headsIn_1 : decode cX0_headsIn 1 = .ok (.aload_n 0, 1) := by decide +kernel
theorem dX0_headsIn_2 : decode cX0_headsIn 2 = .ok (.getfield 12, 3) := by decide +kernel
theorem dX0_headsIn_5 : decode cX0_headsIn 5 = .ok (.getfield 86, 3) := by decide +kernel
theorem dX0_headsIn_8 : decode cX0_headsIn 8 = .ok (.iload_n 1, 1) := by decide +kernel
theorem dX0_headsIn_9 : decode cX0_headsIn 9 = .ok (.iaload, 1) := by decide +kernel
theorem dX0_headsIn_10 : decode cX0_headsIn 10 = .ok (.invokevirtual 127, 3) := by decide +kernel
theorem dX0_headsIn_13 : decode cX0_headsIn 13 = .ok (.ifCond .eq 5, 3) := by decide +kernel
theorem dX0_headsIn_16 : decode cX0_headsIn 16 = .ok (.iconst 0, 1) := by decide +kernel
theorem dX0_headsIn_17 : decode cX0_headsIn 17 = .ok (.ireturn, 1) := by decide +kernel
theorem dX0_headsIn_18 : decode cX0_headsIn 18 = .ok (.aload_n 2, 1) := by decide +kernel
theorem dX0_headsIn_19 : decode cX0_headsIn 19 = .ok (.getfield 132, 3) := by decide +kernel
theorem dX0_headsIn_22 : decode cX0_headsIn 22 = .ok (.ifCond .eq 13, 3) := by decide +kernel
theorem dX0_headsIn_25 : decode cX0_headsIn 25 = .ok (.aload_n 0, 1) := by decide +kernel
theorem dX0_headsIn_26 : decode cX0_headsIn 26 = .ok (.getfield 18, 3) := by decide +kernel
theorem dX0_headsIn_29 : decode cX0_headsIn 29 = .ok (.iload_n 1, 1) := by decide +kernel
theorem dX0_headsIn_30 : decode cX0_headsIn 30 = .ok (.iaload, 1) := by decide +kernel
theorem dX0_headsIn_31 : decode cX0_headsIn 31 = .ok (.invokestatic 136, 3) := by decide +kernel
theorem dX0_headsIn_34 : decode cX0_headsIn 34 = .ok (.ireturn, 1) := by decide +kernel
theorem dX0_headsIn_35 : decode cX0_headsIn 35 = .ok (.iconst 0, 1) := by decide +kernel
theorem dX0_headsIn_36 : decode cX0_headsIn 36 = .ok (.istore_n 3, 1) := by decide +kernel
theorem dX0_headsIn_37 : decode cX0_headsIn 37 = .ok (.iconst 0, 1) := by decide +kernel
theorem dX0_headsIn_38 : decode cX0_headsIn 38 = .ok (.istore 4, 2) := by decide +kernel
theorem dX0_headsIn_40 : decode cX0_headsIn 40 = .ok (.iload 4, 2) := by decide +kernel
theorem dX0_headsIn_42 : decode cX0_headsIn 42 = .ok (.aload_n 0, 1) := by decide +kernel
theorem dX0_headsIn_43 : decode cX0_headsIn 43 = .ok (.getfield 12, 3) := by decide +kernel
theorem dX0_headsIn_46 : decode cX0_headsIn 46 = .ok (.getfield 141, 3) := by decide +kernel
theorem dX0_headsIn_49 : decode cX0_headsIn 49 = .ok (.if_icmp .ge 38, 3) := by decide +kernel
theorem dX0_headsIn_52 : decode cX0_headsIn 52 = .ok (.aload_n 0, 1) := by decide +kernel
theorem dX0_headsIn_53 : decode cX0_headsIn 53 = .ok (.getfield 18, 3) := by decide +kernel
theorem dX0_headsIn_56 : decode cX0_headsIn 56 = .ok (.iload_n 1, 1) := by decide +kernel
theorem dX0_headsIn_57 : decode cX0_headsIn 57 = .ok (.iaload, 1) := by decide +kernel
theorem dX0_headsIn_58 : decode cX0_headsIn 58 = .ok (.iload 4, 2) := by decide +kernel
theorem dX0_headsIn_60 : decode cX0_headsIn 60 = .ok (.iushr, 1) := by decide +kernel
theorem dX0_headsIn_61 : decode cX0_headsIn 61 = .ok (.iconst 1, 1) := by decide +kernel
theorem dX0_headsIn_62 : decode cX0_headsIn 62 = .ok (.iand, 1) := by decide +kernel
theorem dX0_headsIn_63 : decode cX0_headsIn 63 = .ok (.ifCond .eq 18, 3) := by decide +kernel
theorem dX0_headsIn_66 : decode cX0_headsIn 66 = .ok (.iload_n 3, 1) := by decide +kernel
theorem dX0_headsIn_67 : decode cX0_headsIn 67 = .ok (.iconst 1, 1) := by decide +kernel
theorem dX0_headsIn_68 : decode cX0_headsIn 68 = .ok (.aload_n 0, 1) := by decide +kernel
theorem dX0_headsIn_69 : decode cX0_headsIn 69 = .ok (.getfield 12, 3) := by decide +kernel
theorem dX0_headsIn_72 : decode cX0_headsIn 72 = .ok (.getfield 144, 3) := by decide +kernel
theorem dX0_headsIn_75 : decode cX0_headsIn 75 = .ok (.iload 4, 2) := by decide +kernel
theorem dX0_headsIn_77 : decode cX0_headsIn 77 = .ok (.iaload, 1) := by decide +kernel
theorem dX0_headsIn_78 : decode cX0_headsIn 78 = .ok (.ishl, 1) := by decide +kernel
theorem dX0_headsIn_79 : decode cX0_headsIn 79 = .ok (.ior, 1) := by decide +kernel
theorem dX0_headsIn_80 : decode cX0_headsIn 80 = .ok (.istore_n 3, 1) := by decide +kernel
theorem dX0_headsIn_81 : decode cX0_headsIn 81 = .ok (.iinc 4 1, 3) := by decide +kernel
theorem dX0_headsIn_84 : decode cX0_headsIn 84 = .ok (.goto (-44), 3) := by decide +kernel
theorem dX0_headsIn_87 : decode cX0_headsIn 87 = .ok (.iload_n 3, 1) := by decide +kernel
theorem dX0_headsIn_88 : decode cX0_headsIn 88 = .ok (.invokestatic 136, 3) := by decide +kernel
theorem dX0_headsIn_91 : decode cX0_headsIn 91 = .ok (.ireturn, 1) := by decide +kernel
theorem dX0_countIn_0 : decode cX0_countIn 0 = .ok (.aload_n 0, 1) := by decide +kernel
theorem dX0_countIn_1 : decode cX0_countIn 1 = .ok (.iload_n 1, 1) := by decide +kernel
theorem dX0_countIn_2 : decode cX0_countIn 2 = .ok (.aload_n 2, 1) := by decide +kernel
theorem dX0_countIn_3 : decode cX0_countIn 3 = .ok (.invokevirtual 147, 3) := by decide +kernel
theorem dX0_countIn_6 : decode cX0_countIn 6 = .ok (.aload_n 0, 1) := by decide +kernel
theorem dX0_countIn_7 : decode cX0_countIn 7 = .ok (.getfield 12, 3) := by decide +kernel
theorem dX0_countIn_10 : decode cX0_countIn 10 = .ok (.getfield 89, 3) := by decide +kernel
theorem dX0_countIn_13 : decode cX0_countIn 13 = .ok (.iload_n 1, 1) := by decide +kernel
theorem dX0_countIn_14 : decode cX0_countIn 14 = .ok (.iaload, 1) := by decide +kernel
theorem dX0_countIn_15 : decode cX0_countIn 15 = .ok (.invokestatic 151, 3) := by decide +kernel
theorem dX0_countIn_18 : decode cX0_countIn 18 = .ok (.ireturn, 1) := by decide +kernel
theorem dX0_sumBy_0 : decode cX0_sumBy 0 = .ok (.aload_n 0, 1) := by decide +kernel
theorem dX0_sumBy_1 : decode cX0_sumBy 1 = .ok (.aload_n 1, 1) := by decide +kernel
theorem dX0_sumBy_2 : decode cX0_sumBy 2 = .ok (.getfield 156, 3) := by decide +kernel
theorem dX0_sumBy_5 : decode cX0_sumBy 5 = .ok (.invokevirtual 123, 3) := by decide +kernel
theorem dX0_sumBy_8 : decode cX0_sumBy 8 = .ok (.pop, 1) := by decide +kernel
theorem dX0_sumBy_9 : decode cX0_sumBy 9 = .ok (.iconst 0, 1) := by decide +kernel
theorem dX0_sumBy_10 : decode cX0_sumBy 10 = .ok (.istore_n 2, 1) := by decide +kernel
theorem dX0_sumBy_11 : decode cX0_sumBy 11 = .ok (.iconst 0, 1) := by decide +kernel
theorem dX0_sumBy_12 : decode cX0_sumBy 12 = .ok (.istore_n 3, 1) := by decide +kernel
theorem dX0_sumBy_13 : decode cX0_sumBy 13 = .ok (.iload_n 3, 1) := by decide +kernel
theorem dX0_sumBy_14 : decode cX0_sumBy 14 = .ok (.aload_n 0, 1) := by decide +kernel
theorem dX0_sumBy_15 : decode cX0_sumBy 15 = .ok (.getfield 12, 3) := by decide +kernel
theorem dX0_sumBy_18 : decode cX0_sumBy 18 = .ok (.getfield 63, 3) := by decide +kernel
theorem dX0_sumBy_21 : decode cX0_sumBy 21 = .ok (.if_icmp .ge 18, 3) := by decide +kernel
theorem dX0_sumBy_24 : decode cX0_sumBy 24 = .ok (.iload_n 2, 1) := by decide +kernel
theorem dX0_sumBy_25 : decode cX0_sumBy 25 = .ok (.aload_n 0, 1) := by decide +kernel
theorem dX0_sumBy_26 : decode cX0_sumBy 26 = .ok (.iload_n 3, 1) := by decide +kernel
theorem dX0_sumBy_27 : decode cX0_sumBy 27 = .ok (.aload_n 1, 1) := by decide +kernel
theorem dX0_sumBy_28 : decode cX0_sumBy 28 = .ok (.invokevirtual 159, 3) := by decide +kernel
theorem dX0_sumBy_31 : decode cX0_sumBy 31 = .ok (.iadd, 1) := by decide +kernel
theorem dX0_sumBy_32 : decode cX0_sumBy 32 = .ok (.istore_n 2, 1) := by decide +kernel
theorem dX0_sumBy_33 : decode cX0_sumBy 33 = .ok (.iinc 3 1, 3) := by decide +kernel
theorem dX0_sumBy_36 : decode cX0_sumBy 36 = .ok (.goto (-23), 3) := by decide +kernel
theorem dX0_sumBy_39 : decode cX0_sumBy 39 = .ok (.iload_n 2, 1) := by decide +kernel
theorem dX0_sumBy_40 : decode cX0_sumBy 40 = .ok (.ireturn, 1) := by decide +kernel
theorem dX0_addTotals_0 : decode cX0_addTotals 0 = .ok (.aload_n 0, 1) := by decide +kernel
theorem dX0_addTotals_1 : decode cX0_addTotals 1 = .ok (.aload_n 1, 1) := by decide +kernel
theorem dX0_addTotals_2 : decode cX0_addTotals 2 = .ok (.getfield 156, 3) := by decide +kernel
theorem dX0_addTotals_5 : decode cX0_addTotals 5 = .ok (.invokevirtual 123, 3) := by decide +kernel
theorem dX0_addTotals_8 : decode cX0_addTotals 8 = .ok (.pop, 1) := by decide +kernel
theorem dX0_addTotals_9 : decode cX0_addTotals 9 = .ok (.aload_n 0, 1) := by decide +kernel
theorem dX0_addTotals_10 : decode cX0_addTotals 10 = .ok (.getfield 22, 3) := by decide +kernel
theorem dX0_addTotals_13 : decode cX0_addTotals 13 = .ok (.iconst 0, 1) := by decide +kernel
theorem dX0_addTotals_14 : decode cX0_addTotals 14 = .ok (.invokestatic 162, 3) := by decide +kernel
theorem dX0_addTotals_17 : decode cX0_addTotals 17 = .ok (.iconst 0, 1) := by decide +kernel
theorem dX0_addTotals_18 : decode cX0_addTotals 18 = .ok (.istore_n 2, 1) := by decide +kernel
theorem dX0_addTotals_19 : decode cX0_addTotals 19 = .ok (.iload_n 2, 1) := by decide +kernel
theorem dX0_addTotals_20 : decode cX0_addTotals 20 = .ok (.aload_n 0, 1) := by decide +kernel
theorem dX0_addTotals_21 : decode cX0_addTotals 21 = .ok (.getfield 12, 3) := by decide +kernel
theorem dX0_addTotals_24 : decode cX0_addTotals 24 = .ok (.getfield 63, 3) := by decide +kernel
theorem dX0_addTotals_27 : decode cX0_addTotals 27 = .ok (.if_icmp .ge 32, 3) := by decide +kernel
theorem dX0_addTotals_30 : decode cX0_addTotals 30 = .ok (.aload_n 0, 1) := by decide +kernel
theorem dX0_addTotals_31 : decode cX0_addTotals 31 = .ok (.getfield 22, 3) := by decide +kernel
theorem dX0_addTotals_34 : decode cX0_addTotals 34 = .ok (.aload_n 0, 1) := by decide +kernel
theorem dX0_addTotals_35 : decode cX0_addTotals 35 = .ok (.getfield 12, 3) := by decide +kernel
theorem dX0_addTotals_38 : decode cX0_addTotals 38 = .ok (.getfield 92, 3) := by decide +kernel
theorem dX0_addTotals_41 : decode cX0_addTotals 41 = .ok (.iload_n 2, 1) := by decide +kernel
theorem dX0_addTotals_42 : decode cX0_addTotals 42 = .ok (.iaload, 1) := by decide +kernel
theorem dX0_addTotals_43 : decode cX0_addTotals 43 = .ok (.dup2, 1) := by decide +kernel
theorem dX0_addTotals_44 : decode cX0_addTotals 44 = .ok (.iaload, 1) := by decide +kernel
theorem dX0_addTotals_45 : decode cX0_addTotals 45 = .ok (.aload_n 0, 1) := by decide +kernel
theorem dX0_addTotals_46 : decode cX0_addTotals 46 = .ok (.iload_n 2, 1) := by decide +kernel
theorem dX0_addTotals_47 : decode cX0_addTotals 47 = .ok (.aload_n 1, 1) := by decide +kernel
theorem dX0_addTotals_48 : decode cX0_addTotals 48 = .ok (.invokevirtual 159, 3) := by decide +kernel
theorem dX0_addTotals_51 : decode cX0_addTotals 51 = .ok (.iadd, 1) := by decide +kernel
theorem dX0_addTotals_52 : decode cX0_addTotals 52 = .ok (.iastore, 1) := by decide +kernel
theorem dX0_addTotals_53 : decode cX0_addTotals 53 = .ok (.iinc 2 1, 3) := by decide +kernel
theorem dX0_addTotals_56 : decode cX0_addTotals 56 = .ok (.goto (-37), 3) := by decide +kernel
theorem dX0_addTotals_59 : decode cX0_addTotals 59 = .ok (.return_, 1) := by decide +kernel
theorem dX0_seatsOf_0 : decode cX0_seatsOf 0 = .ok (.aload_n 0, 1) := by decide +kernel
theorem dX0_seatsOf_1 : decode cX0_seatsOf 1 = .ok (.aload_n 2, 1) := by decide +kernel
theorem dX0_seatsOf_2 : decode cX0_seatsOf 2 = .ok (.invokevirtual 168, 3) := by decide +kernel
theorem dX0_seatsOf_5 : decode cX0_seatsOf 5 = .ok (.aload_n 2, 1) := by decide +kernel
theorem dX0_seatsOf_6 : decode cX0_seatsOf 6 = .ok (.aload_n 0, 1) := by decide +kernel
theorem dX0_seatsOf_7 : decode cX0_seatsOf 7 = .ok (.getfield 22, 3) := by decide +kernel
theorem dX0_seatsOf_10 : decode cX0_seatsOf 10 = .ok (.aload_n 0, 1) := by decide +kernel
theorem dX0_seatsOf_11 : decode cX0_seatsOf 11 = .ok (.getfield 25, 3) := by decide +kernel
theorem dX0_seatsOf_14 : decode cX0_seatsOf 14 = .ok (.invokevirtual 172, 3) := by decide +kernel
theorem dX0_seatsOf_17 : decode cX0_seatsOf 17 = .ok (.aload_n 0, 1) := by decide +kernel
theorem dX0_seatsOf_18 : decode cX0_seatsOf 18 = .ok (.getfield 25, 3) := by decide +kernel
theorem dX0_seatsOf_21 : decode cX0_seatsOf 21 = .ok (.iload_n 1, 1) := by decide +kernel
theorem dX0_seatsOf_22 : decode cX0_seatsOf 22 = .ok (.iaload, 1) := by decide +kernel
theorem dX0_seatsOf_23 : decode cX0_seatsOf 23 = .ok (.ireturn, 1) := by decide +kernel
theorem dX0_knownIn_0 : decode cX0_knownIn 0 = .ok (.iconst 0, 1) := by decide +kernel
theorem dX0_knownIn_1 : decode cX0_knownIn 1 = .ok (.istore_n 2, 1) := by decide +kernel
theorem dX0_knownIn_2 : decode cX0_knownIn 2 = .ok (.iconst 0, 1) := by decide +kernel
theorem dX0_knownIn_3 : decode cX0_knownIn 3 = .ok (.istore_n 3, 1) := by decide +kernel
theorem dX0_knownIn_4 : decode cX0_knownIn 4 = .ok (.iload_n 3, 1) := by decide +kernel
theorem dX0_knownIn_5 : decode cX0_knownIn 5 = .ok (.aload_n 0, 1) := by decide +kernel
theorem dX0_knownIn_6 : decode cX0_knownIn 6 = .ok (.getfield 12, 3) := by decide +kernel
theorem dX0_knownIn_9 : decode cX0_knownIn 9 = .ok (.getfield 63, 3) := by decide +kernel
theorem dX0_knownIn_12 : decode cX0_knownIn 12 = .ok (.if_icmp .ge 22, 3) := by decide +kernel
theorem dX0_knownIn_15 : decode cX0_knownIn 15 = .ok (.iload_n 2, 1) := by decide +kernel
theorem dX0_knownIn_16 : decode cX0_knownIn 16 = .ok (.aload_n 0, 1) := by decide +kernel
theorem dX0_knownIn_17 : decode cX0_knownIn 17 = .ok (.getfield 18, 3) := by decide +kernel
theorem dX0_knownIn_20 : decode cX0_knownIn 20 = .ok (.iload_n 3, 1) := by decide +kernel
theorem dX0_knownIn_21 : decode cX0_knownIn 21 = .ok (.iaload, 1) := by decide +kernel
theorem dX0_knownIn_22 : decode cX0_knownIn 22 = .ok (.iload_n 1, 1) := by decide +kernel
theorem dX0_knownIn_23 : decode cX0_knownIn 23 = .ok (.iushr, 1) := by decide +kernel
theorem dX0_knownIn_24 : decode cX0_knownIn 24 = .ok (.iconst 1, 1) := by decide +kernel
theorem dX0_knownIn_25 : decode cX0_knownIn 25 = .ok (.iand, 1) := by decide +kernel
theorem dX0_knownIn_26 : decode cX0_knownIn 26 = .ok (.iadd, 1) := by decide +kernel
theorem dX0_knownIn_27 : decode cX0_knownIn 27 = .ok (.istore_n 2, 1) := by decide +kernel
theorem dX0_knownIn_28 : decode cX0_knownIn 28 = .ok (.iinc 3 1, 3) := by decide +kernel
theorem dX0_knownIn_31 : decode cX0_knownIn 31 = .ok (.goto (-27), 3) := by decide +kernel
theorem dX0_knownIn_34 : decode cX0_knownIn 34 = .ok (.iload_n 2, 1) := by decide +kernel
theorem dX0_knownIn_35 : decode cX0_knownIn 35 = .ok (.ireturn, 1) := by decide +kernel
theorem dX0_clanOf_0 : decode cX0_clanOf 0 = .ok (.iconst 1, 1) := by decide +kernel
theorem dX0_clanOf_1 : decode cX0_clanOf 1 = .ok (.iload_n 1, 1) := by decide +kernel
theorem dX0_clanOf_2 : decode cX0_clanOf 2 = .ok (.ishl, 1) := by decide +kernel
theorem dX0_clanOf_3 : decode cX0_clanOf 3 = .ok (.istore_n 2, 1) := by decide +kernel
theorem dX0_clanOf_4 : decode cX0_clanOf 4 = .ok (.iconst 0, 1) := by decide +kernel
theorem dX0_clanOf_5 : decode cX0_clanOf 5 = .ok (.istore_n 3, 1) := by decide +kernel
theorem dX0_clanOf_6 : decode cX0_clanOf 6 = .ok (.iload_n 3, 1) := by decide +kernel
theorem dX0_clanOf_7 : decode cX0_clanOf 7 = .ok (.bipush 8, 2) := by decide +kernel
theorem dX0_clanOf_9 : decode cX0_clanOf 9 = .ok (.if_icmp .ge 49, 3) := by decide +kernel
theorem dX0_clanOf_12 : decode cX0_clanOf 12 = .ok (.iconst 0, 1) := by decide +kernel
theorem dX0_clanOf_13 : decode cX0_clanOf 13 = .ok (.istore 4, 2) := by decide +kernel
theorem dX0_clanOf_15 : decode cX0_clanOf 15 = .ok (.iload 4, 2) := by decide +kernel
theorem dX0_clanOf_17 : decode cX0_clanOf 17 = .ok (.aload_n 0, 1) := by decide +kernel
theorem dX0_clanOf_18 : decode cX0_clanOf 18 = .ok (.getfield 12, 3) := by decide +kernel
theorem dX0_clanOf_21 : decode cX0_clanOf 21 = .ok (.getfield 63, 3) := by decide +kernel
theorem dX0_clanOf_24 : decode cX0_clanOf 24 = .ok (.if_icmp .ge 28, 3) := by decide +kernel
theorem dX0_clanOf_27 : decode cX0_clanOf 27 = .ok (.iload_n 2, 1) := by decide +kernel
theorem dX0_clanOf_28 : decode cX0_clanOf 28 = .ok (.iload 4, 2) := by decide +kernel
theorem dX0_clanOf_30 : decode cX0_clanOf 30 = .ok (.iushr, 1) := by decide +kernel
theorem dX0_clanOf_31 : decode cX0_clanOf 31 = .ok (.iconst 1, 1) := by decide +kernel
theorem dX0_clanOf_32 : decode cX0_clanOf 32 = .ok (.iand, 1) := by decide +kernel
theorem dX0_clanOf_33 : decode cX0_clanOf 33 = .ok (.ifCond .eq 13, 3) := by decide +kernel
theorem dX0_clanOf_36 : decode cX0_clanOf 36 = .ok (.iload_n 2, 1) := by decide +kernel
theorem dX0_clanOf_37 : decode cX0_clanOf 37 = .ok (.aload_n 0, 1) := by decide +kernel
theorem dX0_clanOf_38 : decode cX0_clanOf 38 = .ok (.getfield 34, 3) := by decide +kernel
theorem dX0_clanOf_41 : decode cX0_clanOf 41 = .ok (.iload 4, 2) := by decide +kernel
theorem dX0_clanOf_43 : decode cX0_clanOf 43 = .ok (.iaload, 1) := by decide +kernel
theorem dX0_clanOf_44 : decode cX0_clanOf 44 = .ok (.ior, 1) := by decide +kernel
theorem dX0_clanOf_45 : decode cX0_clanOf 45 = .ok (.istore_n 2, 1) := by decide +kernel
theorem dX0_clanOf_46 : decode cX0_clanOf 46 = .ok (.iinc 4 1, 3) := by decide +kernel
theorem dX0_clanOf_49 : decode cX0_clanOf 49 = .ok (.goto (-34), 3) := by decide +kernel
theorem dX0_clanOf_52 : decode cX0_clanOf 52 = .ok (.iinc 3 1, 3) := by decide +kernel
theorem dX0_clanOf_55 : decode cX0_clanOf 55 = .ok (.goto (-49), 3) := by decide +kernel
theorem dX0_clanOf_58 : decode cX0_clanOf 58 = .ok (.iload_n 2, 1) := by decide +kernel
theorem dX0_clanOf_59 : decode cX0_clanOf 59 = .ok (.ireturn, 1) := by decide +kernel
theorem dX0_glances_0 : decode cX0_glances 0 = .ok (.iconst 0, 1) := by decide +kernel
theorem dX0_glances_1 : decode cX0_glances 1 = .ok (.istore_n 1, 1) := by decide +kernel
theorem dX0_glances_2 : decode cX0_glances 2 = .ok (.iconst 0, 1) := by decide +kernel
theorem dX0_glances_3 : decode cX0_glances 3 = .ok (.istore_n 2, 1) := by decide +kernel
theorem dX0_glances_4 : decode cX0_glances 4 = .ok (.iload_n 2, 1) := by decide +kernel
theorem dX0_glances_5 : decode cX0_glances 5 = .ok (.aload_n 0, 1) := by decide +kernel
theorem dX0_glances_6 : decode cX0_glances 6 = .ok (.getfield 12, 3) := by decide +kernel
theorem dX0_glances_9 : decode cX0_glances 9 = .ok (.getfield 63, 3) := by decide +kernel
theorem dX0_glances_12 : decode cX0_glances 12 = .ok (.if_icmp .ge 44, 3) := by decide +kernel
theorem dX0_glances_15 : decode cX0_glances 15 = .ok (.iconst 0, 1) := by decide +kernel
theorem dX0_glances_16 : decode cX0_glances 16 = .ok (.istore_n 3, 1) := by decide +kernel
theorem dX0_glances_17 : decode cX0_glances 17 = .ok (.iload_n 3, 1) := by decide +kernel
theorem dX0_glances_18 : decode cX0_glances 18 = .ok (.iload_n 2, 1) := by decide +kernel
theorem dX0_glances_19 : decode cX0_glances 19 = .ok (.if_icmp .ge 31, 3) := by decide +kernel
theorem dX0_glances_22 : decode cX0_glances 22 = .ok (.iload_n 1, 1) := by decide +kernel
theorem dX0_glances_23 : decode cX0_glances 23 = .ok (.aload_n 0, 1) := by decide +kernel
theorem dX0_glances_24 : decode cX0_glances 24 = .ok (.getfield 34, 3) := by decide +kernel
theorem dX0_glances_27 : decode cX0_glances 27 = .ok (.iload_n 2, 1) := by decide +kernel
theorem dX0_glances_28 : decode cX0_glances 28 = .ok (.iaload, 1) := by decide +kernel
theorem dX0_glances_29 : decode cX0_glances 29 = .ok (.iload_n 3, 1) := by decide +kernel
theorem dX0_glances_30 : decode cX0_glances 30 = .ok (.iushr, 1) := by decide +kernel
theorem dX0_glances_31 : decode cX0_glances 31 = .ok (.aload_n 0, 1) := by decide +kernel
theorem dX0_glances_32 : decode cX0_glances 32 = .ok (.getfield 34, 3) := by decide +kernel
theorem dX0_glances_35 : decode cX0_glances 35 = .ok (.iload_n 3, 1) := by decide +kernel
theorem dX0_glances_36 : decode cX0_glances 36 = .ok (.iaload, 1) := by decide +kernel
theorem dX0_glances_37 : decode cX0_glances 37 = .ok (.iload_n 2, 1) := by decide +kernel
theorem dX0_glances_38 : decode cX0_glances 38 = .ok (.iushr, 1) := by decide +kernel
theorem dX0_glances_39 : decode cX0_glances 39 = .ok (.iand, 1) := by decide +kernel
theorem dX0_glances_40 : decode cX0_glances 40 = .ok (.iconst 1, 1) := by decide +kernel
theorem dX0_glances_41 : decode cX0_glances 41 = .ok (.iand, 1) := by decide +kernel
theorem dX0_glances_42 : decode cX0_glances 42 = .ok (.iadd, 1) := by decide +kernel
theorem dX0_glances_43 : decode cX0_glances 43 = .ok (.istore_n 1, 1) := by decide +kernel
theorem dX0_glances_44 : decode cX0_glances 44 = .ok (.iinc 3 1, 3) := by decide +kernel
theorem dX0_glances_47 : decode cX0_glances 47 = .ok (.goto (-30), 3) := by decide +kernel
theorem dX0_glances_50 : decode cX0_glances 50 = .ok (.iinc 2 1, 3) := by decide +kernel
theorem dX0_glances_53 : decode cX0_glances 53 = .ok (.goto (-49), 3) := by decide +kernel
theorem dX0_glances_56 : decode cX0_glances 56 = .ok (.iload_n 1, 1) := by decide +kernel
theorem dX0_glances_57 : decode cX0_glances 57 = .ok (.ireturn, 1) := by decide +kernel
section
variable {p : Program} {l : Launch} {e : Env} {s : State} {m : MethodId} {args : Array Value} {below : List Frame} {meth : Method} {c : Code} {G : GG} {K : SK}
set_option maxHeartbeats 4000000 in
set_option maxRecDepth 100000 in
theorem wX0_drawStepsFrom_j97 (C : CX p s m args meth c cX0_drawStepsFrom 7 none RX0 G) (hs0 : s.heap.size = G.1 + K.1) (hL : Lay K)  (k2 : MM → Int32 → Int32 → Int32 → Option MM) (pp : MM) (hk2 : ∀ (M36 : MM) (y37 : Int32) (y38 : Int32) (y39 : Int32), k2 M36 y37 y38 y39 = some pp → Z p l e (rmo 0 0 0) s m args below meth c 7 G (MQ below (QC G none K pp) args s 0 0 (AG G)) K 0 0 M36 2 [(0, .ref (G.1 + 60)), (1, .int y37), (2, .int y38), (3, .int y39)] []) (M27 : MM) (y28 : Int32) (y29 : Int32) (y30 : Int32) (y31 : Int32) (y32 : Int32) (hf : fX0_drawStepsFrom_j97 k2 M27 y28 y29 y30 y31 y32 = some pp) : Z p l e (rmo 0 0 0) s m args below meth c 7 G (MQ below (QC G none K pp) args s 0 0 (AG G)) K 0 0 M27 97 [(0, .ref (G.1 + 60)), (1, .int y28), (2, .int y29), (3, .int y30)] [.int y32, .int y31, .ref (G.1 + 73)] := by
  unfold fX0_drawStepsFrom_j97 at hf
  replace hf := gd_out hf
  obtain ⟨g33, hf⟩ := hf
  refine z_iast C (lay_c73 hL) (inb_in g33) dX0_drawStepsFrom_97 ?_
  refine z_M (fun M34 e35 => ?_)
  replace hf := bnd_out e35 hf
  refine z_iinc C 3 (y30 + 1) [(3, .int (y30 + 1)), (0, .ref (G.1 + 60)), (1, .int y28), (2, .int y29)] dX0_drawStepsFrom_98 rfl rfl (by decide) rfl rfl ?_
  refine z_goto C 2 dX0_drawStepsFrom_101 (by decide) ?_
  refine z_lv (lv2 := [(0, .ref (G.1 + 60)), (1, .int y28), (2, .int y29), (3, .int (y30 + 1))]) [1, 2, 3, 0] rfl ?_
  exact hk2 M34 y28 y29 (y30 + 1)  hf
set_option maxHeartbeats 4000000 in
set_option maxRecDepth 100000 in
theorem wX0_drawStepsFrom_j59 (C : CX p s m args meth c cX0_drawStepsFrom 7 none RX0 G) (hs0 : s.heap.size = G.1 + K.1) (hL : Lay K)  (k2 : MM → Int32 → Int32 → Int32 → Option MM) (pp : MM) (hk2 : ∀ (M44 : MM) (y45 : Int32) (y46 : Int32) (y47 : Int32), k2 M44 y45 y46 y47 = some pp → Z p l e (rmo 0 0 0) s m args below meth c 7 G (MQ below (QC G none K pp) args s 0 0 (AG G)) K 0 0 M44 2 [(0, .ref (G.1 + 60)), (1, .int y45), (2, .int y46), (3, .int y47)] []) (M19 : MM) (y20 : Int32) (y21 : Int32) (y22 : Int32) (y23 : Int32) (y24 : Int32) (y25 : Int32) (hf : fX0_drawStepsFrom_j59 k2 M19 y20 y21 y22 y23 y24 y25 = some pp) : Z p l e (rmo 0 0 0) s m args below meth c 7 G (MQ below (QC G none K pp) args s 0 0 (AG G)) K 0 0 M19 59 [(0, .ref (G.1 + 60)), (1, .int y20), (2, .int y21), (3, .int y22), (4, .int y23), (5, .int y24)] [.int y25] := by
  unfold fX0_drawStepsFrom_j59 at hf
  refine z_istore C [(6, .int y25), (0, .ref (G.1 + 60)), (1, .int y20), (2, .int y21), (3, .int y22), (4, .int y23), (5, .int y24)] dX0_drawStepsFrom_59 (by decide) rfl rfl ?_
  refine z_aload_n C 1 0 dX0_drawStepsFrom_61 rfl rfl ?_
  refine z_getR C ok_X0 (lay_c60 hL) 4 (73) (by decide) rfl (lay_r60_4 hL) q_fl_X0_28 dX0_drawStepsFrom_62 ?_
  refine z_bipush C 64 dX0_drawStepsFrom_65 (by decide) ?_
  refine z_iload_n C 4 3 dX0_drawStepsFrom_67 rfl rfl ?_
  refine z_imul C dX0_drawStepsFrom_68 ?_
  refine z_aload_n C 1 0 dX0_drawStepsFrom_69 rfl rfl ?_
  refine z_getI C ok_X0 (lay_c60 hL) 5 (by decide) rfl q_fl_X0_48 dX0_drawStepsFrom_70 ?_
  refine z_iload_n C 3 2 dX0_drawStepsFrom_73 rfl rfl ?_
  refine z_imul C dX0_drawStepsFrom_74 ?_
  refine z_iadd C dX0_drawStepsFrom_75 ?_
  refine z_iload_n C 2 1 dX0_drawStepsFrom_76 rfl rfl ?_
  refine z_iadd C dX0_drawStepsFrom_77 ?_
  refine z_iload C 0 dX0_drawStepsFrom_78 rfl ?_
  refine z_if_eq C 96 dX0_drawStepsFrom_80 (by decide) (fun c26 => ?_) (fun c26 => ?_)
  · replace hf := ite_t c26 hf
    refine z_iconst C (-1) dX0_drawStepsFrom_96 (by decide) ?_
    refine z_lv (lv2 := [(0, .ref (G.1 + 60)), (1, .int y20), (2, .int y21), (3, .int y22)]) [1, 2, 3, 4] rfl ?_
    refine wX0_drawStepsFrom_j97 C hs0 hL _ pp ?_ M19 y20 y21 y22 (((64 * y22) + ((gI M19 60 5) * y21)) + y20) (-1) hf
    · intro M40 y41 y42 y43 hf
      exact hk2 M40 y41 y42 y43  hf
  · replace hf := ite_f c26 hf
    refine z_aload_n C 1 0 dX0_drawStepsFrom_83 rfl rfl ?_
    refine z_getI C ok_X0 (lay_c60 hL) 5 (by decide) rfl q_fl_X0_48 dX0_drawStepsFrom_84 ?_
    refine z_iload C 6 dX0_drawStepsFrom_87 rfl ?_
    refine z_imul C dX0_drawStepsFrom_89 ?_
    refine z_iload C 5 dX0_drawStepsFrom_90 rfl ?_
    refine z_iadd C dX0_drawStepsFrom_92 ?_
    refine z_goto C 97 dX0_drawStepsFrom_93 (by decide) ?_
    refine z_lv (lv2 := [(0, .ref (G.1 + 60)), (1, .int y20), (2, .int y21), (3, .int y22)]) [1, 2, 3, 4] rfl ?_
    refine wX0_drawStepsFrom_j97 C hs0 hL _ pp ?_ M19 y20 y21 y22 (((64 * y22) + ((gI M19 60 5) * y21)) + y20) (((gI M19 60 5) * y24) + y23) hf
    · intro M48 y49 y50 y51 hf
      exact hk2 M48 y49 y50 y51  hf
set_option maxHeartbeats 4000000 in
set_option maxRecDepth 100000 in
theorem wX0_drawStepsFrom_j58 (C : CX p s m args meth c cX0_drawStepsFrom 7 none RX0 G) (hs0 : s.heap.size = G.1 + K.1) (hL : Lay K)  (k2 : MM → Int32 → Int32 → Int32 → Option MM) (pp : MM) (hk2 : ∀ (M56 : MM) (y57 : Int32) (y58 : Int32) (y59 : Int32), k2 M56 y57 y58 y59 = some pp → Z p l e (rmo 0 0 0) s m args below meth c 7 G (MQ below (QC G none K pp) args s 0 0 (AG G)) K 0 0 M56 2 [(0, .ref (G.1 + 60)), (1, .int y57), (2, .int y58), (3, .int y59)] []) (M13 : MM) (y14 : Int32) (y15 : Int32) (y16 : Int32) (y17 : Int32) (y18 : Int32) (hf : fX0_drawStepsFrom_j58 k2 M13 y14 y15 y16 y17 y18 = some pp) : Z p l e (rmo 0 0 0) s m args below meth c 7 G (MQ below (QC G none K pp) args s 0 0 (AG G)) K 0 0 M13 58 [(0, .ref (G.1 + 60)), (1, .int y14), (2, .int y15), (3, .int y16), (4, .int y17), (5, .int y18)] [] := by
  unfold fX0_drawStepsFrom_j58 at hf
  refine z_iconst C 0 dX0_drawStepsFrom_58 (by decide) ?_
  refine wX0_drawStepsFrom_j59 C hs0 hL _ pp ?_ M13 y14 y15 y16 y17 y18 0 hf
  · intro M52 y53 y54 y55 hf
    exact hk2 M52 y53 y54 y55  hf
set_option maxHeartbeats 4000000 in
set_option maxRecDepth 100000 in
theorem wX0_drawStepsFrom_l2 (C : CX p s m args meth c cX0_drawStepsFrom 7 none RX0 G) (hs0 : s.heap.size = G.1 + K.1) (hL : Lay K)   (pp : MM)  : ∀ (n : Nat) (M1 : MM) (y2 : Int32) (y3 : Int32) (y4 : Int32) (hf : fX0_drawStepsFrom_l2 n M1 y2 y3 y4 = some pp), Z p l e (rmo 0 0 0) s m args below meth c 7 G (MQ below (QC G none K pp) args s 0 0 (AG G)) K 0 0 M1 2 [(0, .ref (G.1 + 60)), (1, .int y2), (2, .int y3), (3, .int y4)] [] := by
  intro n
  induction n with
  | zero => intro M1 y2 y3 y4 hf; exact nomatch (show (none : Option MM) = some pp from hf)
  | succ n ih =>
    intro M1 y2 y3 y4 hf
    rw [fX0_drawStepsFrom_l2.eq_2] at hf
    refine z_iload_n C 3 3 dX0_drawStepsFrom_2 rfl rfl ?_
    refine z_bipush C 8 dX0_drawStepsFrom_3 (by decide) ?_
    refine z_icmp_ge C 104 dX0_drawStepsFrom_5 (by decide) (fun c5 => ?_) (fun c5 => ?_)
    · replace hf := ite_t c5 hf
      cases hf
      exact z_vret C rfl dX0_drawStepsFrom_104
    · replace hf := ite_f c5 hf
      refine z_iload_n C 1 1 dX0_drawStepsFrom_8 rfl rfl ?_
      refine z_gets C 3 (by decide) q_fl_X0_74 dX0_drawStepsFrom_9 ?_
      refine z_iload_n C 3 3 dX0_drawStepsFrom_12 rfl rfl ?_
      replace hf := gd_out hf
      obtain ⟨g6, hf⟩ := hf
      refine z_tald C 3 (by decide) (inb_in g6) dX0_drawStepsFrom_13 ?_
      refine z_iadd C dX0_drawStepsFrom_14 ?_
      refine z_topi (fun v7 e8 => ?_)
      replace hf := bnd_out e8 hf
      refine z_istore C [(4, .int v7), (0, .ref (G.1 + 60)), (1, .int y2), (2, .int y3), (3, .int y4)] dX0_drawStepsFrom_15 (by decide) rfl rfl ?_
      refine z_iload_n C 3 2 dX0_drawStepsFrom_17 rfl rfl ?_
      refine z_gets C 4 (by decide) q_fl_X0_77 dX0_drawStepsFrom_18 ?_
      refine z_iload_n C 4 3 dX0_drawStepsFrom_21 rfl rfl ?_
      replace hf := gd_out hf
      obtain ⟨g9, hf⟩ := hf
      refine z_tald C 4 (by decide) (inb_in g9) dX0_drawStepsFrom_22 ?_
      refine z_iadd C dX0_drawStepsFrom_23 ?_
      refine z_topi (fun v10 e11 => ?_)
      replace hf := bnd_out e11 hf
      refine z_istore C [(5, .int v10), (4, .int v7), (0, .ref (G.1 + 60)), (1, .int y2), (2, .int y3), (3, .int y4)] dX0_drawStepsFrom_24 (by decide) rfl rfl ?_
      refine z_iload C 1 dX0_drawStepsFrom_26 rfl ?_
      refine z_if_lt C 58 dX0_drawStepsFrom_28 (by decide) (fun c12 => ?_) (fun c12 => ?_)
      · replace hf := ite_t c12 hf
        refine z_lv (lv2 := [(0, .ref (G.1 + 60)), (1, .int y2), (2, .int y3), (3, .int y4), (4, .int v7), (5, .int v10)]) [2, 3, 4, 5, 1, 0] rfl ?_
        refine wX0_drawStepsFrom_j58 C hs0 hL _ pp ?_ M1 y2 y3 y4 v7 v10 hf
        · intro M60 y61 y62 y63 hf
          exact ih M60 y61 y62 y63  hf
      · replace hf := ite_f c12 hf
        refine z_iload C 1 dX0_drawStepsFrom_31 rfl ?_
        refine z_aload_n C 2 0 dX0_drawStepsFrom_33 rfl rfl ?_
        refine z_getI C ok_X0 (lay_c60 hL) 5 (by decide) rfl q_fl_X0_48 dX0_drawStepsFrom_34 ?_
        refine z_icmp_ge C 58 dX0_drawStepsFrom_37 (by decide) (fun c64 => ?_) (fun c64 => ?_)
        · replace hf := ite_t c64 hf
          refine z_lv (lv2 := [(0, .ref (G.1 + 60)), (1, .int y2), (2, .int y3), (3, .int y4), (4, .int v7), (5, .int v10)]) [2, 3, 4, 5, 1, 0] rfl ?_
          refine wX0_drawStepsFrom_j58 C hs0 hL _ pp ?_ M1 y2 y3 y4 v7 v10 hf
          · intro M65 y66 y67 y68 hf
            exact ih M65 y66 y67 y68  hf
        · replace hf := ite_f c64 hf
          refine z_iload C 0 dX0_drawStepsFrom_40 rfl ?_
          refine z_if_lt C 58 dX0_drawStepsFrom_42 (by decide) (fun c69 => ?_) (fun c69 => ?_)
          · replace hf := ite_t c69 hf
            refine z_lv (lv2 := [(0, .ref (G.1 + 60)), (1, .int y2), (2, .int y3), (3, .int y4), (4, .int v7), (5, .int v10)]) [2, 3, 4, 5, 1, 0] rfl ?_
            refine wX0_drawStepsFrom_j58 C hs0 hL _ pp ?_ M1 y2 y3 y4 v7 v10 hf
            · intro M70 y71 y72 y73 hf
              exact ih M70 y71 y72 y73  hf
          · replace hf := ite_f c69 hf
            refine z_iload C 0 dX0_drawStepsFrom_45 rfl ?_
            refine z_aload_n C 2 0 dX0_drawStepsFrom_47 rfl rfl ?_
            refine z_getI C ok_X0 (lay_c60 hL) 6 (by decide) rfl q_fl_X0_53 dX0_drawStepsFrom_48 ?_
            refine z_icmp_ge C 58 dX0_drawStepsFrom_51 (by decide) (fun c74 => ?_) (fun c74 => ?_)
            · replace hf := ite_t c74 hf
              refine z_lv (lv2 := [(0, .ref (G.1 + 60)), (1, .int y2), (2, .int y3), (3, .int y4), (4, .int v7), (5, .int v10)]) [2, 3, 4, 5, 1, 0] rfl ?_
              refine wX0_drawStepsFrom_j58 C hs0 hL _ pp ?_ M1 y2 y3 y4 v7 v10 hf
              · intro M75 y76 y77 y78 hf
                exact ih M75 y76 y77 y78  hf
            · replace hf := ite_f c74 hf
              refine z_iconst C 1 dX0_drawStepsFrom_54 (by decide) ?_
              refine z_goto C 59 dX0_drawStepsFrom_55 (by decide) ?_
              refine z_lv (lv2 := [(0, .ref (G.1 + 60)), (1, .int y2), (2, .int y3), (3, .int y4), (4, .int v7), (5, .int v10)]) [2, 3, 4, 5, 1, 0] rfl ?_
              refine wX0_drawStepsFrom_j59 C hs0 hL _ pp ?_ M1 y2 y3 y4 v7 v10 1 hf
              · intro M79 y80 y81 y82 hf
                exact ih M79 y80 y81 y82  hf
set_option maxHeartbeats 4000000 in
set_option maxRecDepth 100000 in
theorem tX0_drawStepsFrom (l : Launch) (G : GG) {K : SK} (hL : Lay K) (M : MM) (x1 : Int32) (x2 : Int32) (pp : MM) (hf : fX0_drawStepsFrom M x1 x2 = some pp) : Ct l yX0_drawStepsFrom cX0_drawStepsFrom 7 none 0 0 0 G K M [.ref (G.1 + 60), .int x1, .int x2] none K pp := by
  refine z_enter (lv := [(0, .ref (G.1 + 60)), (1, .int x1), (2, .int x2)]) (by decide +kernel) (Nat.le_of_ble_eq_true rfl) rfl ?_
  intro p e s m args below meth c C hnm hs0
  replace C : CX p s m args meth c cX0_drawStepsFrom 7 none RX0 G := C
  unfold fX0_drawStepsFrom at hf
  refine z_iconst C 0 dX0_drawStepsFrom_0 (by decide) ?_
  refine z_istore_n C [(3, .int 0), (0, .ref (G.1 + 60)), (1, .int x1), (2, .int x2)] dX0_drawStepsFrom_1 rfl (by decide) rfl rfl ?_
  refine z_lv (lv2 := [(0, .ref (G.1 + 60)), (1, .int x1), (2, .int x2), (3, .int 0)]) [1, 2, 3, 0] rfl ?_
  exact wX0_drawStepsFrom_l2 C hs0 hL pp FU M x1 x2 0 hf
set_option maxHeartbeats 4000000 in
set_option maxRecDepth 100000 in
theorem wX0_drawSteps_l34 (C : CX p s m args meth c cX0_drawSteps 3 none RX0 G) (hs0 : s.heap.size = G.1 + K.1) (hL : Lay K)  (k54 : MM → Int32 → Option MM) (pp : MM) (hk54 : ∀ (M12 : MM) (y13 : Int32), k54 M12 y13 = some pp → Z p l e (rmo 1 0 0) s m args below meth c 3 G (MQ below (QC G none K pp) args s 0 0 (AG G)) K 0 0 M12 54 [(0, .ref (G.1 + 60)), (1, .int y13)] []) : ∀ (n : Nat) (M8 : MM) (y9 : Int32) (y10 : Int32) (hf : fX0_drawSteps_l34 k54 n M8 y9 y10 = some pp), Z p l e (rmo 1 0 0) s m args below meth c 3 G (MQ below (QC G none K pp) args s 0 0 (AG G)) K 0 0 M8 34 [(0, .ref (G.1 + 60)), (1, .int y9), (2, .int y10)] [] := by
  intro n
  induction n with
  | zero => intro M8 y9 y10 hf; exact nomatch (show (none : Option MM) = some pp from hf)
  | succ n ih =>
    intro M8 y9 y10 hf
    rw [fX0_drawSteps_l34.eq_2] at hf
    refine z_iload_n C 2 2 dX0_drawSteps_34 rfl rfl ?_
    refine z_aload_n C 0 0 dX0_drawSteps_35 rfl rfl ?_
    refine z_getI C ok_X0 (lay_c60 hL) 5 (by decide) rfl q_fl_X0_48 dX0_drawSteps_36 ?_
    refine z_icmp_ge C 54 dX0_drawSteps_39 (by decide) (fun c11 => ?_) (fun c11 => ?_)
    · replace hf := ite_t c11 hf
      refine z_lv (lv2 := [(0, .ref (G.1 + 60)), (1, .int y9)]) [0, 1] rfl ?_
      exact hk54 M8 y9  hf
    · replace hf := ite_f c11 hf
      refine z_aload_n C 0 0 dX0_drawSteps_42 rfl rfl ?_
      refine z_iload_n C 2 2 dX0_drawSteps_43 rfl rfl ?_
      refine z_iload_n C 1 1 dX0_drawSteps_44 rfl rfl ?_
      replace hf := bd_out hf
      obtain ⟨p14, e15, hf⟩ := hf
      refine z_cV0 C [] (tX0_drawStepsFrom l G hL M8 y10 y9 _ e15) lk_X0_drawStepsFrom ok_X0 (lay_c60 hL) q_ml_X0_70 rfl ⟨Nat.le_of_ble_eq_true rfl, Nat.le_of_ble_eq_true rfl⟩ rfl (Nat.le_of_ble_eq_true rfl) ⟨Nat.le_refl _, Nat.le_refl _⟩ dX0_drawSteps_45 ?_
      refine z_iinc C 2 (y10 + 1) [(2, .int (y10 + 1)), (0, .ref (G.1 + 60)), (1, .int y9)] dX0_drawSteps_48 rfl rfl (by decide) rfl rfl ?_
      refine z_goto C 34 dX0_drawSteps_51 (by decide) ?_
      refine z_lv (lv2 := [(0, .ref (G.1 + 60)), (1, .int y9), (2, .int (y10 + 1))]) [1, 2, 0] rfl ?_
      exact ih p14 y9 (y10 + 1)  hf
set_option maxHeartbeats 4000000 in
set_option maxRecDepth 100000 in
theorem wX0_drawSteps_l24 (C : CX p s m args meth c cX0_drawSteps 3 none RX0 G) (hs0 : s.heap.size = G.1 + K.1) (hL : Lay K)   (pp : MM)  : ∀ (n : Nat) (M5 : MM) (y6 : Int32) (hf : fX0_drawSteps_l24 n M5 y6 = some pp), Z p l e (rmo 1 0 0) s m args below meth c 3 G (MQ below (QC G none K pp) args s 0 0 (AG G)) K 0 0 M5 24 [(0, .ref (G.1 + 60)), (1, .int y6)] [] := by
  intro n
  induction n with
  | zero => intro M5 y6 hf; exact nomatch (show (none : Option MM) = some pp from hf)
  | succ n ih =>
    intro M5 y6 hf
    rw [fX0_drawSteps_l24.eq_2] at hf
    refine z_iload_n C 1 1 dX0_drawSteps_24 rfl rfl ?_
    refine z_aload_n C 0 0 dX0_drawSteps_25 rfl rfl ?_
    refine z_getI C ok_X0 (lay_c60 hL) 6 (by decide) rfl q_fl_X0_53 dX0_drawSteps_26 ?_
    refine z_icmp_ge C 60 dX0_drawSteps_29 (by decide) (fun c7 => ?_) (fun c7 => ?_)
    · replace hf := ite_t c7 hf
      cases hf
      exact z_vret C rfl dX0_drawSteps_60
    · replace hf := ite_f c7 hf
      refine z_iconst C 0 dX0_drawSteps_32 (by decide) ?_
      refine z_istore_n C [(2, .int 0), (0, .ref (G.1 + 60)), (1, .int y6)] dX0_drawSteps_33 rfl (by decide) rfl rfl ?_
      refine z_lv (lv2 := [(0, .ref (G.1 + 60)), (1, .int y6), (2, .int 0)]) [1, 2, 0] rfl ?_
      refine wX0_drawSteps_l34 C hs0 hL _ pp ?_ FU M5 y6 0 hf
      · intro M16 y17 hf
        refine z_iinc C 1 (y17 + 1) [(1, .int (y17 + 1)), (0, .ref (G.1 + 60))] dX0_drawSteps_54 rfl rfl (by decide) rfl rfl ?_
        refine z_goto C 24 dX0_drawSteps_57 (by decide) ?_
        refine z_lv (lv2 := [(0, .ref (G.1 + 60)), (1, .int (y17 + 1))]) [1, 0] rfl ?_
        exact ih M16 (y17 + 1)  hf
set_option maxHeartbeats 4000000 in
set_option maxRecDepth 100000 in
theorem tX0_drawSteps (l : Launch) (G : GG) {K : SK} (hL : Lay K) (M : MM)  (pp : MM) (hf : fX0_drawSteps M = some pp) : Ct l yX0_drawSteps cX0_drawSteps 3 none 1 0 0 G K M [.ref (G.1 + 60)] none K pp := by
  refine z_enter (lv := [(0, .ref (G.1 + 60))]) (by decide +kernel) (Nat.le_of_ble_eq_true rfl) rfl ?_
  intro p e s m args below meth c C hnm hs0
  replace C : CX p s m args meth c cX0_drawSteps 3 none RX0 G := C
  unfold fX0_drawSteps at hf
  refine z_aload_n C 0 0 dX0_drawSteps_0 rfl rfl ?_
  refine z_aload_n C 0 0 dX0_drawSteps_1 rfl rfl ?_
  refine z_getR C ok_X0 (lay_c60 hL) 0 (61) (by decide) rfl (lay_r60_0 hL) q_fl_X0_12 dX0_drawSteps_2 ?_
  refine z_getI C ok_X5 (lay_c61 hL) 0 (by decide) rfl q_fl_X0_52 dX0_drawSteps_5 ?_
  refine z_putI C ok_X0 (lay_c60 hL) 5 (by decide) rfl rfl rfl rfl q_fl_X0_48 dX0_drawSteps_8 ?_
  refine z_M (fun M1 e2 => ?_)
  replace hf := bnd_out e2 hf
  refine z_aload_n C 0 0 dX0_drawSteps_11 rfl rfl ?_
  refine z_aload_n C 0 0 dX0_drawSteps_12 rfl rfl ?_
  refine z_getR C ok_X0 (lay_c60 hL) 0 (61) (by decide) rfl (lay_r60_0 hL) q_fl_X0_12 dX0_drawSteps_13 ?_
  refine z_getI C ok_X5 (lay_c61 hL) 1 (by decide) rfl q_fl_X0_56 dX0_drawSteps_16 ?_
  refine z_putI C ok_X0 (lay_c60 hL) 6 (by decide) rfl rfl rfl rfl q_fl_X0_53 dX0_drawSteps_19 ?_
  refine z_M (fun M3 e4 => ?_)
  replace hf := bnd_out e4 hf
  refine z_iconst C 0 dX0_drawSteps_22 (by decide) ?_
  refine z_istore_n C [(1, .int 0), (0, .ref (G.1 + 60))] dX0_drawSteps_23 rfl (by decide) rfl rfl ?_
  refine z_lv (lv2 := [(0, .ref (G.1 + 60)), (1, .int 0)]) [1, 0] rfl ?_
  exact wX0_drawSteps_l24 C hs0 hL pp FU M3 0 hf
set_option maxHeartbeats 4000000 in
set_option maxRecDepth 100000 in
theorem tX0_isStirred (l : Launch) (G : GG) {K : SK} (hL : Lay K) (M : MM) (x1 : Int32) : Ct l yX0_isStirred cX0_isStirred 2 (some .boolean) 0 0 0 G K M [.ref (G.1 + 60), .int x1] (some (.int (fX0_isStirred M x1))) K M := by
  generalize hf : fX0_isStirred M x1 = pp
  refine z_enter (lv := [(0, .ref (G.1 + 60)), (1, .int x1)]) (by decide +kernel) (Nat.le_of_ble_eq_true rfl) rfl ?_
  intro p e s m args below meth c C hnm hs0
  replace C : CX p s m args meth c cX0_isStirred 2 (some .boolean) RX0 G := C
  unfold fX0_isStirred at hf
  refine z_aload_n C 0 0 dX0_isStirred_0 rfl rfl ?_
  refine z_getI C ok_X0 (lay_c60 hL) 7 (by decide) rfl q_fl_X0_60 dX0_isStirred_1 ?_
  refine z_iload_n C 1 1 dX0_isStirred_4 rfl rfl ?_
  refine z_iushr C dX0_isStirred_5 ?_
  refine z_iconst C 1 dX0_isStirred_6 (by decide) ?_
  refine z_iand C dX0_isStirred_7 ?_
  refine z_if_eq C 15 dX0_isStirred_8 (by decide) (fun c1 => ?_) (fun c1 => ?_)
  · replace hf := ite_t c1 hf
    refine z_iconst C 0 dX0_isStirred_15 (by decide) ?_
    cases hf
    exact z_zret C rfl nb0 dX0_isStirred_16
  · replace hf := ite_f c1 hf
    refine z_iconst C 1 dX0_isStirred_11 (by decide) ?_
    refine z_goto C 16 dX0_isStirred_12 (by decide) ?_
    cases hf
    exact z_zret C rfl nb1 dX0_isStirred_16
set_option maxHeartbeats 4000000 in
set_option maxRecDepth 100000 in
theorem tX0_stepFrom (l : Launch) (G : GG) {K : SK} (hL : Lay K) (M : MM) (x1 : Int32) (x2 : Int32) (pp : Int32) (hf : fX0_stepFrom M x1 x2 = some pp) : Ct l yX0_stepFrom cX0_stepFrom 3 (some .int) 0 0 0 G K M [.ref (G.1 + 60), .int x1, .int x2] (some (.int pp)) K M := by
  refine z_enter (lv := [(0, .ref (G.1 + 60)), (1, .int x1), (2, .int x2)]) (by decide +kernel) (Nat.le_of_ble_eq_true rfl) rfl ?_
  intro p e s m args below meth c C hnm hs0
  replace C : CX p s m args meth c cX0_stepFrom 3 (some .int) RX0 G := C
  unfold fX0_stepFrom at hf
  refine z_aload_n C 0 0 dX0_stepFrom_0 rfl rfl ?_
  refine z_getR C ok_X0 (lay_c60 hL) 4 (73) (by decide) rfl (lay_r60_4 hL) q_fl_X0_28 dX0_stepFrom_1 ?_
  refine z_bipush C 64 dX0_stepFrom_4 (by decide) ?_
  refine z_iload_n C 2 2 dX0_stepFrom_6 rfl rfl ?_
  refine z_imul C dX0_stepFrom_7 ?_
  refine z_iload_n C 1 1 dX0_stepFrom_8 rfl rfl ?_
  refine z_iadd C dX0_stepFrom_9 ?_
  replace hf := gd_out hf
  obtain ⟨g1, hf⟩ := hf
  refine z_iald C (lay_c73 hL) (inb_in g1) dX0_stepFrom_10 ?_
  cases hf
  exact z_iret C rfl dX0_stepFrom_11
set_option maxHeartbeats 4000000 in
set_option maxRecDepth 100000 in
theorem wX0_meets_l18 (C : CX p s m args meth c cX0_meets 5 (some .int) RX0 G) (hs0 : s.heap.size = G.1 + K.1) (hL : Lay K)  (k54 : MM → Int32 → Option (Int32 × MM)) (pp : (Int32 × MM)) (hk54 : ∀ (M19 : MM) (y20 : Int32), k54 M19 y20 = some pp → Z p l e (rmo 1 0 0) s m args below meth c 5 G (MQ below (QC G (some (.int pp.1)) K pp.2) args s 0 0 (AG G)) K 0 0 M19 54 [(0, .ref (G.1 + 60)), (3, .int y20)] []) : ∀ (n : Nat) (M4 : MM) (y5 : Int32) (y6 : Int32) (y7 : Int32) (y8 : Int32) (hf : fX0_meets_l18 k54 n M4 y5 y6 y7 y8 = some pp), Z p l e (rmo 1 0 0) s m args below meth c 5 G (MQ below (QC G (some (.int pp.1)) K pp.2) args s 0 0 (AG G)) K 0 0 M4 18 [(0, .ref (G.1 + 60)), (1, .int y5), (2, .int y6), (3, .int y7), (4, .int y8)] [] := by
  intro n
  induction n with
  | zero => intro M4 y5 y6 y7 y8 hf; exact nomatch (show (none : Option (Int32 × MM)) = some pp from hf)
  | succ n ih =>
    intro M4 y5 y6 y7 y8 hf
    rw [fX0_meets_l18.eq_2] at hf
    refine z_iload C 4 dX0_meets_18 rfl ?_
    refine z_bipush C 8 dX0_meets_20 (by decide) ?_
    refine z_icmp_ge C 77 dX0_meets_22 (by decide) (fun c9 => ?_) (fun c9 => ?_)
    · replace hf := ite_t c9 hf
      refine z_iconst C 1 dX0_meets_77 (by decide) ?_
      cases hf
      exact z_iret C rfl dX0_meets_78
    · replace hf := ite_f c9 hf
      refine z_iload_n C 3 3 dX0_meets_25 rfl rfl ?_
      refine z_iconst C (-1) dX0_meets_26 (by decide) ?_
      refine z_icmp_eq C 77 dX0_meets_27 (by decide) (fun c10 => ?_) (fun c10 => ?_)
      · replace hf := ite_t c10 hf
        refine z_iconst C 1 dX0_meets_77 (by decide) ?_
        cases hf
        exact z_iret C rfl dX0_meets_78
      · replace hf := ite_f c10 hf
        refine z_aload_n C 0 0 dX0_meets_30 rfl rfl ?_
        refine z_getR C ok_X0 (lay_c60 hL) 10 (76) (by decide) rfl (lay_r60_10 hL) q_fl_X0_37 dX0_meets_31 ?_
        refine z_iload_n C 1 1 dX0_meets_34 rfl rfl ?_
        refine z_dup2 C rfl rfl dX0_meets_35 ?_
        replace hf := gd_out hf
        obtain ⟨g11, hf⟩ := hf
        refine z_lald C (lay_c76 hL) (inb_in g11) dX0_meets_36 ?_
        refine z_lconst C 1 dX0_meets_37 (by decide) ?_
        refine z_iload_n C 3 3 dX0_meets_38 rfl rfl ?_
        refine z_lshl C dX0_meets_39 ?_
        refine z_lor C dX0_meets_40 ?_
        replace hf := gd_out hf
        obtain ⟨g12, hf⟩ := hf
        refine z_last C (lay_c76 hL) (inb_in g12) dX0_meets_41 ?_
        refine z_M (fun M13 e14 => ?_)
        replace hf := bnd_out e14 hf
        refine z_aload_n C 0 0 dX0_meets_42 rfl rfl ?_
        refine z_getR C ok_X0 (lay_c60 hL) 0 (61) (by decide) rfl (lay_r60_0 hL) q_fl_X0_12 dX0_meets_43 ?_
        refine z_getR C ok_X5 (lay_c61 hL) 11 (69) (by decide) rfl (lay_r61_11 hL) q_fl_X0_80 dX0_meets_46 ?_
        refine z_iload_n C 3 3 dX0_meets_49 rfl rfl ?_
        replace hf := gd_out hf
        obtain ⟨g15, hf⟩ := hf
        refine z_iald C (lay_c69 hL) (inb_in g15) dX0_meets_50 ?_
        refine z_if_eq C 64 dX0_meets_51 (by decide) (fun c16 => ?_) (fun c16 => ?_)
        · replace hf := ite_t c16 hf
          refine z_aload_n C 0 0 dX0_meets_64 rfl rfl ?_
          refine z_iload_n C 3 3 dX0_meets_65 rfl rfl ?_
          refine z_iload_n C 2 2 dX0_meets_66 rfl rfl ?_
          replace hf := bd_out hf
          obtain ⟨p17, e18, hf⟩ := hf
          refine z_cV1 C [] (tX0_stepFrom l G hL M13 y7 y6 _ e18) lk_X0_stepFrom ok_X0 (lay_c60 hL) q_ml_X0_98 rfl ⟨Nat.le_of_ble_eq_true rfl, Nat.le_of_ble_eq_true rfl⟩ rfl (Nat.le_of_ble_eq_true rfl) ⟨Nat.le_refl _, Nat.le_refl _⟩ dX0_meets_67 ?_
          refine z_istore_n C [(3, .int p17), (0, .ref (G.1 + 60)), (1, .int y5), (2, .int y6), (4, .int y8)] dX0_meets_70 rfl (by decide) rfl rfl ?_
          refine z_iinc C 4 (y8 + 1) [(4, .int (y8 + 1)), (3, .int p17), (0, .ref (G.1 + 60)), (1, .int y5), (2, .int y6)] dX0_meets_71 rfl rfl (by decide) rfl rfl ?_
          refine z_goto C 18 dX0_meets_74 (by decide) ?_
          refine z_lv (lv2 := [(0, .ref (G.1 + 60)), (1, .int y5), (2, .int y6), (3, .int p17), (4, .int (y8 + 1))]) [2, 3, 4, 1, 0] rfl ?_
          exact ih M13 y5 y6 p17 (y8 + 1)  hf
        · replace hf := ite_f c16 hf
          refine z_lv (lv2 := [(0, .ref (G.1 + 60)), (3, .int y7)]) [0, 3] rfl ?_
          exact hk54 M13 y7  hf
set_option maxHeartbeats 4000000 in
set_option maxRecDepth 100000 in
theorem tX0_meets (l : Launch) (G : GG) {K : SK} (hL : Lay K) (M : MM) (x1 : Int32) (x2 : Int32) (pp : (Int32 × MM)) (hf : fX0_meets M x1 x2 = some pp) : Ct l yX0_meets cX0_meets 5 (some .int) 1 0 0 G K M [.ref (G.1 + 60), .int x1, .int x2] (some (.int pp.1)) K pp.2 := by
  refine z_enter (lv := [(0, .ref (G.1 + 60)), (1, .int x1), (2, .int x2)]) (by decide +kernel) (Nat.le_of_ble_eq_true rfl) rfl ?_
  intro p e s m args below meth c C hnm hs0
  replace C : CX p s m args meth c cX0_meets 5 (some .int) RX0 G := C
  unfold fX0_meets at hf
  refine z_aload_n C 0 0 dX0_meets_0 rfl rfl ?_
  refine z_aload_n C 0 0 dX0_meets_1 rfl rfl ?_
  refine z_getR C ok_X0 (lay_c60 hL) 0 (61) (by decide) rfl (lay_r60_0 hL) q_fl_X0_12 dX0_meets_2 ?_
  refine z_getR C ok_X5 (lay_c61 hL) 7 (65) (by decide) rfl (lay_r61_7 hL) q_fl_X0_95 dX0_meets_5 ?_
  refine z_iload_n C 1 1 dX0_meets_8 rfl rfl ?_
  replace hf := gd_out hf
  obtain ⟨g1, hf⟩ := hf
  refine z_iald C (lay_c65 hL) (inb_in g1) dX0_meets_9 ?_
  refine z_iload_n C 2 2 dX0_meets_10 rfl rfl ?_
  replace hf := bd_out hf
  obtain ⟨p2, e3, hf⟩ := hf
  refine z_cV1 C [] (tX0_stepFrom l G hL M (gI M 65 (ix x1)) x2 _ e3) lk_X0_stepFrom ok_X0 (lay_c60 hL) q_ml_X0_98 rfl ⟨Nat.le_of_ble_eq_true rfl, Nat.le_of_ble_eq_true rfl⟩ rfl (Nat.le_of_ble_eq_true rfl) ⟨Nat.le_refl _, Nat.le_refl _⟩ dX0_meets_11 ?_
  refine z_istore_n C [(3, .int p2), (0, .ref (G.1 + 60)), (1, .int x1), (2, .int x2)] dX0_meets_14 rfl (by decide) rfl rfl ?_
  refine z_iconst C 0 dX0_meets_15 (by decide) ?_
  refine z_istore C [(4, .int 0), (3, .int p2), (0, .ref (G.1 + 60)), (1, .int x1), (2, .int x2)] dX0_meets_16 (by decide) rfl rfl ?_
  refine z_lv (lv2 := [(0, .ref (G.1 + 60)), (1, .int x1), (2, .int x2), (3, .int p2), (4, .int 0)]) [2, 3, 4, 1, 0] rfl ?_
  refine wX0_meets_l18 C hs0 hL _ pp ?_ FU M x1 x2 p2 0 hf
  · intro M21 y22 hf
    refine z_aload_n C 0 0 dX0_meets_54 rfl rfl ?_
    refine z_getR C ok_X0 (lay_c60 hL) 0 (61) (by decide) rfl (lay_r60_0 hL) q_fl_X0_12 dX0_meets_55 ?_
    refine z_getR C ok_X5 (lay_c61 hL) 11 (69) (by decide) rfl (lay_r61_11 hL) q_fl_X0_80 dX0_meets_58 ?_
    refine z_iload_n C 1 3 dX0_meets_61 rfl rfl ?_
    replace hf := gd_out hf
    obtain ⟨g23, hf⟩ := hf
    refine z_iald C (lay_c69 hL) (inb_in g23) dX0_meets_62 ?_
    cases hf
    exact z_iret C rfl dX0_meets_63
set_option maxHeartbeats 4000000 in
set_option maxRecDepth 100000 in
theorem tX0_opens (l : Launch) (G : GG) {K : SK} (hL : Lay K) (M : MM) (x1 : Int32) (x2 : Int32) (pp : Int32) (hf : fX0_opens M x1 x2 = some pp) : Ct l yX0_opens cX0_opens 5 (some .boolean) 0 0 0 G K M [.ref (G.1 + 60), .int x1, .int x2] (some (.int pp)) K M := by
  refine z_enter (lv := [(0, .ref (G.1 + 60)), (1, .int x1), (2, .int x2)]) (by decide +kernel) (Nat.le_of_ble_eq_true rfl) rfl ?_
  intro p e s m args below meth c C hnm hs0
  replace C : CX p s m args meth c cX0_opens 5 (some .boolean) RX0 G := C
  unfold fX0_opens at hf
  refine z_aload_n C 0 0 dX0_opens_0 rfl rfl ?_
  refine z_getR C ok_X0 (lay_c60 hL) 0 (61) (by decide) rfl (lay_r60_0 hL) q_fl_X0_12 dX0_opens_1 ?_
  refine z_getR C ok_X5 (lay_c61 hL) 6 (64) (by decide) rfl (lay_r61_6 hL) q_fl_X0_86 dX0_opens_4 ?_
  refine z_iload_n C 1 1 dX0_opens_7 rfl rfl ?_
  replace hf := gd_out hf
  obtain ⟨g1, hf⟩ := hf
  refine z_iald C (lay_c64 hL) (inb_in g1) dX0_opens_8 ?_
  refine z_topi (fun v2 e3 => ?_)
  replace hf := bnd_out e3 hf
  refine z_istore_n C [(3, .int v2), (0, .ref (G.1 + 60)), (1, .int x1), (2, .int x2)] dX0_opens_9 rfl (by decide) rfl rfl ?_
  refine z_iload_n C 3 2 dX0_opens_10 rfl rfl ?_
  refine z_aload_n C 1 0 dX0_opens_11 rfl rfl ?_
  refine z_getR C ok_X0 (lay_c60 hL) 0 (61) (by decide) rfl (lay_r60_0 hL) q_fl_X0_12 dX0_opens_12 ?_
  refine z_getR C ok_X5 (lay_c61 hL) 8 (66) (by decide) rfl (lay_r61_8 hL) q_fl_X0_83 dX0_opens_15 ?_
  refine z_iload_n C 2 1 dX0_opens_18 rfl rfl ?_
  replace hf := gd_out hf
  obtain ⟨g4, hf⟩ := hf
  refine z_iald C (lay_c66 hL) (inb_in g4) dX0_opens_19 ?_
  refine z_isub C dX0_opens_20 ?_
  refine z_bipush C 7 dX0_opens_21 (by decide) ?_
  refine z_iand C dX0_opens_23 ?_
  refine z_topi (fun v5 e6 => ?_)
  replace hf := bnd_out e6 hf
  refine z_istore C [(4, .int v5), (3, .int v2), (0, .ref (G.1 + 60)), (1, .int x1), (2, .int x2)] dX0_opens_24 (by decide) rfl rfl ?_
  refine z_iload_n C 1 3 dX0_opens_26 rfl rfl ?_
  refine z_if_eq C 35 dX0_opens_27 (by decide) (fun c7 => ?_) (fun c7 => ?_)
  · replace hf := ite_t c7 hf
    refine z_iconst C 1 dX0_opens_35 (by decide) ?_
    cases hf
    exact z_zret C rfl nb1 dX0_opens_36
  · replace hf := ite_f c7 hf
    refine z_iload C 0 dX0_opens_30 rfl ?_
    refine z_if_ne C 37 dX0_opens_32 (by decide) (fun c8 => ?_) (fun c8 => ?_)
    · replace hf := ite_f c8 hf
      refine z_iload_n C 1 3 dX0_opens_37 rfl rfl ?_
      refine z_iconst C 2 dX0_opens_38 (by decide) ?_
      refine z_icmp_ne C 61 dX0_opens_39 (by decide) (fun c9 => ?_) (fun c9 => ?_)
      · replace hf := ite_f c9 hf
        refine z_iload_n C 1 3 dX0_opens_61 rfl rfl ?_
        refine z_iconst C 3 dX0_opens_62 (by decide) ?_
        refine z_icmp_ne C 76 dX0_opens_63 (by decide) (fun c10 => ?_) (fun c10 => ?_)
        · replace hf := ite_f c10 hf
          refine z_iconst C 0 dX0_opens_76 (by decide) ?_
          cases hf
          exact z_zret C rfl nb0 dX0_opens_77
        · replace hf := ite_t c10 hf
          refine z_iload C 0 dX0_opens_66 rfl ?_
          refine z_iconst C 4 dX0_opens_68 (by decide) ?_
          refine z_icmp_ne C 76 dX0_opens_69 (by decide) (fun c11 => ?_) (fun c11 => ?_)
          · replace hf := ite_f c11 hf
            refine z_iconst C 0 dX0_opens_76 (by decide) ?_
            cases hf
            exact z_zret C rfl nb0 dX0_opens_77
          · replace hf := ite_t c11 hf
            refine z_iconst C 1 dX0_opens_72 (by decide) ?_
            refine z_goto C 77 dX0_opens_73 (by decide) ?_
            cases hf
            exact z_zret C rfl nb1 dX0_opens_77
      · replace hf := ite_t c9 hf
        refine z_iload C 0 dX0_opens_42 rfl ?_
        refine z_iconst C 1 dX0_opens_44 (by decide) ?_
        refine z_icmp_eq C 55 dX0_opens_45 (by decide) (fun c12 => ?_) (fun c12 => ?_)
        · replace hf := ite_t c12 hf
          refine z_iconst C 1 dX0_opens_55 (by decide) ?_
          refine z_goto C 60 dX0_opens_56 (by decide) ?_
          cases hf
          exact z_zret C rfl nb1 dX0_opens_60
        · replace hf := ite_f c12 hf
          refine z_iload C 0 dX0_opens_48 rfl ?_
          refine z_bipush C 7 dX0_opens_50 (by decide) ?_
          refine z_icmp_ne C 59 dX0_opens_52 (by decide) (fun c13 => ?_) (fun c13 => ?_)
          · replace hf := ite_f c13 hf
            refine z_iconst C 0 dX0_opens_59 (by decide) ?_
            cases hf
            exact z_zret C rfl nb0 dX0_opens_60
          · replace hf := ite_t c13 hf
            refine z_iconst C 1 dX0_opens_55 (by decide) ?_
            refine z_goto C 60 dX0_opens_56 (by decide) ?_
            cases hf
            exact z_zret C rfl nb1 dX0_opens_60
    · replace hf := ite_t c8 hf
      refine z_iconst C 1 dX0_opens_35 (by decide) ?_
      cases hf
      exact z_zret C rfl nb1 dX0_opens_36
set_option maxHeartbeats 4000000 in
set_option maxRecDepth 100000 in
theorem wX0_look_l32 (C : CX p s m args meth c cX0_look 4 none RX0 G) (hs0 : s.heap.size = G.1 + K.1) (hL : Lay K)   (pp : MM)  : ∀ (n : Nat) (M11 : MM) (y12 : Int32) (y13 : Int32) (hf : fX0_look_l32 n M11 y12 y13 = some pp), Z p l e (rmo 2 0 0) s m args below meth c 4 G (MQ below (QC G none K pp) args s 0 0 (AG G)) K 0 0 M11 32 [(0, .ref (G.1 + 60)), (1, .int y12), (2, .int y13)] [] := by
  intro n
  induction n with
  | zero => intro M11 y12 y13 hf; exact nomatch (show (none : Option MM) = some pp from hf)
  | succ n ih =>
    intro M11 y12 y13 hf
    rw [fX0_look_l32.eq_2] at hf
    refine z_iload_n C 2 2 dX0_look_32 rfl rfl ?_
    refine z_bipush C 8 dX0_look_33 (by decide) ?_
    refine z_icmp_ge C 108 dX0_look_35 (by decide) (fun c14 => ?_) (fun c14 => ?_)
    · replace hf := ite_t c14 hf
      cases hf
      exact z_vret C rfl dX0_look_108
    · replace hf := ite_f c14 hf
      refine z_aload_n C 0 0 dX0_look_38 rfl rfl ?_
      refine z_iload_n C 1 1 dX0_look_39 rfl rfl ?_
      refine z_iload_n C 2 2 dX0_look_40 rfl rfl ?_
      replace hf := bd_out hf
      obtain ⟨p15, e16, hf⟩ := hf
      refine z_cV1 C [] (tX0_opens l G hL M11 y12 y13 _ e16) lk_X0_opens ok_X0 (lay_c60 hL) q_ml_X0_106 rfl ⟨Nat.le_of_ble_eq_true rfl, Nat.le_of_ble_eq_true rfl⟩ rfl (Nat.le_of_ble_eq_true rfl) ⟨Nat.le_refl _, Nat.le_refl _⟩ dX0_look_41 ?_
      refine z_if_ne C 50 dX0_look_44 (by decide) (fun c17 => ?_) (fun c17 => ?_)
      · replace hf := ite_f c17 hf
        refine z_aload_n C 0 0 dX0_look_50 rfl rfl ?_
        refine z_iload_n C 1 1 dX0_look_51 rfl rfl ?_
        refine z_iload_n C 2 2 dX0_look_52 rfl rfl ?_
        replace hf := bd_out hf
        obtain ⟨p18, e19, hf⟩ := hf
        refine z_cV1 C [] (tX0_meets l G hL M11 y12 y13 _ e19) lk_X0_meets ok_X0 (lay_c60 hL) q_ml_X0_110 rfl ⟨Nat.le_of_ble_eq_true rfl, Nat.le_of_ble_eq_true rfl⟩ rfl (Nat.le_of_ble_eq_true rfl) ⟨Nat.le_refl _, Nat.le_refl _⟩ dX0_look_53 ?_
        refine z_istore_n C [(3, .int p18.1), (0, .ref (G.1 + 60)), (1, .int y12), (2, .int y13)] dX0_look_56 rfl (by decide) rfl rfl ?_
        refine z_iload_n C 0 3 dX0_look_57 rfl rfl ?_
        refine z_bipush C 20 dX0_look_58 (by decide) ?_
        refine z_icmp_lt C 81 dX0_look_60 (by decide) (fun c20 => ?_) (fun c20 => ?_)
        · replace hf := ite_t c20 hf
          refine z_iload_n C 0 3 dX0_look_81 rfl rfl ?_
          refine z_bipush C 10 dX0_look_82 (by decide) ?_
          refine z_icmp_lt C 102 dX0_look_84 (by decide) (fun c21 => ?_) (fun c21 => ?_)
          · replace hf := ite_t c21 hf
            refine z_iinc C 3 (y13 + 1) [(2, .int (y13 + 1)), (3, .int p18.1), (0, .ref (G.1 + 60)), (1, .int y12)] dX0_look_102 rfl rfl (by decide) rfl rfl ?_
            refine z_goto C 32 dX0_look_105 (by decide) ?_
            refine z_lv (lv2 := [(0, .ref (G.1 + 60)), (1, .int y12), (2, .int (y13 + 1))]) [2, 3, 0] rfl ?_
            exact ih p18.2 y12 (y13 + 1)  hf
          · replace hf := ite_f c21 hf
            refine z_aload_n C 1 0 dX0_look_87 rfl rfl ?_
            refine z_getR C ok_X0 (lay_c60 hL) 8 (74) (by decide) rfl (lay_r60_8 hL) q_fl_X0_31 dX0_look_88 ?_
            refine z_iload_n C 2 1 dX0_look_91 rfl rfl ?_
            refine z_dup2 C rfl rfl dX0_look_92 ?_
            replace hf := gd_out hf
            obtain ⟨g22, hf⟩ := hf
            refine z_iald C (lay_c74 hL) (inb_in g22) dX0_look_93 ?_
            refine z_iconst C 1 dX0_look_94 (by decide) ?_
            refine z_iload_n C 0 3 dX0_look_95 rfl rfl ?_
            refine z_bipush C 10 dX0_look_96 (by decide) ?_
            refine z_isub C dX0_look_98 ?_
            refine z_ishl C dX0_look_99 ?_
            refine z_ior C dX0_look_100 ?_
            replace hf := gd_out hf
            obtain ⟨g23, hf⟩ := hf
            refine z_iast C (lay_c74 hL) (inb_in g23) dX0_look_101 ?_
            refine z_M (fun M24 e25 => ?_)
            replace hf := bnd_out e25 hf
            refine z_iinc C 3 (y13 + 1) [(2, .int (y13 + 1)), (3, .int p18.1), (0, .ref (G.1 + 60)), (1, .int y12)] dX0_look_102 rfl rfl (by decide) rfl rfl ?_
            refine z_goto C 32 dX0_look_105 (by decide) ?_
            refine z_lv (lv2 := [(0, .ref (G.1 + 60)), (1, .int y12), (2, .int (y13 + 1))]) [2, 3, 0] rfl ?_
            exact ih M24 y12 (y13 + 1)  hf
        · replace hf := ite_f c20 hf
          refine z_aload_n C 1 0 dX0_look_63 rfl rfl ?_
          refine z_getR C ok_X0 (lay_c60 hL) 9 (75) (by decide) rfl (lay_r60_9 hL) q_fl_X0_34 dX0_look_64 ?_
          refine z_iload_n C 2 1 dX0_look_67 rfl rfl ?_
          refine z_dup2 C rfl rfl dX0_look_68 ?_
          replace hf := gd_out hf
          obtain ⟨g26, hf⟩ := hf
          refine z_iald C (lay_c75 hL) (inb_in g26) dX0_look_69 ?_
          refine z_iconst C 1 dX0_look_70 (by decide) ?_
          refine z_iload_n C 0 3 dX0_look_71 rfl rfl ?_
          refine z_bipush C 20 dX0_look_72 (by decide) ?_
          refine z_isub C dX0_look_74 ?_
          refine z_ishl C dX0_look_75 ?_
          refine z_ior C dX0_look_76 ?_
          replace hf := gd_out hf
          obtain ⟨g27, hf⟩ := hf
          refine z_iast C (lay_c75 hL) (inb_in g27) dX0_look_77 ?_
          refine z_M (fun M28 e29 => ?_)
          replace hf := bnd_out e29 hf
          refine z_goto C 102 dX0_look_78 (by decide) ?_
          refine z_iinc C 3 (y13 + 1) [(2, .int (y13 + 1)), (3, .int p18.1), (0, .ref (G.1 + 60)), (1, .int y12)] dX0_look_102 rfl rfl (by decide) rfl rfl ?_
          refine z_goto C 32 dX0_look_105 (by decide) ?_
          refine z_lv (lv2 := [(0, .ref (G.1 + 60)), (1, .int y12), (2, .int (y13 + 1))]) [2, 3, 0] rfl ?_
          exact ih M28 y12 (y13 + 1)  hf
      · replace hf := ite_t c17 hf
        refine z_goto C 102 dX0_look_47 (by decide) ?_
        refine z_iinc C 2 (y13 + 1) [(2, .int (y13 + 1)), (0, .ref (G.1 + 60)), (1, .int y12)] dX0_look_102 rfl rfl (by decide) rfl rfl ?_
        refine z_goto C 32 dX0_look_105 (by decide) ?_
        refine z_lv (lv2 := [(0, .ref (G.1 + 60)), (1, .int y12), (2, .int (y13 + 1))]) [1, 2, 0] rfl ?_
        exact ih M11 y12 (y13 + 1)  hf
set_option maxHeartbeats 4000000 in
set_option maxRecDepth 100000 in
theorem tX0_look (l : Launch) (G : GG) {K : SK} (hL : Lay K) (M : MM) (x1 : Int32) (pp : MM) (hf : fX0_look M x1 = some pp) : Ct l yX0_look cX0_look 4 none 2 0 0 G K M [.ref (G.1 + 60), .int x1] none K pp := by
  refine z_enter (lv := [(0, .ref (G.1 + 60)), (1, .int x1)]) (by decide +kernel) (Nat.le_of_ble_eq_true rfl) rfl ?_
  intro p e s m args below meth c C hnm hs0
  replace C : CX p s m args meth c cX0_look 4 none RX0 G := C
  unfold fX0_look at hf
  refine z_aload_n C 0 0 dX0_look_0 rfl rfl ?_
  refine z_getR C ok_X0 (lay_c60 hL) 8 (74) (by decide) rfl (lay_r60_8 hL) q_fl_X0_31 dX0_look_1 ?_
  refine z_iload_n C 1 1 dX0_look_4 rfl rfl ?_
  refine z_iconst C 0 dX0_look_5 (by decide) ?_
  replace hf := gd_out hf
  obtain ⟨g1, hf⟩ := hf
  refine z_iast C (lay_c74 hL) (inb_in g1) dX0_look_6 ?_
  refine z_M (fun M2 e3 => ?_)
  replace hf := bnd_out e3 hf
  refine z_aload_n C 0 0 dX0_look_7 rfl rfl ?_
  refine z_getR C ok_X0 (lay_c60 hL) 9 (75) (by decide) rfl (lay_r60_9 hL) q_fl_X0_34 dX0_look_8 ?_
  refine z_iload_n C 1 1 dX0_look_11 rfl rfl ?_
  refine z_iconst C 0 dX0_look_12 (by decide) ?_
  replace hf := gd_out hf
  obtain ⟨g4, hf⟩ := hf
  refine z_iast C (lay_c75 hL) (inb_in g4) dX0_look_13 ?_
  refine z_M (fun M5 e6 => ?_)
  replace hf := bnd_out e6 hf
  refine z_aload_n C 0 0 dX0_look_14 rfl rfl ?_
  refine z_getR C ok_X0 (lay_c60 hL) 10 (76) (by decide) rfl (lay_r60_10 hL) q_fl_X0_37 dX0_look_15 ?_
  refine z_iload_n C 1 1 dX0_look_18 rfl rfl ?_
  refine z_lconst C 0 dX0_look_19 (by decide) ?_
  replace hf := gd_out hf
  obtain ⟨g7, hf⟩ := hf
  refine z_last C (lay_c76 hL) (inb_in g7) dX0_look_20 ?_
  refine z_M (fun M8 e9 => ?_)
  replace hf := bnd_out e9 hf
  refine z_aload_n C 0 0 dX0_look_21 rfl rfl ?_
  refine z_iload_n C 1 1 dX0_look_22 rfl rfl ?_
  refine z_cV1 C [] (tX0_isStirred l G hL M8 x1) lk_X0_isStirred ok_X0 (lay_c60 hL) q_ml_X0_102 rfl ⟨Nat.le_of_ble_eq_true rfl, Nat.le_of_ble_eq_true rfl⟩ rfl (Nat.le_of_ble_eq_true rfl) ⟨Nat.le_refl _, Nat.le_refl _⟩ dX0_look_23 ?_
  refine z_if_eq C 30 dX0_look_26 (by decide) (fun c10 => ?_) (fun c10 => ?_)
  · replace hf := ite_t c10 hf
    refine z_iconst C 0 dX0_look_30 (by decide) ?_
    refine z_istore_n C [(2, .int 0), (0, .ref (G.1 + 60)), (1, .int x1)] dX0_look_31 rfl (by decide) rfl rfl ?_
    refine z_lv (lv2 := [(0, .ref (G.1 + 60)), (1, .int x1), (2, .int 0)]) [1, 2, 0] rfl ?_
    exact wX0_look_l32 C hs0 hL pp FU M8 x1 0 hf
  · replace hf := ite_f c10 hf
    cases hf
    exact z_vret C rfl dX0_look_29
set_option maxHeartbeats 4000000 in
set_option maxRecDepth 100000 in
theorem wX0_begin_l47 (C : CX p s m args meth c cX0_begin 3 none RX0 G) (hs0 : s.heap.size = G.1 + K.1) (hL : Lay K) (a1 : Nat) (h1 : Par K a1)  (pp : MM)  : ∀ (n : Nat) (M10 : MM) (y11 : Int32) (hf : fX0_begin_l47 a1 n M10 y11 = some pp), Z p l e (rmo 3 0 0) s m args below meth c 3 G (MQ below (QC G none K pp) args s 0 0 (AG G)) K 0 0 M10 47 [(0, .ref (G.1 + 60)), (2, .int y11)] [] := by
  intro n
  induction n with
  | zero => intro M10 y11 hf; exact nomatch (show (none : Option MM) = some pp from hf)
  | succ n ih =>
    intro M10 y11 hf
    rw [fX0_begin_l47.eq_2] at hf
    refine z_iload_n C 1 2 dX0_begin_47 rfl rfl ?_
    refine z_aload_n C 0 0 dX0_begin_48 rfl rfl ?_
    refine z_getR C ok_X0 (lay_c60 hL) 0 (61) (by decide) rfl (lay_r60_0 hL) q_fl_X0_12 dX0_begin_49 ?_
    refine z_getI C ok_X5 (lay_c61 hL) 3 (by decide) rfl q_fl_X0_63 dX0_begin_52 ?_
    refine z_icmp_ge C 69 dX0_begin_55 (by decide) (fun c12 => ?_) (fun c12 => ?_)
    · replace hf := ite_t c12 hf
      cases hf
      exact z_vret C rfl dX0_begin_69
    · replace hf := ite_f c12 hf
      refine z_aload_n C 0 0 dX0_begin_58 rfl rfl ?_
      refine z_iload_n C 1 2 dX0_begin_59 rfl rfl ?_
      replace hf := bd_out hf
      obtain ⟨p13, e14, hf⟩ := hf
      refine z_cV0 C [] (tX0_look l G hL M10 y11 _ e14) lk_X0_look ok_X0 (lay_c60 hL) q_ml_X0_66 rfl ⟨Nat.le_of_ble_eq_true rfl, Nat.le_of_ble_eq_true rfl⟩ rfl (Nat.le_of_ble_eq_true rfl) ⟨Nat.le_refl _, Nat.le_refl _⟩ dX0_begin_60 ?_
      refine z_iinc C 1 (y11 + 1) [(2, .int (y11 + 1)), (0, .ref (G.1 + 60))] dX0_begin_63 rfl rfl (by decide) rfl rfl ?_
      refine z_goto C 47 dX0_begin_66 (by decide) ?_
      refine z_lv (lv2 := [(0, .ref (G.1 + 60)), (2, .int (y11 + 1))]) [1, 0] rfl ?_
      exact ih p13 (y11 + 1)  hf
set_option maxHeartbeats 4000000 in
set_option maxRecDepth 100000 in
theorem wX0_begin_j40 (C : CX p s m args meth c cX0_begin 3 none RX0 G) (hs0 : s.heap.size = G.1 + K.1) (hL : Lay K) (a1 : Nat) (h1 : Par K a1)  (pp : MM)  (M7 : MM) (hf : fX0_begin_j40 a1 M7 = some pp) : Z p l e (rmo 3 0 0) s m args below meth c 3 G (MQ below (QC G none K pp) args s 0 0 (AG G)) K 0 0 M7 40 [(0, .ref (G.1 + 60))] [] := by
  unfold fX0_begin_j40 at hf
  refine z_aload_n C 0 0 dX0_begin_40 rfl rfl ?_
  refine z_iconst C 0 dX0_begin_41 (by decide) ?_
  refine z_putI C ok_X0 (lay_c60 hL) 7 (by decide) rfl rfl rfl rfl q_fl_X0_60 dX0_begin_42 ?_
  refine z_M (fun M8 e9 => ?_)
  replace hf := bnd_out e9 hf
  refine z_iconst C 0 dX0_begin_45 (by decide) ?_
  refine z_istore_n C [(2, .int 0), (0, .ref (G.1 + 60))] dX0_begin_46 rfl (by decide) rfl rfl ?_
  refine z_lv (lv2 := [(0, .ref (G.1 + 60)), (2, .int 0)]) [1, 0] rfl ?_
  exact wX0_begin_l47 C hs0 hL a1 h1 pp FU M8 0 hf
set_option maxHeartbeats 4000000 in
set_option maxRecDepth 100000 in
theorem wX0_begin_j36 (C : CX p s m args meth c cX0_begin 3 none RX0 G) (hs0 : s.heap.size = G.1 + K.1) (hL : Lay K) (a1 : Nat) (h1 : Par K a1)  (pp : MM)  (M4 : MM) (hf : fX0_begin_j36 a1 M4 = some pp) : Z p l e (rmo 3 0 0) s m args below meth c 3 G (MQ below (QC G none K pp) args s 0 0 (AG G)) K 0 0 M4 36 [(0, .ref (G.1 + 60))] [] := by
  unfold fX0_begin_j36 at hf
  refine z_aload_n C 0 0 dX0_begin_36 rfl rfl ?_
  replace hf := bd_out hf
  obtain ⟨p5, e6, hf⟩ := hf
  refine z_cV0 C [] (tX0_drawSteps l G hL M4  _ e6) lk_X0_drawSteps ok_X0 (lay_c60 hL) q_ml_X0_57 rfl ⟨Nat.le_of_ble_eq_true rfl, Nat.le_of_ble_eq_true rfl⟩ rfl (Nat.le_of_ble_eq_true rfl) ⟨Nat.le_refl _, Nat.le_refl _⟩ dX0_begin_37 ?_
  exact wX0_begin_j40 C hs0 hL a1 h1 pp p5 hf
set_option maxHeartbeats 4000000 in
set_option maxRecDepth 100000 in
theorem tX0_begin (l : Launch) (G : GG) {K : SK} (hL : Lay K) (M : MM) (a1 : Nat) (h1 : Par K a1) (pp : MM) (hf : fX0_begin M a1 = some pp) : Ct l yX0_begin cX0_begin 3 none 3 0 0 G K M [.ref (G.1 + 60), .ref (G.1 + a1)] none K pp := by
  refine z_enter (lv := [(0, .ref (G.1 + 60)), (1, .ref (G.1 + a1))]) (by decide +kernel) (Nat.le_of_ble_eq_true rfl) rfl ?_
  intro p e s m args below meth c C hnm hs0
  replace C : CX p s m args meth c cX0_begin 3 none RX0 G := C
  unfold fX0_begin at hf
  refine z_aload_n C 0 0 dX0_begin_0 rfl rfl ?_
  refine z_getR C ok_X0 (lay_c60 hL) 0 (61) (by decide) rfl (lay_r60_0 hL) q_fl_X0_12 dX0_begin_1 ?_
  refine z_aload_n C 1 1 dX0_begin_4 rfl rfl ?_
  replace hf := bd_out hf
  obtain ⟨p1, e2, hf⟩ := hf
  refine z_cV0 C [] (tX5_copyFrom l G hL M 61 (lay_Par61 hL) a1 h1 _ e2) lk_X5_copyFrom ok_X5 (lay_c61 hL) q_ml_X0_44 rfl ⟨Nat.le_of_ble_eq_true rfl, Nat.le_of_ble_eq_true rfl⟩ rfl (Nat.le_of_ble_eq_true rfl) ⟨Nat.le_refl _, Nat.le_refl _⟩ dX0_begin_5 ?_
  refine z_aload_n C 0 0 dX0_begin_8 rfl rfl ?_
  refine z_getI C ok_X0 (lay_c60 hL) 5 (by decide) rfl q_fl_X0_48 dX0_begin_9 ?_
  refine z_aload_n C 0 0 dX0_begin_12 rfl rfl ?_
  refine z_getR C ok_X0 (lay_c60 hL) 0 (61) (by decide) rfl (lay_r60_0 hL) q_fl_X0_12 dX0_begin_13 ?_
  refine z_getI C ok_X5 (lay_c61 hL) 0 (by decide) rfl q_fl_X0_52 dX0_begin_16 ?_
  refine z_icmp_ne C 36 dX0_begin_19 (by decide) (fun c3 => ?_) (fun c3 => ?_)
  · replace hf := ite_f c3 hf
    refine z_lv (lv2 := [(0, .ref (G.1 + 60))]) [0] rfl ?_
    exact wX0_begin_j36 C hs0 hL a1 h1 pp p1 hf
  · replace hf := ite_t c3 hf
    refine z_aload_n C 0 0 dX0_begin_22 rfl rfl ?_
    refine z_getI C ok_X0 (lay_c60 hL) 6 (by decide) rfl q_fl_X0_53 dX0_begin_23 ?_
    refine z_aload_n C 0 0 dX0_begin_26 rfl rfl ?_
    refine z_getR C ok_X0 (lay_c60 hL) 0 (61) (by decide) rfl (lay_r60_0 hL) q_fl_X0_12 dX0_begin_27 ?_
    refine z_getI C ok_X5 (lay_c61 hL) 1 (by decide) rfl q_fl_X0_56 dX0_begin_30 ?_
    refine z_icmp_eq C 40 dX0_begin_33 (by decide) (fun c15 => ?_) (fun c15 => ?_)
    · replace hf := ite_t c15 hf
      refine z_lv (lv2 := [(0, .ref (G.1 + 60))]) [0] rfl ?_
      exact wX0_begin_j40 C hs0 hL a1 h1 pp p1 hf
    · replace hf := ite_f c15 hf
      refine z_lv (lv2 := [(0, .ref (G.1 + 60))]) [0] rfl ?_
      exact wX0_begin_j36 C hs0 hL a1 h1 pp p1 hf
set_option maxHeartbeats 4000000 in
set_option maxRecDepth 100000 in
theorem tX0_squares (l : Launch) (G : GG) {K : SK} (hL : Lay K) (M : MM)  : Ct l yX0_squares cX0_squares 1 (some .int) 0 0 0 G K M [.ref (G.1 + 60)] (some (.int (fX0_squares M))) K M := by
  generalize hf : fX0_squares M = pp
  refine z_enter (lv := [(0, .ref (G.1 + 60))]) (by decide +kernel) (Nat.le_of_ble_eq_true rfl) rfl ?_
  intro p e s m args below meth c C hnm hs0
  replace C : CX p s m args meth c cX0_squares 1 (some .int) RX0 G := C
  unfold fX0_squares at hf
  refine z_aload_n C 0 0 dX0_squares_0 rfl rfl ?_
  refine z_getR C ok_X0 (lay_c60 hL) 0 (61) (by decide) rfl (lay_r60_0 hL) q_fl_X0_12 dX0_squares_1 ?_
  refine z_getI C ok_X5 (lay_c61 hL) 0 (by decide) rfl q_fl_X0_52 dX0_squares_4 ?_
  refine z_aload_n C 0 0 dX0_squares_7 rfl rfl ?_
  refine z_getR C ok_X0 (lay_c60 hL) 0 (61) (by decide) rfl (lay_r60_0 hL) q_fl_X0_12 dX0_squares_8 ?_
  refine z_getI C ok_X5 (lay_c61 hL) 1 (by decide) rfl q_fl_X0_56 dX0_squares_11 ?_
  refine z_imul C dX0_squares_14 ?_
  cases hf
  exact z_iret C rfl dX0_squares_15
set_option maxHeartbeats 4000000 in
set_option maxRecDepth 100000 in
theorem tX0_isFree (l : Launch) (G : GG) {K : SK} (hL : Lay K) (M : MM) (x1 : Int32) (pp : Int32) (hf : fX0_isFree M x1 = some pp) : Ct l yX0_isFree cX0_isFree 2 (some .boolean) 0 0 0 G K M [.ref (G.1 + 60), .int x1] (some (.int pp)) K M := by
  refine z_enter (lv := [(0, .ref (G.1 + 60)), (1, .int x1)]) (by decide +kernel) (Nat.le_of_ble_eq_true rfl) rfl ?_
  intro p e s m args below meth c C hnm hs0
  replace C : CX p s m args meth c cX0_isFree 2 (some .boolean) RX0 G := C
  unfold fX0_isFree at hf
  refine z_aload_n C 0 0 dX0_isFree_0 rfl rfl ?_
  refine z_getR C ok_X0 (lay_c60 hL) 0 (61) (by decide) rfl (lay_r60_0 hL) q_fl_X0_12 dX0_isFree_1 ?_
  refine z_getR C ok_X5 (lay_c61 hL) 11 (69) (by decide) rfl (lay_r61_11 hL) q_fl_X0_80 dX0_isFree_4 ?_
  refine z_iload_n C 1 1 dX0_isFree_7 rfl rfl ?_
  replace hf := gd_out hf
  obtain ⟨g1, hf⟩ := hf
  refine z_iald C (lay_c69 hL) (inb_in g1) dX0_isFree_8 ?_
  refine z_if_ne C 16 dX0_isFree_9 (by decide) (fun c2 => ?_) (fun c2 => ?_)
  · replace hf := ite_f c2 hf
    refine z_iconst C 0 dX0_isFree_16 (by decide) ?_
    cases hf
    exact z_zret C rfl nb0 dX0_isFree_17
  · replace hf := ite_t c2 hf
    refine z_iconst C 1 dX0_isFree_12 (by decide) ?_
    refine z_goto C 17 dX0_isFree_13 (by decide) ?_
    cases hf
    exact z_zret C rfl nb1 dX0_isFree_17
set_option maxHeartbeats 4000000 in
set_option maxRecDepth 100000 in
theorem wX0_lay_l12 (C : CX p s m args meth c cX0_lay 4 none RX0 G) (hs0 : s.heap.size = G.1 + K.1) (hL : Lay K)   (pp : MM)  : ∀ (n : Nat) (M4 : MM) (y5 : Int32) (y6 : Int32) (hf : fX0_lay_l12 n M4 y5 y6 = some pp), Z p l e (rmo 3 0 0) s m args below meth c 4 G (MQ below (QC G none K pp) args s 0 0 (AG G)) K 0 0 M4 12 [(0, .ref (G.1 + 60)), (1, .int y5), (3, .int y6)] [] := by
  intro n
  induction n with
  | zero => intro M4 y5 y6 hf; exact nomatch (show (none : Option MM) = some pp from hf)
  | succ n ih =>
    intro M4 y5 y6 hf
    rw [fX0_lay_l12.eq_2] at hf
    refine z_iload_n C 2 3 dX0_lay_12 rfl rfl ?_
    refine z_aload_n C 0 0 dX0_lay_13 rfl rfl ?_
    refine z_getR C ok_X0 (lay_c60 hL) 0 (61) (by decide) rfl (lay_r60_0 hL) q_fl_X0_12 dX0_lay_14 ?_
    refine z_getI C ok_X5 (lay_c61 hL) 3 (by decide) rfl q_fl_X0_63 dX0_lay_17 ?_
    refine z_icmp_ge C 49 dX0_lay_20 (by decide) (fun c7 => ?_) (fun c7 => ?_)
    · replace hf := ite_t c7 hf
      cases hf
      exact z_vret C rfl dX0_lay_49
    · replace hf := ite_f c7 hf
      refine z_aload_n C 0 0 dX0_lay_23 rfl rfl ?_
      refine z_getR C ok_X0 (lay_c60 hL) 10 (76) (by decide) rfl (lay_r60_10 hL) q_fl_X0_37 dX0_lay_24 ?_
      refine z_iload_n C 2 3 dX0_lay_27 rfl rfl ?_
      replace hf := gd_out hf
      obtain ⟨g8, hf⟩ := hf
      refine z_lald C (lay_c76 hL) (inb_in g8) dX0_lay_28 ?_
      refine z_iload_n C 1 1 dX0_lay_29 rfl rfl ?_
      refine z_lushr C dX0_lay_30 ?_
      refine z_lconst C 1 dX0_lay_31 (by decide) ?_
      refine z_land C dX0_lay_32 ?_
      refine z_lconst C 0 dX0_lay_33 (by decide) ?_
      refine z_lcmp C dX0_lay_34 ?_
      refine z_if_eq C 43 dX0_lay_35 (by decide) (fun c9 => ?_) (fun c9 => ?_)
      · replace hf := ite_t c9 hf
        refine z_iinc C 2 (y6 + 1) [(3, .int (y6 + 1)), (0, .ref (G.1 + 60)), (1, .int y5)] dX0_lay_43 rfl rfl (by decide) rfl rfl ?_
        refine z_goto C 12 dX0_lay_46 (by decide) ?_
        refine z_lv (lv2 := [(0, .ref (G.1 + 60)), (1, .int y5), (3, .int (y6 + 1))]) [1, 2, 0] rfl ?_
        exact ih M4 y5 (y6 + 1)  hf
      · replace hf := ite_f c9 hf
        refine z_aload_n C 0 0 dX0_lay_38 rfl rfl ?_
        refine z_iload_n C 2 3 dX0_lay_39 rfl rfl ?_
        replace hf := bd_out hf
        obtain ⟨p10, e11, hf⟩ := hf
        refine z_cV0 C [] (tX0_look l G hL M4 y6 _ e11) lk_X0_look ok_X0 (lay_c60 hL) q_ml_X0_66 rfl ⟨Nat.le_of_ble_eq_true rfl, Nat.le_of_ble_eq_true rfl⟩ rfl (Nat.le_of_ble_eq_true rfl) ⟨Nat.le_refl _, Nat.le_refl _⟩ dX0_lay_40 ?_
        refine z_iinc C 2 (y6 + 1) [(3, .int (y6 + 1)), (0, .ref (G.1 + 60)), (1, .int y5)] dX0_lay_43 rfl rfl (by decide) rfl rfl ?_
        refine z_goto C 12 dX0_lay_46 (by decide) ?_
        refine z_lv (lv2 := [(0, .ref (G.1 + 60)), (1, .int y5), (3, .int (y6 + 1))]) [1, 2, 0] rfl ?_
        exact ih p10 y5 (y6 + 1)  hf
set_option maxHeartbeats 4000000 in
set_option maxRecDepth 100000 in
theorem tX0_lay (l : Launch) (G : GG) {K : SK} (hL : Lay K) (M : MM) (x1 : Int32) (x2 : Int32) (pp : MM) (hf : fX0_lay M x1 x2 = some pp) : Ct l yX0_lay cX0_lay 4 none 3 0 0 G K M [.ref (G.1 + 60), .int x1, .int x2] none K pp := by
  refine z_enter (lv := [(0, .ref (G.1 + 60)), (1, .int x1), (2, .int x2)]) (by decide +kernel) (Nat.le_of_ble_eq_true rfl) rfl ?_
  intro p e s m args below meth c C hnm hs0
  replace C : CX p s m args meth c cX0_lay 4 none RX0 G := C
  unfold fX0_lay at hf
  refine z_aload_n C 0 0 dX0_lay_0 rfl rfl ?_
  refine z_getR C ok_X0 (lay_c60 hL) 0 (61) (by decide) rfl (lay_r60_0 hL) q_fl_X0_12 dX0_lay_1 ?_
  refine z_getR C ok_X5 (lay_c61 hL) 11 (69) (by decide) rfl (lay_r61_11 hL) q_fl_X0_80 dX0_lay_4 ?_
  refine z_iload_n C 1 1 dX0_lay_7 rfl rfl ?_
  refine z_iload_n C 2 2 dX0_lay_8 rfl rfl ?_
  replace hf := gd_out hf
  obtain ⟨g1, hf⟩ := hf
  refine z_iast C (lay_c69 hL) (inb_in g1) dX0_lay_9 ?_
  refine z_M (fun M2 e3 => ?_)
  replace hf := bnd_out e3 hf
  refine z_iconst C 0 dX0_lay_10 (by decide) ?_
  refine z_istore_n C [(3, .int 0), (0, .ref (G.1 + 60)), (1, .int x1), (2, .int x2)] dX0_lay_11 rfl (by decide) rfl rfl ?_
  refine z_lv (lv2 := [(0, .ref (G.1 + 60)), (1, .int x1), (3, .int 0)]) [1, 2, 0] rfl ?_
  exact wX0_lay_l12 C hs0 hL pp FU M2 x1 0 hf
set_option maxHeartbeats 4000000 in
set_option maxRecDepth 100000 in
theorem wX0_isInSight_l2 (C : CX p s m args meth c cX0_isInSight 3 (some .boolean) RX0 G) (hs0 : s.heap.size = G.1 + K.1) (hL : Lay K) (M : MM)  (pp : Int32)  : ∀ (n : Nat) (y1 : Int32) (y2 : Int32) (hf : fX0_isInSight_l2 M n y1 y2 = some pp), Z p l e (rmo 0 0 0) s m args below meth c 3 G (MQ below (QC G (some (.int pp)) K M) args s 0 0 (AG G)) K 0 0 M 2 [(0, .ref (G.1 + 60)), (1, .int y1), (2, .int y2)] [] := by
  intro n
  induction n with
  | zero => intro y1 y2 hf; exact nomatch (show (none : Option Int32) = some pp from hf)
  | succ n ih =>
    intro y1 y2 hf
    rw [fX0_isInSight_l2.eq_2] at hf
    refine z_iload_n C 2 2 dX0_isInSight_2 rfl rfl ?_
    refine z_aload_n C 0 0 dX0_isInSight_3 rfl rfl ?_
    refine z_getR C ok_X0 (lay_c60 hL) 0 (61) (by decide) rfl (lay_r60_0 hL) q_fl_X0_12 dX0_isInSight_4 ?_
    refine z_getI C ok_X5 (lay_c61 hL) 3 (by decide) rfl q_fl_X0_63 dX0_isInSight_7 ?_
    refine z_icmp_ge C 36 dX0_isInSight_10 (by decide) (fun c3 => ?_) (fun c3 => ?_)
    · replace hf := ite_t c3 hf
      refine z_iconst C 0 dX0_isInSight_36 (by decide) ?_
      cases hf
      exact z_zret C rfl nb0 dX0_isInSight_37
    · replace hf := ite_f c3 hf
      refine z_aload_n C 0 0 dX0_isInSight_13 rfl rfl ?_
      refine z_getR C ok_X0 (lay_c60 hL) 10 (76) (by decide) rfl (lay_r60_10 hL) q_fl_X0_37 dX0_isInSight_14 ?_
      refine z_iload_n C 2 2 dX0_isInSight_17 rfl rfl ?_
      replace hf := gd_out hf
      obtain ⟨g4, hf⟩ := hf
      refine z_lald C (lay_c76 hL) (inb_in g4) dX0_isInSight_18 ?_
      refine z_iload_n C 1 1 dX0_isInSight_19 rfl rfl ?_
      refine z_lushr C dX0_isInSight_20 ?_
      refine z_lconst C 1 dX0_isInSight_21 (by decide) ?_
      refine z_land C dX0_isInSight_22 ?_
      refine z_lconst C 0 dX0_isInSight_23 (by decide) ?_
      refine z_lcmp C dX0_isInSight_24 ?_
      refine z_if_eq C 30 dX0_isInSight_25 (by decide) (fun c5 => ?_) (fun c5 => ?_)
      · replace hf := ite_t c5 hf
        refine z_iinc C 2 (y2 + 1) [(2, .int (y2 + 1)), (0, .ref (G.1 + 60)), (1, .int y1)] dX0_isInSight_30 rfl rfl (by decide) rfl rfl ?_
        refine z_goto C 2 dX0_isInSight_33 (by decide) ?_
        refine z_lv (lv2 := [(0, .ref (G.1 + 60)), (1, .int y1), (2, .int (y2 + 1))]) [1, 2, 0] rfl ?_
        exact ih y1 (y2 + 1)  hf
      · replace hf := ite_f c5 hf
        refine z_iconst C 1 dX0_isInSight_28 (by decide) ?_
        cases hf
        exact z_zret C rfl nb1 dX0_isInSight_29
set_option maxHeartbeats 4000000 in
set_option maxRecDepth 100000 in
theorem tX0_isInSight (l : Launch) (G : GG) {K : SK} (hL : Lay K) (M : MM) (x1 : Int32) (pp : Int32) (hf : fX0_isInSight M x1 = some pp) : Ct l yX0_isInSight cX0_isInSight 3 (some .boolean) 0 0 0 G K M [.ref (G.1 + 60), .int x1] (some (.int pp)) K M := by
  refine z_enter (lv := [(0, .ref (G.1 + 60)), (1, .int x1)]) (by decide +kernel) (Nat.le_of_ble_eq_true rfl) rfl ?_
  intro p e s m args below meth c C hnm hs0
  replace C : CX p s m args meth c cX0_isInSight 3 (some .boolean) RX0 G := C
  unfold fX0_isInSight at hf
  refine z_iconst C 0 dX0_isInSight_0 (by decide) ?_
  refine z_istore_n C [(2, .int 0), (0, .ref (G.1 + 60)), (1, .int x1)] dX0_isInSight_1 rfl (by decide) rfl rfl ?_
  refine z_lv (lv2 := [(0, .ref (G.1 + 60)), (1, .int x1), (2, .int 0)]) [1, 2, 0] rfl ?_
  exact wX0_isInSight_l2 C hs0 hL M pp FU x1 0 hf
set_option maxHeartbeats 4000000 in
set_option maxRecDepth 100000 in
theorem tX0_face (l : Launch) (G : GG) {K : SK} (hL : Lay K) (M : MM) (x1 : Int32) (x2 : Int32) (pp : MM) (hf : fX0_face M x1 x2 = some pp) : Ct l yX0_face cX0_face 3 none 3 0 0 G K M [.ref (G.1 + 60), .int x1, .int x2] none K pp := by
  refine z_enter (lv := [(0, .ref (G.1 + 60)), (1, .int x1), (2, .int x2)]) (by decide +kernel) (Nat.le_of_ble_eq_true rfl) rfl ?_
  intro p e s m args below meth c C hnm hs0
  replace C : CX p s m args meth c cX0_face 3 none RX0 G := C
  unfold fX0_face at hf
  refine z_aload_n C 0 0 dX0_face_0 rfl rfl ?_
  refine z_getR C ok_X0 (lay_c60 hL) 0 (61) (by decide) rfl (lay_r60_0 hL) q_fl_X0_12 dX0_face_1 ?_
  refine z_getR C ok_X5 (lay_c61 hL) 8 (66) (by decide) rfl (lay_r61_8 hL) q_fl_X0_83 dX0_face_4 ?_
  refine z_iload_n C 1 1 dX0_face_7 rfl rfl ?_
  refine z_iload_n C 2 2 dX0_face_8 rfl rfl ?_
  replace hf := gd_out hf
  obtain ⟨g1, hf⟩ := hf
  refine z_iast C (lay_c66 hL) (inb_in g1) dX0_face_9 ?_
  refine z_M (fun M2 e3 => ?_)
  replace hf := bnd_out e3 hf
  refine z_aload_n C 0 0 dX0_face_10 rfl rfl ?_
  refine z_iload_n C 1 1 dX0_face_11 rfl rfl ?_
  replace hf := bd_out hf
  obtain ⟨p4, e5, hf⟩ := hf
  refine z_cV0 C [] (tX0_look l G hL M2 x1 _ e5) lk_X0_look ok_X0 (lay_c60 hL) q_ml_X0_66 rfl ⟨Nat.le_of_ble_eq_true rfl, Nat.le_of_ble_eq_true rfl⟩ rfl (Nat.le_of_ble_eq_true rfl) ⟨Nat.le_refl _, Nat.le_refl _⟩ dX0_face_12 ?_
  cases hf
  exact z_vret C rfl dX0_face_15
set_option maxHeartbeats 4000000 in
set_option maxRecDepth 100000 in
theorem tX0_stirOrCalm (l : Launch) (G : GG) {K : SK} (hL : Lay K) (M : MM) (x1 : Int32) (pp : MM) (hf : fX0_stirOrCalm M x1 = some pp) : Ct l yX0_stirOrCalm cX0_stirOrCalm 2 none 3 0 0 G K M [.ref (G.1 + 60), .int x1] none K pp := by
  refine z_enter (lv := [(0, .ref (G.1 + 60)), (1, .int x1)]) (by decide +kernel) (Nat.le_of_ble_eq_true rfl) rfl ?_
  intro p e s m args below meth c C hnm hs0
  replace C : CX p s m args meth c cX0_stirOrCalm 2 none RX0 G := C
  unfold fX0_stirOrCalm at hf
  refine z_aload_n C 0 0 dX0_stirOrCalm_0 rfl rfl ?_
  refine z_dup C rfl dX0_stirOrCalm_1 ?_
  refine z_getI C ok_X0 (lay_c60 hL) 7 (by decide) rfl q_fl_X0_60 dX0_stirOrCalm_2 ?_
  refine z_iconst C 1 dX0_stirOrCalm_5 (by decide) ?_
  refine z_iload_n C 1 1 dX0_stirOrCalm_6 rfl rfl ?_
  refine z_ishl C dX0_stirOrCalm_7 ?_
  refine z_ixor C dX0_stirOrCalm_8 ?_
  refine z_putI C ok_X0 (lay_c60 hL) 7 (by decide) rfl rfl rfl rfl q_fl_X0_60 dX0_stirOrCalm_9 ?_
  refine z_M (fun M1 e2 => ?_)
  replace hf := bnd_out e2 hf
  refine z_aload_n C 0 0 dX0_stirOrCalm_12 rfl rfl ?_
  refine z_iload_n C 1 1 dX0_stirOrCalm_13 rfl rfl ?_
  replace hf := bd_out hf
  obtain ⟨p3, e4, hf⟩ := hf
  refine z_cV0 C [] (tX0_look l G hL M1 x1 _ e4) lk_X0_look ok_X0 (lay_c60 hL) q_ml_X0_66 rfl ⟨Nat.le_of_ble_eq_true rfl, Nat.le_of_ble_eq_true rfl⟩ rfl (Nat.le_of_ble_eq_true rfl) ⟨Nat.le_refl _, Nat.le_refl _⟩ dX0_stirOrCalm_14 ?_
  cases hf
  exact z_vret C rfl dX0_stirOrCalm_17
set_option maxHeartbeats 4000000 in
set_option maxRecDepth 100000 in
theorem tX0_addSpoon (l : Launch) (G : GG) {K : SK} (hL : Lay K) (M : MM) (x1 : Int32) (pp : (Int32 × MM)) (hf : fX0_addSpoon M x1 = some pp) : Ct l yX0_addSpoon cX0_addSpoon 3 (some .int) 0 0 0 G K M [.ref (G.1 + 60), .int x1] (some (.int pp.1)) K pp.2 := by
  refine z_enter (lv := [(0, .ref (G.1 + 60)), (1, .int x1)]) (by decide +kernel) (Nat.le_of_ble_eq_true rfl) rfl ?_
  intro p e s m args below meth c C hnm hs0
  replace C : CX p s m args meth c cX0_addSpoon 3 (some .int) RX0 G := C
  unfold fX0_addSpoon at hf
  refine z_aload_n C 0 0 dX0_addSpoon_0 rfl rfl ?_
  refine z_getR C ok_X0 (lay_c60 hL) 0 (61) (by decide) rfl (lay_r60_0 hL) q_fl_X0_12 dX0_addSpoon_1 ?_
  refine z_getI C ok_X5 (lay_c61 hL) 3 (by decide) rfl q_fl_X0_63 dX0_addSpoon_4 ?_
  refine z_topi (fun v1 e2 => ?_)
  replace hf := bnd_out e2 hf
  refine z_istore_n C [(2, .int v1), (0, .ref (G.1 + 60)), (1, .int x1)] dX0_addSpoon_7 rfl (by decide) rfl rfl ?_
  refine z_iload_n C 0 2 dX0_addSpoon_8 rfl rfl ?_
  refine z_bipush C 8 dX0_addSpoon_9 (by decide) ?_
  refine z_icmp_lt C 16 dX0_addSpoon_11 (by decide) (fun c3 => ?_) (fun c3 => ?_)
  · replace hf := ite_t c3 hf
    refine z_aload_n C 1 0 dX0_addSpoon_16 rfl rfl ?_
    refine z_getR C ok_X0 (lay_c60 hL) 0 (61) (by decide) rfl (lay_r60_0 hL) q_fl_X0_12 dX0_addSpoon_17 ?_
    refine z_getR C ok_X5 (lay_c61 hL) 6 (64) (by decide) rfl (lay_r61_6 hL) q_fl_X0_86 dX0_addSpoon_20 ?_
    refine z_iload_n C 0 2 dX0_addSpoon_23 rfl rfl ?_
    refine z_iconst C 1 dX0_addSpoon_24 (by decide) ?_
    replace hf := gd_out hf
    obtain ⟨g4, hf⟩ := hf
    refine z_iast C (lay_c64 hL) (inb_in g4) dX0_addSpoon_25 ?_
    refine z_M (fun M5 e6 => ?_)
    replace hf := bnd_out e6 hf
    refine z_aload_n C 1 0 dX0_addSpoon_26 rfl rfl ?_
    refine z_getR C ok_X0 (lay_c60 hL) 0 (61) (by decide) rfl (lay_r60_0 hL) q_fl_X0_12 dX0_addSpoon_27 ?_
    refine z_getR C ok_X5 (lay_c61 hL) 9 (67) (by decide) rfl (lay_r61_9 hL) q_fl_X0_89 dX0_addSpoon_30 ?_
    refine z_iload_n C 0 2 dX0_addSpoon_33 rfl rfl ?_
    refine z_bipush C 9 dX0_addSpoon_34 (by decide) ?_
    replace hf := gd_out hf
    obtain ⟨g7, hf⟩ := hf
    refine z_iast C (lay_c67 hL) (inb_in g7) dX0_addSpoon_36 ?_
    refine z_M (fun M8 e9 => ?_)
    replace hf := bnd_out e9 hf
    refine z_aload_n C 1 0 dX0_addSpoon_37 rfl rfl ?_
    refine z_getR C ok_X0 (lay_c60 hL) 0 (61) (by decide) rfl (lay_r60_0 hL) q_fl_X0_12 dX0_addSpoon_38 ?_
    refine z_getR C ok_X5 (lay_c61 hL) 10 (68) (by decide) rfl (lay_r61_10 hL) q_fl_X0_92 dX0_addSpoon_41 ?_
    refine z_iload_n C 0 2 dX0_addSpoon_44 rfl rfl ?_
    refine z_iload_n C 2 1 dX0_addSpoon_45 rfl rfl ?_
    replace hf := gd_out hf
    obtain ⟨g10, hf⟩ := hf
    refine z_iast C (lay_c68 hL) (inb_in g10) dX0_addSpoon_46 ?_
    refine z_M (fun M11 e12 => ?_)
    replace hf := bnd_out e12 hf
    refine z_aload_n C 1 0 dX0_addSpoon_47 rfl rfl ?_
    refine z_getR C ok_X0 (lay_c60 hL) 0 (61) (by decide) rfl (lay_r60_0 hL) q_fl_X0_12 dX0_addSpoon_48 ?_
    refine z_iload_n C 0 2 dX0_addSpoon_51 rfl rfl ?_
    refine z_iconst C 1 dX0_addSpoon_52 (by decide) ?_
    refine z_iadd C dX0_addSpoon_53 ?_
    refine z_putI C ok_X5 (lay_c61 hL) 3 (by decide) rfl rfl rfl rfl q_fl_X0_63 dX0_addSpoon_54 ?_
    refine z_M (fun M13 e14 => ?_)
    replace hf := bnd_out e14 hf
    refine z_aload_n C 1 0 dX0_addSpoon_57 rfl rfl ?_
    refine z_getR C ok_X0 (lay_c60 hL) 10 (76) (by decide) rfl (lay_r60_10 hL) q_fl_X0_37 dX0_addSpoon_58 ?_
    refine z_iload_n C 0 2 dX0_addSpoon_61 rfl rfl ?_
    refine z_lconst C 0 dX0_addSpoon_62 (by decide) ?_
    replace hf := gd_out hf
    obtain ⟨g15, hf⟩ := hf
    refine z_last C (lay_c76 hL) (inb_in g15) dX0_addSpoon_63 ?_
    refine z_M (fun M16 e17 => ?_)
    replace hf := bnd_out e17 hf
    refine z_iload_n C 0 2 dX0_addSpoon_64 rfl rfl ?_
    cases hf
    exact z_iret C rfl dX0_addSpoon_65
  · replace hf := ite_f c3 hf
    refine z_iconst C (-1) dX0_addSpoon_14 (by decide) ?_
    cases hf
    exact z_iret C rfl dX0_addSpoon_15
set_option maxHeartbeats 4000000 in
set_option maxRecDepth 100000 in
theorem wX0_widen_l25 (C : CX p s m args meth c cX0_widen 5 (some .boolean) RX0 G) (hs0 : s.heap.size = G.1 + K.1) (hL : Lay K)  (k67 : MM → Int32 → Int32 → Int32 → Option (Int32 × MM)) (pp : (Int32 × MM)) (hk67 : ∀ (M16 : MM) (y17 : Int32) (y18 : Int32) (y19 : Int32), k67 M16 y17 y18 y19 = some pp → Z p l e (rmo 1 0 0) s m args below meth c 5 G (MQ below (QC G (some (.int pp.1)) K pp.2) args s 0 0 (AG G)) K 0 0 M16 67 [(0, .ref (G.1 + 60)), (1, .int y17), (2, .int y18), (3, .int y19)] []) : ∀ (n : Nat) (M10 : MM) (y11 : Int32) (y12 : Int32) (y13 : Int32) (y14 : Int32) (hf : fX0_widen_l25 k67 n M10 y11 y12 y13 y14 = some pp), Z p l e (rmo 1 0 0) s m args below meth c 5 G (MQ below (QC G (some (.int pp.1)) K pp.2) args s 0 0 (AG G)) K 0 0 M10 25 [(0, .ref (G.1 + 60)), (1, .int y11), (2, .int y12), (3, .int y13), (4, .int y14)] [] := by
  intro n
  induction n with
  | zero => intro M10 y11 y12 y13 y14 hf; exact nomatch (show (none : Option (Int32 × MM)) = some pp from hf)
  | succ n ih =>
    intro M10 y11 y12 y13 y14 hf
    rw [fX0_widen_l25.eq_2] at hf
    refine z_iload C 4 dX0_widen_25 rfl ?_
    refine z_aload_n C 0 0 dX0_widen_27 rfl rfl ?_
    refine z_getR C ok_X0 (lay_c60 hL) 0 (61) (by decide) rfl (lay_r60_0 hL) q_fl_X0_12 dX0_widen_28 ?_
    refine z_getI C ok_X5 (lay_c61 hL) 3 (by decide) rfl q_fl_X0_63 dX0_widen_31 ?_
    refine z_icmp_ge C 67 dX0_widen_34 (by decide) (fun c15 => ?_) (fun c15 => ?_)
    · replace hf := ite_t c15 hf
      refine z_lv (lv2 := [(0, .ref (G.1 + 60)), (1, .int y11), (2, .int y12), (3, .int y13)]) [0, 1, 2, 3] rfl ?_
      exact hk67 M10 y11 y12 y13  hf
    · replace hf := ite_f c15 hf
      refine z_aload_n C 0 0 dX0_widen_37 rfl rfl ?_
      refine z_getR C ok_X0 (lay_c60 hL) 9 (75) (by decide) rfl (lay_r60_9 hL) q_fl_X0_34 dX0_widen_38 ?_
      refine z_iload_n C 2 2 dX0_widen_41 rfl rfl ?_
      replace hf := gd_out hf
      obtain ⟨g20, hf⟩ := hf
      refine z_iald C (lay_c75 hL) (inb_in g20) dX0_widen_42 ?_
      refine z_iload C 4 dX0_widen_43 rfl ?_
      refine z_iushr C dX0_widen_45 ?_
      refine z_iconst C 1 dX0_widen_46 (by decide) ?_
      refine z_iand C dX0_widen_47 ?_
      refine z_if_eq C 61 dX0_widen_48 (by decide) (fun c21 => ?_) (fun c21 => ?_)
      · replace hf := ite_t c21 hf
        refine z_iinc C 4 (y14 + 1) [(4, .int (y14 + 1)), (0, .ref (G.1 + 60)), (1, .int y11), (2, .int y12), (3, .int y13)] dX0_widen_61 rfl rfl (by decide) rfl rfl ?_
        refine z_goto C 25 dX0_widen_64 (by decide) ?_
        refine z_lv (lv2 := [(0, .ref (G.1 + 60)), (1, .int y11), (2, .int y12), (3, .int y13), (4, .int (y14 + 1))]) [1, 2, 3, 4, 0] rfl ?_
        exact ih M10 y11 y12 y13 (y14 + 1)  hf
      · replace hf := ite_f c21 hf
        refine z_iload_n C 3 3 dX0_widen_51 rfl rfl ?_
        refine z_aload_n C 0 0 dX0_widen_52 rfl rfl ?_
        refine z_getR C ok_X0 (lay_c60 hL) 1 (70) (by decide) rfl (lay_r60_1 hL) q_fl_X0_18 dX0_widen_53 ?_
        refine z_iload C 4 dX0_widen_56 rfl ?_
        replace hf := gd_out hf
        obtain ⟨g22, hf⟩ := hf
        refine z_iald C (lay_c70 hL) (inb_in g22) dX0_widen_58 ?_
        refine z_ior C dX0_widen_59 ?_
        refine z_topi (fun v23 e24 => ?_)
        replace hf := bnd_out e24 hf
        refine z_istore_n C [(3, .int v23), (0, .ref (G.1 + 60)), (1, .int y11), (2, .int y12), (4, .int y14)] dX0_widen_60 rfl (by decide) rfl rfl ?_
        refine z_iinc C 4 (y14 + 1) [(4, .int (y14 + 1)), (3, .int v23), (0, .ref (G.1 + 60)), (1, .int y11), (2, .int y12)] dX0_widen_61 rfl rfl (by decide) rfl rfl ?_
        refine z_goto C 25 dX0_widen_64 (by decide) ?_
        refine z_lv (lv2 := [(0, .ref (G.1 + 60)), (1, .int y11), (2, .int y12), (3, .int v23), (4, .int (y14 + 1))]) [2, 3, 4, 1, 0] rfl ?_
        exact ih M10 y11 y12 v23 (y14 + 1)  hf
set_option maxHeartbeats 4000000 in
set_option maxRecDepth 100000 in
theorem wX0_widen_l4 (C : CX p s m args meth c cX0_widen 5 (some .boolean) RX0 G) (hs0 : s.heap.size = G.1 + K.1) (hL : Lay K)  (k92 : MM → Int32 → Option (Int32 × MM)) (pp : (Int32 × MM)) (hk92 : ∀ (M5 : MM) (y6 : Int32), k92 M5 y6 = some pp → Z p l e (rmo 1 0 0) s m args below meth c 5 G (MQ below (QC G (some (.int pp.1)) K pp.2) args s 0 0 (AG G)) K 0 0 M5 92 [(0, .ref (G.1 + 60)), (1, .int y6)] []) : ∀ (n : Nat) (M1 : MM) (y2 : Int32) (y3 : Int32) (hf : fX0_widen_l4 k92 n M1 y2 y3 = some pp), Z p l e (rmo 1 0 0) s m args below meth c 5 G (MQ below (QC G (some (.int pp.1)) K pp.2) args s 0 0 (AG G)) K 0 0 M1 4 [(0, .ref (G.1 + 60)), (1, .int y2), (2, .int y3)] [] := by
  intro n
  induction n with
  | zero => intro M1 y2 y3 hf; exact nomatch (show (none : Option (Int32 × MM)) = some pp from hf)
  | succ n ih =>
    intro M1 y2 y3 hf
    rw [fX0_widen_l4.eq_2] at hf
    refine z_iload_n C 2 2 dX0_widen_4 rfl rfl ?_
    refine z_aload_n C 0 0 dX0_widen_5 rfl rfl ?_
    refine z_getR C ok_X0 (lay_c60 hL) 0 (61) (by decide) rfl (lay_r60_0 hL) q_fl_X0_12 dX0_widen_6 ?_
    refine z_getI C ok_X5 (lay_c61 hL) 3 (by decide) rfl q_fl_X0_63 dX0_widen_9 ?_
    refine z_icmp_ge C 92 dX0_widen_12 (by decide) (fun c4 => ?_) (fun c4 => ?_)
    · replace hf := ite_t c4 hf
      refine z_lv (lv2 := [(0, .ref (G.1 + 60)), (1, .int y2)]) [0, 1] rfl ?_
      exact hk92 M1 y2  hf
    · replace hf := ite_f c4 hf
      refine z_aload_n C 0 0 dX0_widen_15 rfl rfl ?_
      refine z_getR C ok_X0 (lay_c60 hL) 1 (70) (by decide) rfl (lay_r60_1 hL) q_fl_X0_18 dX0_widen_16 ?_
      refine z_iload_n C 2 2 dX0_widen_19 rfl rfl ?_
      replace hf := gd_out hf
      obtain ⟨g7, hf⟩ := hf
      refine z_iald C (lay_c70 hL) (inb_in g7) dX0_widen_20 ?_
      refine z_topi (fun v8 e9 => ?_)
      replace hf := bnd_out e9 hf
      refine z_istore_n C [(3, .int v8), (0, .ref (G.1 + 60)), (1, .int y2), (2, .int y3)] dX0_widen_21 rfl (by decide) rfl rfl ?_
      refine z_iconst C 0 dX0_widen_22 (by decide) ?_
      refine z_istore C [(4, .int 0), (3, .int v8), (0, .ref (G.1 + 60)), (1, .int y2), (2, .int y3)] dX0_widen_23 (by decide) rfl rfl ?_
      refine z_lv (lv2 := [(0, .ref (G.1 + 60)), (1, .int y2), (2, .int y3), (3, .int v8), (4, .int 0)]) [2, 3, 4, 1, 0] rfl ?_
      refine wX0_widen_l25 C hs0 hL _ pp ?_ FU M1 y2 y3 v8 0 hf
      · intro M25 y26 y27 y28 hf
        refine z_aload_n C 0 0 dX0_widen_67 rfl rfl ?_
        refine z_getR C ok_X0 (lay_c60 hL) 11 (77) (by decide) rfl (lay_r60_11 hL) q_fl_X0_41 dX0_widen_68 ?_
        refine z_iload_n C 2 2 dX0_widen_71 rfl rfl ?_
        refine z_iload_n C 3 3 dX0_widen_72 rfl rfl ?_
        replace hf := gd_out hf
        obtain ⟨g29, hf⟩ := hf
        refine z_iast C (lay_c77 hL) (inb_in g29) dX0_widen_73 ?_
        refine z_M (fun M30 e31 => ?_)
        replace hf := bnd_out e31 hf
        refine z_iload_n C 3 3 dX0_widen_74 rfl rfl ?_
        refine z_aload_n C 0 0 dX0_widen_75 rfl rfl ?_
        refine z_getR C ok_X0 (lay_c60 hL) 1 (70) (by decide) rfl (lay_r60_1 hL) q_fl_X0_18 dX0_widen_76 ?_
        refine z_iload_n C 2 2 dX0_widen_79 rfl rfl ?_
        replace hf := gd_out hf
        obtain ⟨g32, hf⟩ := hf
        refine z_iald C (lay_c70 hL) (inb_in g32) dX0_widen_80 ?_
        refine z_icmp_eq C 86 dX0_widen_81 (by decide) (fun c33 => ?_) (fun c33 => ?_)
        · replace hf := ite_t c33 hf
          refine z_iinc C 2 (y27 + 1) [(2, .int (y27 + 1)), (0, .ref (G.1 + 60)), (1, .int y26), (3, .int y28)] dX0_widen_86 rfl rfl (by decide) rfl rfl ?_
          refine z_goto C 4 dX0_widen_89 (by decide) ?_
          refine z_lv (lv2 := [(0, .ref (G.1 + 60)), (1, .int y26), (2, .int (y27 + 1))]) [1, 2, 0] rfl ?_
          exact ih M30 y26 (y27 + 1)  hf
        · replace hf := ite_f c33 hf
          refine z_iconst C 1 dX0_widen_84 (by decide) ?_
          refine z_istore_n C [(1, .int 1), (0, .ref (G.1 + 60)), (2, .int y27), (3, .int y28)] dX0_widen_85 rfl (by decide) rfl rfl ?_
          refine z_iinc C 2 (y27 + 1) [(2, .int (y27 + 1)), (1, .int 1), (0, .ref (G.1 + 60)), (3, .int y28)] dX0_widen_86 rfl rfl (by decide) rfl rfl ?_
          refine z_goto C 4 dX0_widen_89 (by decide) ?_
          refine z_lv (lv2 := [(0, .ref (G.1 + 60)), (1, .int 1), (2, .int (y27 + 1))]) [2, 1, 0] rfl ?_
          exact ih M30 1 (y27 + 1)  hf
set_option maxHeartbeats 4000000 in
set_option maxRecDepth 100000 in
theorem tX0_widen (l : Launch) (G : GG) {K : SK} (hL : Lay K) (M : MM)  (pp : (Int32 × MM)) (hf : fX0_widen M = some pp) : Ct l yX0_widen cX0_widen 5 (some .boolean) 1 0 0 G K M [.ref (G.1 + 60)] (some (.int pp.1)) K pp.2 := by
  refine z_enter (lv := [(0, .ref (G.1 + 60))]) (by decide +kernel) (Nat.le_of_ble_eq_true rfl) rfl ?_
  intro p e s m args below meth c C hnm hs0
  replace C : CX p s m args meth c cX0_widen 5 (some .boolean) RX0 G := C
  unfold fX0_widen at hf
  refine z_iconst C 0 dX0_widen_0 (by decide) ?_
  refine z_istore_n C [(1, .int 0), (0, .ref (G.1 + 60))] dX0_widen_1 rfl (by decide) rfl rfl ?_
  refine z_iconst C 0 dX0_widen_2 (by decide) ?_
  refine z_istore_n C [(2, .int 0), (1, .int 0), (0, .ref (G.1 + 60))] dX0_widen_3 rfl (by decide) rfl rfl ?_
  refine z_lv (lv2 := [(0, .ref (G.1 + 60)), (1, .int 0), (2, .int 0)]) [2, 1, 0] rfl ?_
  refine wX0_widen_l4 C hs0 hL _ pp ?_ FU M 0 0 hf
  · intro M34 y35 hf
    refine z_aload_n C 0 0 dX0_widen_92 rfl rfl ?_
    refine z_getR C ok_X0 (lay_c60 hL) 11 (77) (by decide) rfl (lay_r60_11 hL) q_fl_X0_41 dX0_widen_93 ?_
    refine z_iconst C 0 dX0_widen_96 (by decide) ?_
    refine z_aload_n C 0 0 dX0_widen_97 rfl rfl ?_
    refine z_getR C ok_X0 (lay_c60 hL) 1 (70) (by decide) rfl (lay_r60_1 hL) q_fl_X0_18 dX0_widen_98 ?_
    refine z_iconst C 0 dX0_widen_101 (by decide) ?_
    refine z_aload_n C 0 0 dX0_widen_102 rfl rfl ?_
    refine z_getR C ok_X0 (lay_c60 hL) 0 (61) (by decide) rfl (lay_r60_0 hL) q_fl_X0_12 dX0_widen_103 ?_
    refine z_getI C ok_X5 (lay_c61 hL) 3 (by decide) rfl q_fl_X0_63 dX0_widen_106 ?_
    replace hf := gd_out hf
    obtain ⟨g36, hf⟩ := hf
    refine z_copyi C hs0 q_ml_X0_117 q_acn q_acs q_sys (lay_c77 hL) (lay_c70 hL) (by decide) (by decide) (cpok_0 g36) (cpok_1 g36 (by decide)) (cpok_1 g36 (by decide)) (fun _ _ => rfl) (Nat.le_of_ble_eq_true rfl) (Nat.le_of_ble_eq_true rfl) dX0_widen_109 ?_
    refine z_M (fun M37 e38 => ?_)
    replace hf := bnd_out e38 hf
    refine z_iload_n C 1 1 dX0_widen_112 rfl rfl ?_
    replace hf := gd_out hf
    obtain ⟨g39, hf⟩ := hf
    cases hf
    exact z_zret C rfl (isb_n g39) dX0_widen_113
set_option maxHeartbeats 4000000 in
set_option maxRecDepth 100000 in
theorem wX0_spread_l2 (C : CX p s m args meth c cX0_spread 3 (some .int) RX0 G) (hs0 : s.heap.size = G.1 + K.1) (hL : Lay K)  (k31 : MM → Int32 → Option (Int32 × MM)) (pp : (Int32 × MM)) (hk31 : ∀ (M5 : MM) (y6 : Int32), k31 M5 y6 = some pp → Z p l e (rmo 2 0 0) s m args below meth c 3 G (MQ below (QC G (some (.int pp.1)) K pp.2) args s 0 0 (AG G)) K 0 0 M5 31 [(0, .ref (G.1 + 60)), (1, .int y6)] []) : ∀ (n : Nat) (M1 : MM) (y2 : Int32) (y3 : Int32) (hf : fX0_spread_l2 k31 n M1 y2 y3 = some pp), Z p l e (rmo 2 0 0) s m args below meth c 3 G (MQ below (QC G (some (.int pp.1)) K pp.2) args s 0 0 (AG G)) K 0 0 M1 2 [(0, .ref (G.1 + 60)), (1, .int y2), (2, .int y3)] [] := by
  intro n
  induction n with
  | zero => intro M1 y2 y3 hf; exact nomatch (show (none : Option (Int32 × MM)) = some pp from hf)
  | succ n ih =>
    intro M1 y2 y3 hf
    rw [fX0_spread_l2.eq_2] at hf
    refine z_iload_n C 2 2 dX0_spread_2 rfl rfl ?_
    refine z_aload_n C 0 0 dX0_spread_3 rfl rfl ?_
    refine z_getR C ok_X0 (lay_c60 hL) 0 (61) (by decide) rfl (lay_r60_0 hL) q_fl_X0_12 dX0_spread_4 ?_
    refine z_getI C ok_X5 (lay_c61 hL) 3 (by decide) rfl q_fl_X0_63 dX0_spread_7 ?_
    refine z_icmp_ge C 31 dX0_spread_10 (by decide) (fun c4 => ?_) (fun c4 => ?_)
    · replace hf := ite_t c4 hf
      refine z_lv (lv2 := [(0, .ref (G.1 + 60)), (1, .int y2)]) [0, 1] rfl ?_
      exact hk31 M1 y2  hf
    · replace hf := ite_f c4 hf
      refine z_aload_n C 0 0 dX0_spread_13 rfl rfl ?_
      refine z_getR C ok_X0 (lay_c60 hL) 1 (70) (by decide) rfl (lay_r60_1 hL) q_fl_X0_18 dX0_spread_14 ?_
      refine z_iload_n C 2 2 dX0_spread_17 rfl rfl ?_
      refine z_aload_n C 0 0 dX0_spread_18 rfl rfl ?_
      refine z_getR C ok_X0 (lay_c60 hL) 8 (74) (by decide) rfl (lay_r60_8 hL) q_fl_X0_31 dX0_spread_19 ?_
      refine z_iload_n C 2 2 dX0_spread_22 rfl rfl ?_
      replace hf := gd_out hf
      obtain ⟨g7, hf⟩ := hf
      refine z_iald C (lay_c74 hL) (inb_in g7) dX0_spread_23 ?_
      replace hf := gd_out hf
      obtain ⟨g8, hf⟩ := hf
      refine z_iast C (lay_c70 hL) (inb_in g8) dX0_spread_24 ?_
      refine z_M (fun M9 e10 => ?_)
      replace hf := bnd_out e10 hf
      refine z_iinc C 2 (y3 + 1) [(2, .int (y3 + 1)), (0, .ref (G.1 + 60)), (1, .int y2)] dX0_spread_25 rfl rfl (by decide) rfl rfl ?_
      refine z_goto C 2 dX0_spread_28 (by decide) ?_
      refine z_lv (lv2 := [(0, .ref (G.1 + 60)), (1, .int y2), (2, .int (y3 + 1))]) [1, 2, 0] rfl ?_
      exact ih M9 y2 (y3 + 1)  hf
set_option maxHeartbeats 4000000 in
set_option maxRecDepth 100000 in
theorem wX0_spread_l33 (C : CX p s m args meth c cX0_spread 3 (some .int) RX0 G) (hs0 : s.heap.size = G.1 + K.1) (hL : Lay K)   (pp : (Int32 × MM))  : ∀ (n : Nat) (M13 : MM) (y14 : Int32) (y15 : Int32) (hf : fX0_spread_l33 n M13 y14 y15 = some pp), Z p l e (rmo 2 0 0) s m args below meth c 3 G (MQ below (QC G (some (.int pp.1)) K pp.2) args s 0 0 (AG G)) K 0 0 M13 33 [(0, .ref (G.1 + 60)), (1, .int y14), (2, .int y15)] [] := by
  intro n
  induction n with
  | zero => intro M13 y14 y15 hf; exact nomatch (show (none : Option (Int32 × MM)) = some pp from hf)
  | succ n ih =>
    intro M13 y14 y15 hf
    rw [fX0_spread_l33.eq_2] at hf
    refine z_iload_n C 2 2 dX0_spread_33 rfl rfl ?_
    refine z_iload_n C 1 1 dX0_spread_34 rfl rfl ?_
    refine z_icmp_ge C 51 dX0_spread_35 (by decide) (fun c16 => ?_) (fun c16 => ?_)
    · replace hf := ite_t c16 hf
      refine z_iload_n C 2 2 dX0_spread_51 rfl rfl ?_
      cases hf
      exact z_iret C rfl dX0_spread_52
    · replace hf := ite_f c16 hf
      refine z_aload_n C 0 0 dX0_spread_38 rfl rfl ?_
      replace hf := bd_out hf
      obtain ⟨p17, e18, hf⟩ := hf
      refine z_cV1 C [] (tX0_widen l G hL M13  _ e18) lk_X0_widen ok_X0 (lay_c60 hL) q_ml_X0_113 rfl ⟨Nat.le_of_ble_eq_true rfl, Nat.le_of_ble_eq_true rfl⟩ rfl (Nat.le_of_ble_eq_true rfl) ⟨Nat.le_refl _, Nat.le_refl _⟩ dX0_spread_39 ?_
      refine z_if_eq C 51 dX0_spread_42 (by decide) (fun c19 => ?_) (fun c19 => ?_)
      · replace hf := ite_t c19 hf
        refine z_iload_n C 2 2 dX0_spread_51 rfl rfl ?_
        cases hf
        exact z_iret C rfl dX0_spread_52
      · replace hf := ite_f c19 hf
        refine z_iinc C 2 (y15 + 1) [(2, .int (y15 + 1)), (0, .ref (G.1 + 60)), (1, .int y14)] dX0_spread_45 rfl rfl (by decide) rfl rfl ?_
        refine z_goto C 33 dX0_spread_48 (by decide) ?_
        refine z_lv (lv2 := [(0, .ref (G.1 + 60)), (1, .int y14), (2, .int (y15 + 1))]) [1, 2, 0] rfl ?_
        exact ih p17.2 y14 (y15 + 1)  hf
set_option maxHeartbeats 4000000 in
set_option maxRecDepth 100000 in
theorem tX0_spread (l : Launch) (G : GG) {K : SK} (hL : Lay K) (M : MM) (x1 : Int32) (pp : (Int32 × MM)) (hf : fX0_spread M x1 = some pp) : Ct l yX0_spread cX0_spread 3 (some .int) 2 0 0 G K M [.ref (G.1 + 60), .int x1] (some (.int pp.1)) K pp.2 := by
  refine z_enter (lv := [(0, .ref (G.1 + 60)), (1, .int x1)]) (by decide +kernel) (Nat.le_of_ble_eq_true rfl) rfl ?_
  intro p e s m args below meth c C hnm hs0
  replace C : CX p s m args meth c cX0_spread 3 (some .int) RX0 G := C
  unfold fX0_spread at hf
  refine z_iconst C 0 dX0_spread_0 (by decide) ?_
  refine z_istore_n C [(2, .int 0), (0, .ref (G.1 + 60)), (1, .int x1)] dX0_spread_1 rfl (by decide) rfl rfl ?_
  refine z_lv (lv2 := [(0, .ref (G.1 + 60)), (1, .int x1), (2, .int 0)]) [1, 2, 0] rfl ?_
  refine wX0_spread_l2 C hs0 hL _ pp ?_ FU M x1 0 hf
  · intro M11 y12 hf
    refine z_iconst C 0 dX0_spread_31 (by decide) ?_
    refine z_istore_n C [(2, .int 0), (0, .ref (G.1 + 60)), (1, .int y12)] dX0_spread_32 rfl (by decide) rfl rfl ?_
    refine z_lv (lv2 := [(0, .ref (G.1 + 60)), (1, .int y12), (2, .int 0)]) [1, 2, 0] rfl ?_
    exact wX0_spread_l33 C hs0 hL pp FU M11 y12 0 hf
set_option maxHeartbeats 4000000 in
set_option maxRecDepth 100000 in
theorem wX0_degreeOf_l8 (C : CX p s m args meth c cX0_degreeOf 4 (some .int) RX0 G) (hs0 : s.heap.size = G.1 + K.1) (hL : Lay K)   (pp : (Int32 × MM))  : ∀ (n : Nat) (M3 : MM) (y4 : Int32) (y5 : Int32) (y6 : Int32) (hf : fX0_degreeOf_l8 n M3 y4 y5 y6 = some pp), Z p l e (rmo 3 0 0) s m args below meth c 4 G (MQ below (QC G (some (.int pp.1)) K pp.2) args s 0 0 (AG G)) K 0 0 M3 8 [(0, .ref (G.1 + 60)), (1, .int y4), (2, .int y5), (3, .int y6)] [] := by
  intro n
  induction n with
  | zero => intro M3 y4 y5 y6 hf; exact nomatch (show (none : Option (Int32 × MM)) = some pp from hf)
  | succ n ih =>
    intro M3 y4 y5 y6 hf
    rw [fX0_degreeOf_l8.eq_2] at hf
    refine z_iload_n C 3 3 dX0_degreeOf_8 rfl rfl ?_
    refine z_bipush C 8 dX0_degreeOf_9 (by decide) ?_
    refine z_icmp_ge C 40 dX0_degreeOf_11 (by decide) (fun c7 => ?_) (fun c7 => ?_)
    · replace hf := ite_t c7 hf
      refine z_iconst C (-1) dX0_degreeOf_40 (by decide) ?_
      cases hf
      exact z_iret C rfl dX0_degreeOf_41
    · replace hf := ite_f c7 hf
      refine z_aload_n C 0 0 dX0_degreeOf_14 rfl rfl ?_
      refine z_getR C ok_X0 (lay_c60 hL) 1 (70) (by decide) rfl (lay_r60_1 hL) q_fl_X0_18 dX0_degreeOf_15 ?_
      refine z_iload_n C 1 1 dX0_degreeOf_18 rfl rfl ?_
      replace hf := gd_out hf
      obtain ⟨g8, hf⟩ := hf
      refine z_iald C (lay_c70 hL) (inb_in g8) dX0_degreeOf_19 ?_
      refine z_iload_n C 2 2 dX0_degreeOf_20 rfl rfl ?_
      refine z_iushr C dX0_degreeOf_21 ?_
      refine z_iconst C 1 dX0_degreeOf_22 (by decide) ?_
      refine z_iand C dX0_degreeOf_23 ?_
      refine z_if_eq C 29 dX0_degreeOf_24 (by decide) (fun c9 => ?_) (fun c9 => ?_)
      · replace hf := ite_t c9 hf
        refine z_aload_n C 0 0 dX0_degreeOf_29 rfl rfl ?_
        replace hf := bd_out hf
        obtain ⟨p10, e11, hf⟩ := hf
        refine z_cV1 C [] (tX0_widen l G hL M3  _ e11) lk_X0_widen ok_X0 (lay_c60 hL) q_ml_X0_113 rfl ⟨Nat.le_of_ble_eq_true rfl, Nat.le_of_ble_eq_true rfl⟩ rfl (Nat.le_of_ble_eq_true rfl) ⟨Nat.le_refl _, Nat.le_refl _⟩ dX0_degreeOf_30 ?_
        refine z_pop C rfl dX0_degreeOf_33 ?_
        refine z_iinc C 3 (y6 + 1) [(3, .int (y6 + 1)), (0, .ref (G.1 + 60)), (1, .int y4), (2, .int y5)] dX0_degreeOf_34 rfl rfl (by decide) rfl rfl ?_
        refine z_goto C 8 dX0_degreeOf_37 (by decide) ?_
        refine z_lv (lv2 := [(0, .ref (G.1 + 60)), (1, .int y4), (2, .int y5), (3, .int (y6 + 1))]) [1, 2, 3, 0] rfl ?_
        exact ih p10.2 y4 y5 (y6 + 1)  hf
      · replace hf := ite_f c9 hf
        refine z_iload_n C 3 3 dX0_degreeOf_27 rfl rfl ?_
        cases hf
        exact z_iret C rfl dX0_degreeOf_28
set_option maxHeartbeats 4000000 in
set_option maxRecDepth 100000 in
theorem tX0_degreeOf (l : Launch) (G : GG) {K : SK} (hL : Lay K) (M : MM) (x1 : Int32) (x2 : Int32) (pp : (Int32 × MM)) (hf : fX0_degreeOf M x1 x2 = some pp) : Ct l yX0_degreeOf cX0_degreeOf 4 (some .int) 3 0 0 G K M [.ref (G.1 + 60), .int x1, .int x2] (some (.int pp.1)) K pp.2 := by
  refine z_enter (lv := [(0, .ref (G.1 + 60)), (1, .int x1), (2, .int x2)]) (by decide +kernel) (Nat.le_of_ble_eq_true rfl) rfl ?_
  intro p e s m args below meth c C hnm hs0
  replace C : CX p s m args meth c cX0_degreeOf 4 (some .int) RX0 G := C
  unfold fX0_degreeOf at hf
  refine z_aload_n C 0 0 dX0_degreeOf_0 rfl rfl ?_
  refine z_iconst C 0 dX0_degreeOf_1 (by decide) ?_
  replace hf := bd_out hf
  obtain ⟨p1, e2, hf⟩ := hf
  refine z_cV1 C [] (tX0_spread l G hL M 0 _ e2) lk_X0_spread ok_X0 (lay_c60 hL) q_ml_X0_123 rfl ⟨Nat.le_of_ble_eq_true rfl, Nat.le_of_ble_eq_true rfl⟩ rfl (Nat.le_of_ble_eq_true rfl) ⟨Nat.le_refl _, Nat.le_refl _⟩ dX0_degreeOf_2 ?_
  refine z_pop C rfl dX0_degreeOf_5 ?_
  refine z_iconst C 0 dX0_degreeOf_6 (by decide) ?_
  refine z_istore_n C [(3, .int 0), (0, .ref (G.1 + 60)), (1, .int x1), (2, .int x2)] dX0_degreeOf_7 rfl (by decide) rfl rfl ?_
  refine z_lv (lv2 := [(0, .ref (G.1 + 60)), (1, .int x1), (2, .int x2), (3, .int 0)]) [1, 2, 3, 0] rfl ?_
  exact wX0_degreeOf_l8 C hs0 hL pp FU p1.2 x1 x2 0 hf
set_option maxHeartbeats 4000000 in
set_option maxRecDepth 100000 in
theorem wX0_headsIn_l40 (C : CX p s m args meth c cX0_headsIn 5 (some .int) RX0 G) (hs0 : s.heap.size = G.1 + K.1) (hL : Lay K) (M : MM) (a2 : Nat) (h2 : Lw K a2) (k87 : Int32 → Option Int32) (pp : Int32) (hk87 : ∀ (y8 : Int32), k87 y8 = some pp → Z p l e (rmo 1 0 0) s m args below meth c 5 G (MQ below (QC G (some (.int pp)) K M) args s 0 0 (AG G)) K 0 0 M 87 [(3, .int y8)] []) : ∀ (n : Nat) (y4 : Int32) (y5 : Int32) (y6 : Int32) (hf : fX0_headsIn_l40 M a2 k87 n y4 y5 y6 = some pp), Z p l e (rmo 1 0 0) s m args below meth c 5 G (MQ below (QC G (some (.int pp)) K M) args s 0 0 (AG G)) K 0 0 M 40 [(0, .ref (G.1 + 60)), (1, .int y4), (3, .int y5), (4, .int y6)] [] := by
  intro n
  induction n with
  | zero => intro y4 y5 y6 hf; exact nomatch (show (none : Option Int32) = some pp from hf)
  | succ n ih =>
    intro y4 y5 y6 hf
    rw [fX0_headsIn_l40.eq_2] at hf
    refine z_iload C 3 dX0_headsIn_40 rfl ?_
    refine z_aload_n C 0 0 dX0_headsIn_42 rfl rfl ?_
    refine z_getR C ok_X0 (lay_c60 hL) 0 (61) (by decide) rfl (lay_r60_0 hL) q_fl_X0_12 dX0_headsIn_43 ?_
    refine z_getI C ok_X5 (lay_c61 hL) 2 (by decide) rfl q_fl_X0_141 dX0_headsIn_46 ?_
    refine z_icmp_ge C 87 dX0_headsIn_49 (by decide) (fun c7 => ?_) (fun c7 => ?_)
    · replace hf := ite_t c7 hf
      refine z_lv (lv2 := [(3, .int y5)]) [2] rfl ?_
      exact hk87 y5  hf
    · replace hf := ite_f c7 hf
      refine z_aload_n C 0 0 dX0_headsIn_52 rfl rfl ?_
      refine z_getR C ok_X0 (lay_c60 hL) 1 (70) (by decide) rfl (lay_r60_1 hL) q_fl_X0_18 dX0_headsIn_53 ?_
      refine z_iload_n C 1 1 dX0_headsIn_56 rfl rfl ?_
      replace hf := gd_out hf
      obtain ⟨g9, hf⟩ := hf
      refine z_iald C (lay_c70 hL) (inb_in g9) dX0_headsIn_57 ?_
      refine z_iload C 3 dX0_headsIn_58 rfl ?_
      refine z_iushr C dX0_headsIn_60 ?_
      refine z_iconst C 1 dX0_headsIn_61 (by decide) ?_
      refine z_iand C dX0_headsIn_62 ?_
      refine z_if_eq C 81 dX0_headsIn_63 (by decide) (fun c10 => ?_) (fun c10 => ?_)
      · replace hf := ite_t c10 hf
        refine z_iinc C 3 (y6 + 1) [(4, .int (y6 + 1)), (0, .ref (G.1 + 60)), (1, .int y4), (3, .int y5)] dX0_headsIn_81 rfl rfl (by decide) rfl rfl ?_
        refine z_goto C 40 dX0_headsIn_84 (by decide) ?_
        refine z_lv (lv2 := [(0, .ref (G.1 + 60)), (1, .int y4), (3, .int y5), (4, .int (y6 + 1))]) [1, 2, 3, 0] rfl ?_
        exact ih y4 y5 (y6 + 1)  hf
      · replace hf := ite_f c10 hf
        refine z_iload_n C 2 3 dX0_headsIn_66 rfl rfl ?_
        refine z_iconst C 1 dX0_headsIn_67 (by decide) ?_
        refine z_aload_n C 0 0 dX0_headsIn_68 rfl rfl ?_
        refine z_getR C ok_X0 (lay_c60 hL) 0 (61) (by decide) rfl (lay_r60_0 hL) q_fl_X0_12 dX0_headsIn_69 ?_
        refine z_getR C ok_X5 (lay_c61 hL) 5 (63) (by decide) rfl (lay_r61_5 hL) q_fl_X0_144 dX0_headsIn_72 ?_
        refine z_iload C 3 dX0_headsIn_75 rfl ?_
        replace hf := gd_out hf
        obtain ⟨g11, hf⟩ := hf
        refine z_iald C (lay_c63 hL) (inb_in g11) dX0_headsIn_77 ?_
        refine z_ishl C dX0_headsIn_78 ?_
        refine z_ior C dX0_headsIn_79 ?_
        refine z_topi (fun v12 e13 => ?_)
        replace hf := bnd_out e13 hf
        refine z_istore_n C [(3, .int v12), (0, .ref (G.1 + 60)), (1, .int y4), (4, .int y6)] dX0_headsIn_80 rfl (by decide) rfl rfl ?_
        refine z_iinc C 3 (y6 + 1) [(4, .int (y6 + 1)), (3, .int v12), (0, .ref (G.1 + 60)), (1, .int y4)] dX0_headsIn_81 rfl rfl (by decide) rfl rfl ?_
        refine z_goto C 40 dX0_headsIn_84 (by decide) ?_
        refine z_lv (lv2 := [(0, .ref (G.1 + 60)), (1, .int y4), (3, .int v12), (4, .int (y6 + 1))]) [2, 3, 1, 0] rfl ?_
        exact ih y4 v12 (y6 + 1)  hf
set_option maxHeartbeats 4000000 in
set_option maxRecDepth 100000 in
theorem tX0_headsIn (l : Launch) (G : GG) {K : SK} (hL : Lay K) (M : MM) (x1 : Int32) (a2 : Nat) (h2 : Lw K a2) (pp : Int32) (hf : fX0_headsIn M x1 a2 = some pp) : Ct l yX0_headsIn cX0_headsIn 5 (some .int) 1 0 0 G K M [.ref (G.1 + 60), .int x1, .ref (G.1 + a2)] (some (.int pp)) K M := by
  refine z_enter (lv := [(0, .ref (G.1 + 60)), (1, .int x1), (2, .ref (G.1 + a2))]) (by decide +kernel) (Nat.le_of_ble_eq_true rfl) rfl ?_
  intro p e s m args below meth c C hnm hs0
  replace C : CX p s m args meth c cX0_headsIn 5 (some .int) RX0 G := C
  unfold fX0_headsIn at hf
  refine z_aload_n C 2 2 dX0_headsIn_0 rfl rfl ?_
  refine z_aload_n C 0 0 dX0_headsIn_1 rfl rfl ?_
  refine z_getR C ok_X0 (lay_c60 hL) 0 (61) (by decide) rfl (lay_r60_0 hL) q_fl_X0_12 dX0_headsIn_2 ?_
  refine z_getR C ok_X5 (lay_c61 hL) 6 (64) (by decide) rfl (lay_r61_6 hL) q_fl_X0_86 dX0_headsIn_5 ?_
  refine z_iload_n C 1 1 dX0_headsIn_8 rfl rfl ?_
  replace hf := gd_out hf
  obtain ⟨g1, hf⟩ := hf
  refine z_iald C (lay_c64 hL) (inb_in g1) dX0_headsIn_9 ?_
  refine z_cV1 C [] (tX4_isSoup l G hL M a2 h2 (gI M 64 (ix x1))) lk_X4_isSoup ok_X4 (Lw_o h2) q_ml_X0_127 rfl ⟨Nat.le_of_ble_eq_true rfl, Nat.le_of_ble_eq_true rfl⟩ rfl (Nat.le_of_ble_eq_true rfl) ⟨Nat.le_refl _, Nat.le_refl _⟩ dX0_headsIn_10 ?_
  refine z_if_eq C 18 dX0_headsIn_13 (by decide) (fun c2 => ?_) (fun c2 => ?_)
  · replace hf := ite_t c2 hf
    refine z_aload_n C 2 2 dX0_headsIn_18 rfl rfl ?_
    refine z_getI C ok_X4 (Lw_o h2) 1 (by decide) rfl q_fl_X0_132 dX0_headsIn_19 ?_
    refine z_if_eq C 35 dX0_headsIn_22 (by decide) (fun c3 => ?_) (fun c3 => ?_)
    · replace hf := ite_t c3 hf
      refine z_iconst C 0 dX0_headsIn_35 (by decide) ?_
      refine z_istore_n C [(3, .int 0), (0, .ref (G.1 + 60)), (1, .int x1), (2, .ref (G.1 + a2))] dX0_headsIn_36 rfl (by decide) rfl rfl ?_
      refine z_iconst C 0 dX0_headsIn_37 (by decide) ?_
      refine z_istore C [(4, .int 0), (3, .int 0), (0, .ref (G.1 + 60)), (1, .int x1), (2, .ref (G.1 + a2))] dX0_headsIn_38 (by decide) rfl rfl ?_
      refine z_lv (lv2 := [(0, .ref (G.1 + 60)), (1, .int x1), (3, .int 0), (4, .int 0)]) [2, 3, 1, 0] rfl ?_
      refine wX0_headsIn_l40 C hs0 hL M a2 h2 _ pp ?_ FU x1 0 0 hf
      · intro y14 hf
        refine z_iload_n C 0 3 dX0_headsIn_87 rfl rfl ?_
        refine z_cS1 C [] (tJ6_bitCount_0f7a4 l G M y14) lk_J6_bitCount_0f7a4 q_ml_X0_136 rfl ⟨Nat.le_of_ble_eq_true rfl, Nat.le_of_ble_eq_true rfl⟩ rfl (Nat.le_of_ble_eq_true rfl) ⟨Nat.le_refl _, Nat.le_refl _⟩ dX0_headsIn_88 ?_
        cases hf
        exact z_iret C rfl dX0_headsIn_91
    · replace hf := ite_f c3 hf
      refine z_aload_n C 0 0 dX0_headsIn_25 rfl rfl ?_
      refine z_getR C ok_X0 (lay_c60 hL) 1 (70) (by decide) rfl (lay_r60_1 hL) q_fl_X0_18 dX0_headsIn_26 ?_
      refine z_iload_n C 1 1 dX0_headsIn_29 rfl rfl ?_
      replace hf := gd_out hf
      obtain ⟨g15, hf⟩ := hf
      refine z_iald C (lay_c70 hL) (inb_in g15) dX0_headsIn_30 ?_
      refine z_cS1 C [] (tJ6_bitCount_0f7a4 l G M (gI M 70 (ix x1))) lk_J6_bitCount_0f7a4 q_ml_X0_136 rfl ⟨Nat.le_of_ble_eq_true rfl, Nat.le_of_ble_eq_true rfl⟩ rfl (Nat.le_of_ble_eq_true rfl) ⟨Nat.le_refl _, Nat.le_refl _⟩ dX0_headsIn_31 ?_
      cases hf
      exact z_iret C rfl dX0_headsIn_34
  · replace hf := ite_f c2 hf
    refine z_iconst C 0 dX0_headsIn_16 (by decide) ?_
    cases hf
    exact z_iret C rfl dX0_headsIn_17
set_option maxHeartbeats 4000000 in
set_option maxRecDepth 100000 in
theorem tX0_countIn (l : Launch) (G : GG) {K : SK} (hL : Lay K) (M : MM) (x1 : Int32) (a2 : Nat) (h2 : Lw K a2) (pp : Int32) (hf : fX0_countIn M x1 a2 = some pp) : Ct l yX0_countIn cX0_countIn 3 (some .int) 2 0 0 G K M [.ref (G.1 + 60), .int x1, .ref (G.1 + a2)] (some (.int pp)) K M := by
  refine z_enter (lv := [(0, .ref (G.1 + 60)), (1, .int x1), (2, .ref (G.1 + a2))]) (by decide +kernel) (Nat.le_of_ble_eq_true rfl) rfl ?_
  intro p e s m args below meth c C hnm hs0
  replace C : CX p s m args meth c cX0_countIn 3 (some .int) RX0 G := C
  unfold fX0_countIn at hf
  refine z_aload_n C 0 0 dX0_countIn_0 rfl rfl ?_
  refine z_iload_n C 1 1 dX0_countIn_1 rfl rfl ?_
  refine z_aload_n C 2 2 dX0_countIn_2 rfl rfl ?_
  replace hf := bd_out hf
  obtain ⟨p1, e2, hf⟩ := hf
  refine z_cV1 C [] (tX0_headsIn l G hL M x1 a2 h2 _ e2) lk_X0_headsIn ok_X0 (lay_c60 hL) q_ml_X0_147 rfl ⟨Nat.le_of_ble_eq_true rfl, Nat.le_of_ble_eq_true rfl⟩ rfl (Nat.le_of_ble_eq_true rfl) ⟨Nat.le_refl _, Nat.le_refl _⟩ dX0_countIn_3 ?_
  refine z_aload_n C 0 0 dX0_countIn_6 rfl rfl ?_
  refine z_getR C ok_X0 (lay_c60 hL) 0 (61) (by decide) rfl (lay_r60_0 hL) q_fl_X0_12 dX0_countIn_7 ?_
  refine z_getR C ok_X5 (lay_c61 hL) 9 (67) (by decide) rfl (lay_r61_9 hL) q_fl_X0_89 dX0_countIn_10 ?_
  refine z_iload_n C 1 1 dX0_countIn_13 rfl rfl ?_
  replace hf := gd_out hf
  obtain ⟨g3, hf⟩ := hf
  refine z_iald C (lay_c67 hL) (inb_in g3) dX0_countIn_14 ?_
  refine z_mmin C lkm_min q_ml_X0_151 (Nat.le_of_ble_eq_true rfl) (Nat.le_of_ble_eq_true rfl) ⟨Nat.le_refl _, Nat.le_refl _⟩ dX0_countIn_15 ?_
  cases hf
  exact z_iret C rfl dX0_countIn_18
set_option maxHeartbeats 4000000 in
set_option maxRecDepth 100000 in
theorem wX0_sumBy_l13 (C : CX p s m args meth c cX0_sumBy 4 (some .int) RX0 G) (hs0 : s.heap.size = G.1 + K.1) (hL : Lay K) (a1 : Nat) (h1 : Lw K a1)  (pp : (Int32 × MM))  : ∀ (n : Nat) (M3 : MM) (y4 : Int32) (y5 : Int32) (hf : fX0_sumBy_l13 a1 n M3 y4 y5 = some pp), Z p l e (rmo 3 0 0) s m args below meth c 4 G (MQ below (QC G (some (.int pp.1)) K pp.2) args s 0 0 (AG G)) K 0 0 M3 13 [(0, .ref (G.1 + 60)), (1, .ref (G.1 + a1)), (2, .int y4), (3, .int y5)] [] := by
  intro n
  induction n with
  | zero => intro M3 y4 y5 hf; exact nomatch (show (none : Option (Int32 × MM)) = some pp from hf)
  | succ n ih =>
    intro M3 y4 y5 hf
    rw [fX0_sumBy_l13.eq_2] at hf
    refine z_iload_n C 3 3 dX0_sumBy_13 rfl rfl ?_
    refine z_aload_n C 0 0 dX0_sumBy_14 rfl rfl ?_
    refine z_getR C ok_X0 (lay_c60 hL) 0 (61) (by decide) rfl (lay_r60_0 hL) q_fl_X0_12 dX0_sumBy_15 ?_
    refine z_getI C ok_X5 (lay_c61 hL) 3 (by decide) rfl q_fl_X0_63 dX0_sumBy_18 ?_
    refine z_icmp_ge C 39 dX0_sumBy_21 (by decide) (fun c6 => ?_) (fun c6 => ?_)
    · replace hf := ite_t c6 hf
      refine z_iload_n C 2 2 dX0_sumBy_39 rfl rfl ?_
      cases hf
      exact z_iret C rfl dX0_sumBy_40
    · replace hf := ite_f c6 hf
      refine z_iload_n C 2 2 dX0_sumBy_24 rfl rfl ?_
      refine z_aload_n C 0 0 dX0_sumBy_25 rfl rfl ?_
      refine z_iload_n C 3 3 dX0_sumBy_26 rfl rfl ?_
      refine z_aload_n C 1 1 dX0_sumBy_27 rfl rfl ?_
      replace hf := bd_out hf
      obtain ⟨p7, e8, hf⟩ := hf
      refine z_cV1 C [.int y4] (tX0_countIn l G hL M3 y5 a1 h1 _ e8) lk_X0_countIn ok_X0 (lay_c60 hL) q_ml_X0_159 rfl ⟨Nat.le_of_ble_eq_true rfl, Nat.le_of_ble_eq_true rfl⟩ rfl (Nat.le_of_ble_eq_true rfl) ⟨Nat.le_refl _, Nat.le_refl _⟩ dX0_sumBy_28 ?_
      refine z_iadd C dX0_sumBy_31 ?_
      refine z_topi (fun v9 e10 => ?_)
      replace hf := bnd_out e10 hf
      refine z_istore_n C [(2, .int v9), (0, .ref (G.1 + 60)), (1, .ref (G.1 + a1)), (3, .int y5)] dX0_sumBy_32 rfl (by decide) rfl rfl ?_
      refine z_iinc C 3 (y5 + 1) [(3, .int (y5 + 1)), (2, .int v9), (0, .ref (G.1 + 60)), (1, .ref (G.1 + a1))] dX0_sumBy_33 rfl rfl (by decide) rfl rfl ?_
      refine z_goto C 13 dX0_sumBy_36 (by decide) ?_
      refine z_lv (lv2 := [(0, .ref (G.1 + 60)), (1, .ref (G.1 + a1)), (2, .int v9), (3, .int (y5 + 1))]) [2, 3, 1, 0] rfl ?_
      exact ih M3 v9 (y5 + 1)  hf
set_option maxHeartbeats 4000000 in
set_option maxRecDepth 100000 in
theorem tX0_sumBy (l : Launch) (G : GG) {K : SK} (hL : Lay K) (M : MM) (a1 : Nat) (h1 : Lw K a1) (pp : (Int32 × MM)) (hf : fX0_sumBy M a1 = some pp) : Ct l yX0_sumBy cX0_sumBy 4 (some .int) 3 0 0 G K M [.ref (G.1 + 60), .ref (G.1 + a1)] (some (.int pp.1)) K pp.2 := by
  refine z_enter (lv := [(0, .ref (G.1 + 60)), (1, .ref (G.1 + a1))]) (by decide +kernel) (Nat.le_of_ble_eq_true rfl) rfl ?_
  intro p e s m args below meth c C hnm hs0
  replace C : CX p s m args meth c cX0_sumBy 4 (some .int) RX0 G := C
  unfold fX0_sumBy at hf
  refine z_aload_n C 0 0 dX0_sumBy_0 rfl rfl ?_
  refine z_aload_n C 1 1 dX0_sumBy_1 rfl rfl ?_
  refine z_getI C ok_X4 (Lw_o h1) 0 (by decide) rfl q_fl_X0_156 dX0_sumBy_2 ?_
  replace hf := bd_out hf
  obtain ⟨p1, e2, hf⟩ := hf
  refine z_cV1 C [] (tX0_spread l G hL M (gI M a1 0) _ e2) lk_X0_spread ok_X0 (lay_c60 hL) q_ml_X0_123 rfl ⟨Nat.le_of_ble_eq_true rfl, Nat.le_of_ble_eq_true rfl⟩ rfl (Nat.le_of_ble_eq_true rfl) ⟨Nat.le_refl _, Nat.le_refl _⟩ dX0_sumBy_5 ?_
  refine z_pop C rfl dX0_sumBy_8 ?_
  refine z_iconst C 0 dX0_sumBy_9 (by decide) ?_
  refine z_istore_n C [(2, .int 0), (0, .ref (G.1 + 60)), (1, .ref (G.1 + a1))] dX0_sumBy_10 rfl (by decide) rfl rfl ?_
  refine z_iconst C 0 dX0_sumBy_11 (by decide) ?_
  refine z_istore_n C [(3, .int 0), (2, .int 0), (0, .ref (G.1 + 60)), (1, .ref (G.1 + a1))] dX0_sumBy_12 rfl (by decide) rfl rfl ?_
  refine z_lv (lv2 := [(0, .ref (G.1 + 60)), (1, .ref (G.1 + a1)), (2, .int 0), (3, .int 0)]) [2, 3, 1, 0] rfl ?_
  exact wX0_sumBy_l13 C hs0 hL a1 h1 pp FU p1.2 0 0 hf
set_option maxHeartbeats 4000000 in
set_option maxRecDepth 100000 in
theorem wX0_addTotals_l19 (C : CX p s m args meth c cX0_addTotals 3 none RX0 G) (hs0 : s.heap.size = G.1 + K.1) (hL : Lay K) (a1 : Nat) (h1 : Lw K a1)  (pp : MM)  : ∀ (n : Nat) (M5 : MM) (y6 : Int32) (hf : fX0_addTotals_l19 a1 n M5 y6 = some pp), Z p l e (rmo 3 0 0) s m args below meth c 3 G (MQ below (QC G none K pp) args s 0 0 (AG G)) K 0 0 M5 19 [(0, .ref (G.1 + 60)), (1, .ref (G.1 + a1)), (2, .int y6)] [] := by
  intro n
  induction n with
  | zero => intro M5 y6 hf; exact nomatch (show (none : Option MM) = some pp from hf)
  | succ n ih =>
    intro M5 y6 hf
    rw [fX0_addTotals_l19.eq_2] at hf
    refine z_iload_n C 2 2 dX0_addTotals_19 rfl rfl ?_
    refine z_aload_n C 0 0 dX0_addTotals_20 rfl rfl ?_
    refine z_getR C ok_X0 (lay_c60 hL) 0 (61) (by decide) rfl (lay_r60_0 hL) q_fl_X0_12 dX0_addTotals_21 ?_
    refine z_getI C ok_X5 (lay_c61 hL) 3 (by decide) rfl q_fl_X0_63 dX0_addTotals_24 ?_
    refine z_icmp_ge C 59 dX0_addTotals_27 (by decide) (fun c7 => ?_) (fun c7 => ?_)
    · replace hf := ite_t c7 hf
      cases hf
      exact z_vret C rfl dX0_addTotals_59
    · replace hf := ite_f c7 hf
      refine z_aload_n C 0 0 dX0_addTotals_30 rfl rfl ?_
      refine z_getR C ok_X0 (lay_c60 hL) 2 (71) (by decide) rfl (lay_r60_2 hL) q_fl_X0_22 dX0_addTotals_31 ?_
      refine z_aload_n C 0 0 dX0_addTotals_34 rfl rfl ?_
      refine z_getR C ok_X0 (lay_c60 hL) 0 (61) (by decide) rfl (lay_r60_0 hL) q_fl_X0_12 dX0_addTotals_35 ?_
      refine z_getR C ok_X5 (lay_c61 hL) 10 (68) (by decide) rfl (lay_r61_10 hL) q_fl_X0_92 dX0_addTotals_38 ?_
      refine z_iload_n C 2 2 dX0_addTotals_41 rfl rfl ?_
      replace hf := gd_out hf
      obtain ⟨g8, hf⟩ := hf
      refine z_iald C (lay_c68 hL) (inb_in g8) dX0_addTotals_42 ?_
      refine z_dup2 C rfl rfl dX0_addTotals_43 ?_
      replace hf := gd_out hf
      obtain ⟨g9, hf⟩ := hf
      refine z_iald C (lay_c71 hL) (inb_in g9) dX0_addTotals_44 ?_
      refine z_aload_n C 0 0 dX0_addTotals_45 rfl rfl ?_
      refine z_iload_n C 2 2 dX0_addTotals_46 rfl rfl ?_
      refine z_aload_n C 1 1 dX0_addTotals_47 rfl rfl ?_
      replace hf := bd_out hf
      obtain ⟨p10, e11, hf⟩ := hf
      refine z_cV1 C [.int (gI M5 71 (ix (gI M5 68 (ix y6)))), .int (gI M5 68 (ix y6)), .ref (G.1 + 71)] (tX0_countIn l G hL M5 y6 a1 h1 _ e11) lk_X0_countIn ok_X0 (lay_c60 hL) q_ml_X0_159 rfl ⟨Nat.le_of_ble_eq_true rfl, Nat.le_of_ble_eq_true rfl⟩ rfl (Nat.le_of_ble_eq_true rfl) ⟨Nat.le_refl _, Nat.le_refl _⟩ dX0_addTotals_48 ?_
      refine z_iadd C dX0_addTotals_51 ?_
      replace hf := gd_out hf
      obtain ⟨g12, hf⟩ := hf
      refine z_iast C (lay_c71 hL) (inb_in g12) dX0_addTotals_52 ?_
      refine z_M (fun M13 e14 => ?_)
      replace hf := bnd_out e14 hf
      refine z_iinc C 2 (y6 + 1) [(2, .int (y6 + 1)), (0, .ref (G.1 + 60)), (1, .ref (G.1 + a1))] dX0_addTotals_53 rfl rfl (by decide) rfl rfl ?_
      refine z_goto C 19 dX0_addTotals_56 (by decide) ?_
      refine z_lv (lv2 := [(0, .ref (G.1 + 60)), (1, .ref (G.1 + a1)), (2, .int (y6 + 1))]) [1, 2, 0] rfl ?_
      exact ih M13 (y6 + 1)  hf
set_option maxHeartbeats 4000000 in
set_option maxRecDepth 100000 in
theorem tX0_addTotals (l : Launch) (G : GG) {K : SK} (hL : Lay K) (M : MM) (a1 : Nat) (h1 : Lw K a1) (pp : MM) (hf : fX0_addTotals M a1 = some pp) : Ct l yX0_addTotals cX0_addTotals 3 none 3 0 0 G K M [.ref (G.1 + 60), .ref (G.1 + a1)] none K pp := by
  refine z_enter (lv := [(0, .ref (G.1 + 60)), (1, .ref (G.1 + a1))]) (by decide +kernel) (Nat.le_of_ble_eq_true rfl) rfl ?_
  intro p e s m args below meth c C hnm hs0
  replace C : CX p s m args meth c cX0_addTotals 3 none RX0 G := C
  unfold fX0_addTotals at hf
  refine z_aload_n C 0 0 dX0_addTotals_0 rfl rfl ?_
  refine z_aload_n C 1 1 dX0_addTotals_1 rfl rfl ?_
  refine z_getI C ok_X4 (Lw_o h1) 0 (by decide) rfl q_fl_X0_156 dX0_addTotals_2 ?_
  replace hf := bd_out hf
  obtain ⟨p1, e2, hf⟩ := hf
  refine z_cV1 C [] (tX0_spread l G hL M (gI M a1 0) _ e2) lk_X0_spread ok_X0 (lay_c60 hL) q_ml_X0_123 rfl ⟨Nat.le_of_ble_eq_true rfl, Nat.le_of_ble_eq_true rfl⟩ rfl (Nat.le_of_ble_eq_true rfl) ⟨Nat.le_refl _, Nat.le_refl _⟩ dX0_addTotals_5 ?_
  refine z_pop C rfl dX0_addTotals_8 ?_
  refine z_aload_n C 0 0 dX0_addTotals_9 rfl rfl ?_
  refine z_getR C ok_X0 (lay_c60 hL) 2 (71) (by decide) rfl (lay_r60_2 hL) q_fl_X0_22 dX0_addTotals_10 ?_
  refine z_iconst C 0 dX0_addTotals_13 (by decide) ?_
  replace hf := bd_out hf
  obtain ⟨p3, e4, hf⟩ := hf
  refine z_cS0 C [] (tJ7_fill_53178 l G p1.2 71 4 (lay_c71 hL) 0 _ e4) lk_J7_fill_53178 q_ml_X0_162 rfl ⟨Nat.le_of_ble_eq_true rfl, Nat.le_of_ble_eq_true rfl⟩ rfl (Nat.le_of_ble_eq_true rfl) ⟨Nat.le_refl _, Nat.le_refl _⟩ dX0_addTotals_14 ?_
  refine z_iconst C 0 dX0_addTotals_17 (by decide) ?_
  refine z_istore_n C [(2, .int 0), (0, .ref (G.1 + 60)), (1, .ref (G.1 + a1))] dX0_addTotals_18 rfl (by decide) rfl rfl ?_
  refine z_lv (lv2 := [(0, .ref (G.1 + 60)), (1, .ref (G.1 + a1)), (2, .int 0)]) [1, 2, 0] rfl ?_
  exact wX0_addTotals_l19 C hs0 hL a1 h1 pp FU p3 0 hf
set_option maxHeartbeats 4000000 in
set_option maxRecDepth 100000 in
theorem tX0_seatsOf (l : Launch) (G : GG) {K : SK} (hL : Lay K) (M : MM) (x1 : Int32) (a2 : Nat) (h2 : Lw K a2) (pp : (Int32 × MM)) (hf : fX0_seatsOf M x1 a2 = some pp) : Ct l yX0_seatsOf cX0_seatsOf 3 (some .int) 4 0 0 G K M [.ref (G.1 + 60), .int x1, .ref (G.1 + a2)] (some (.int pp.1)) K pp.2 := by
  refine z_enter (lv := [(0, .ref (G.1 + 60)), (1, .int x1), (2, .ref (G.1 + a2))]) (by decide +kernel) (Nat.le_of_ble_eq_true rfl) rfl ?_
  intro p e s m args below meth c C hnm hs0
  replace C : CX p s m args meth c cX0_seatsOf 3 (some .int) RX0 G := C
  unfold fX0_seatsOf at hf
  refine z_aload_n C 0 0 dX0_seatsOf_0 rfl rfl ?_
  refine z_aload_n C 2 2 dX0_seatsOf_1 rfl rfl ?_
  replace hf := bd_out hf
  obtain ⟨p1, e2, hf⟩ := hf
  refine z_cV0 C [] (tX0_addTotals l G hL M a2 h2 _ e2) lk_X0_addTotals ok_X0 (lay_c60 hL) q_ml_X0_168 rfl ⟨Nat.le_of_ble_eq_true rfl, Nat.le_of_ble_eq_true rfl⟩ rfl (Nat.le_of_ble_eq_true rfl) ⟨Nat.le_refl _, Nat.le_refl _⟩ dX0_seatsOf_2 ?_
  refine z_aload_n C 2 2 dX0_seatsOf_5 rfl rfl ?_
  refine z_aload_n C 0 0 dX0_seatsOf_6 rfl rfl ?_
  refine z_getR C ok_X0 (lay_c60 hL) 2 (71) (by decide) rfl (lay_r60_2 hL) q_fl_X0_22 dX0_seatsOf_7 ?_
  refine z_aload_n C 0 0 dX0_seatsOf_10 rfl rfl ?_
  refine z_getR C ok_X0 (lay_c60 hL) 3 (72) (by decide) rfl (lay_r60_3 hL) q_fl_X0_25 dX0_seatsOf_11 ?_
  replace hf := bd_out hf
  obtain ⟨p3, e4, hf⟩ := hf
  refine z_cV0 C [] (tX4_share l G hL p1 a2 h2 _ e4) lk_X4_share ok_X4 (Lw_o h2) q_ml_X0_172 rfl ⟨Nat.le_of_ble_eq_true rfl, Nat.le_of_ble_eq_true rfl⟩ rfl (Nat.le_of_ble_eq_true rfl) ⟨Nat.le_refl _, Nat.le_refl _⟩ dX0_seatsOf_14 ?_
  refine z_aload_n C 0 0 dX0_seatsOf_17 rfl rfl ?_
  refine z_getR C ok_X0 (lay_c60 hL) 3 (72) (by decide) rfl (lay_r60_3 hL) q_fl_X0_25 dX0_seatsOf_18 ?_
  refine z_iload_n C 1 1 dX0_seatsOf_21 rfl rfl ?_
  replace hf := gd_out hf
  obtain ⟨g5, hf⟩ := hf
  refine z_iald C (lay_c72 hL) (inb_in g5) dX0_seatsOf_22 ?_
  cases hf
  exact z_iret C rfl dX0_seatsOf_23
set_option maxHeartbeats 4000000 in
set_option maxRecDepth 100000 in
theorem wX0_knownIn_l4 (C : CX p s m args meth c cX0_knownIn 4 (some .int) RX0 G) (hs0 : s.heap.size = G.1 + K.1) (hL : Lay K) (M : MM)  (pp : Int32)  : ∀ (n : Nat) (y1 : Int32) (y2 : Int32) (y3 : Int32) (hf : fX0_knownIn_l4 M n y1 y2 y3 = some pp), Z p l e (rmo 0 0 0) s m args below meth c 4 G (MQ below (QC G (some (.int pp)) K M) args s 0 0 (AG G)) K 0 0 M 4 [(0, .ref (G.1 + 60)), (1, .int y1), (2, .int y2), (3, .int y3)] [] := by
  intro n
  induction n with
  | zero => intro y1 y2 y3 hf; exact nomatch (show (none : Option Int32) = some pp from hf)
  | succ n ih =>
    intro y1 y2 y3 hf
    rw [fX0_knownIn_l4.eq_2] at hf
    refine z_iload_n C 3 3 dX0_knownIn_4 rfl rfl ?_
    refine z_aload_n C 0 0 dX0_knownIn_5 rfl rfl ?_
    refine z_getR C ok_X0 (lay_c60 hL) 0 (61) (by decide) rfl (lay_r60_0 hL) q_fl_X0_12 dX0_knownIn_6 ?_
    refine z_getI C ok_X5 (lay_c61 hL) 3 (by decide) rfl q_fl_X0_63 dX0_knownIn_9 ?_
    refine z_icmp_ge C 34 dX0_knownIn_12 (by decide) (fun c4 => ?_) (fun c4 => ?_)
    · replace hf := ite_t c4 hf
      refine z_iload_n C 2 2 dX0_knownIn_34 rfl rfl ?_
      cases hf
      exact z_iret C rfl dX0_knownIn_35
    · replace hf := ite_f c4 hf
      refine z_iload_n C 2 2 dX0_knownIn_15 rfl rfl ?_
      refine z_aload_n C 0 0 dX0_knownIn_16 rfl rfl ?_
      refine z_getR C ok_X0 (lay_c60 hL) 1 (70) (by decide) rfl (lay_r60_1 hL) q_fl_X0_18 dX0_knownIn_17 ?_
      refine z_iload_n C 3 3 dX0_knownIn_20 rfl rfl ?_
      replace hf := gd_out hf
      obtain ⟨g5, hf⟩ := hf
      refine z_iald C (lay_c70 hL) (inb_in g5) dX0_knownIn_21 ?_
      refine z_iload_n C 1 1 dX0_knownIn_22 rfl rfl ?_
      refine z_iushr C dX0_knownIn_23 ?_
      refine z_iconst C 1 dX0_knownIn_24 (by decide) ?_
      refine z_iand C dX0_knownIn_25 ?_
      refine z_iadd C dX0_knownIn_26 ?_
      refine z_topi (fun v6 e7 => ?_)
      replace hf := bnd_out e7 hf
      refine z_istore_n C [(2, .int v6), (0, .ref (G.1 + 60)), (1, .int y1), (3, .int y3)] dX0_knownIn_27 rfl (by decide) rfl rfl ?_
      refine z_iinc C 3 (y3 + 1) [(3, .int (y3 + 1)), (2, .int v6), (0, .ref (G.1 + 60)), (1, .int y1)] dX0_knownIn_28 rfl rfl (by decide) rfl rfl ?_
      refine z_goto C 4 dX0_knownIn_31 (by decide) ?_
      refine z_lv (lv2 := [(0, .ref (G.1 + 60)), (1, .int y1), (2, .int v6), (3, .int (y3 + 1))]) [2, 3, 1, 0] rfl ?_
      exact ih y1 v6 (y3 + 1)  hf
set_option maxHeartbeats 4000000 in
set_option maxRecDepth 100000 in
theorem tX0_knownIn (l : Launch) (G : GG) {K : SK} (hL : Lay K) (M : MM) (x1 : Int32) (pp : Int32) (hf : fX0_knownIn M x1 = some pp) : Ct l yX0_knownIn cX0_knownIn 4 (some .int) 0 0 0 G K M [.ref (G.1 + 60), .int x1] (some (.int pp)) K M := by
  refine z_enter (lv := [(0, .ref (G.1 + 60)), (1, .int x1)]) (by decide +kernel) (Nat.le_of_ble_eq_true rfl) rfl ?_
  intro p e s m args below meth c C hnm hs0
  replace C : CX p s m args meth c cX0_knownIn 4 (some .int) RX0 G := C
  unfold fX0_knownIn at hf
  refine z_iconst C 0 dX0_knownIn_0 (by decide) ?_
  refine z_istore_n C [(2, .int 0), (0, .ref (G.1 + 60)), (1, .int x1)] dX0_knownIn_1 rfl (by decide) rfl rfl ?_
  refine z_iconst C 0 dX0_knownIn_2 (by decide) ?_
  refine z_istore_n C [(3, .int 0), (2, .int 0), (0, .ref (G.1 + 60)), (1, .int x1)] dX0_knownIn_3 rfl (by decide) rfl rfl ?_
  refine z_lv (lv2 := [(0, .ref (G.1 + 60)), (1, .int x1), (2, .int 0), (3, .int 0)]) [2, 3, 1, 0] rfl ?_
  exact wX0_knownIn_l4 C hs0 hL M pp FU x1 0 0 hf
set_option maxHeartbeats 4000000 in
set_option maxRecDepth 100000 in
theorem wX0_clanOf_l15 (C : CX p s m args meth c cX0_clanOf 5 (some .int) RX0 G) (hs0 : s.heap.size = G.1 + K.1) (hL : Lay K) (M : MM) (k52 : Int32 → Int32 → Option Int32) (pp : Int32) (hk52 : ∀ (y10 : Int32) (y11 : Int32), k52 y10 y11 = some pp → Z p l e (rmo 0 0 0) s m args below meth c 5 G (MQ below (QC G (some (.int pp)) K M) args s 0 0 (AG G)) K 0 0 M 52 [(0, .ref (G.1 + 60)), (2, .int y10), (3, .int y11)] []) : ∀ (n : Nat) (y6 : Int32) (y7 : Int32) (y8 : Int32) (hf : fX0_clanOf_l15 M k52 n y6 y7 y8 = some pp), Z p l e (rmo 0 0 0) s m args below meth c 5 G (MQ below (QC G (some (.int pp)) K M) args s 0 0 (AG G)) K 0 0 M 15 [(0, .ref (G.1 + 60)), (2, .int y6), (3, .int y7), (4, .int y8)] [] := by
  intro n
  induction n with
  | zero => intro y6 y7 y8 hf; exact nomatch (show (none : Option Int32) = some pp from hf)
  | succ n ih =>
    intro y6 y7 y8 hf
    rw [fX0_clanOf_l15.eq_2] at hf
    refine z_iload C 3 dX0_clanOf_15 rfl ?_
    refine z_aload_n C 0 0 dX0_clanOf_17 rfl rfl ?_
    refine z_getR C ok_X0 (lay_c60 hL) 0 (61) (by decide) rfl (lay_r60_0 hL) q_fl_X0_12 dX0_clanOf_18 ?_
    refine z_getI C ok_X5 (lay_c61 hL) 3 (by decide) rfl q_fl_X0_63 dX0_clanOf_21 ?_
    refine z_icmp_ge C 52 dX0_clanOf_24 (by decide) (fun c9 => ?_) (fun c9 => ?_)
    · replace hf := ite_t c9 hf
      refine z_lv (lv2 := [(0, .ref (G.1 + 60)), (2, .int y6), (3, .int y7)]) [0, 1, 2] rfl ?_
      exact hk52 y6 y7  hf
    · replace hf := ite_f c9 hf
      refine z_iload_n C 1 2 dX0_clanOf_27 rfl rfl ?_
      refine z_iload C 3 dX0_clanOf_28 rfl ?_
      refine z_iushr C dX0_clanOf_30 ?_
      refine z_iconst C 1 dX0_clanOf_31 (by decide) ?_
      refine z_iand C dX0_clanOf_32 ?_
      refine z_if_eq C 46 dX0_clanOf_33 (by decide) (fun c12 => ?_) (fun c12 => ?_)
      · replace hf := ite_t c12 hf
        refine z_iinc C 3 (y8 + 1) [(4, .int (y8 + 1)), (0, .ref (G.1 + 60)), (2, .int y6), (3, .int y7)] dX0_clanOf_46 rfl rfl (by decide) rfl rfl ?_
        refine z_goto C 15 dX0_clanOf_49 (by decide) ?_
        refine z_lv (lv2 := [(0, .ref (G.1 + 60)), (2, .int y6), (3, .int y7), (4, .int (y8 + 1))]) [1, 2, 3, 0] rfl ?_
        exact ih y6 y7 (y8 + 1)  hf
      · replace hf := ite_f c12 hf
        refine z_iload_n C 1 2 dX0_clanOf_36 rfl rfl ?_
        refine z_aload_n C 0 0 dX0_clanOf_37 rfl rfl ?_
        refine z_getR C ok_X0 (lay_c60 hL) 9 (75) (by decide) rfl (lay_r60_9 hL) q_fl_X0_34 dX0_clanOf_38 ?_
        refine z_iload C 3 dX0_clanOf_41 rfl ?_
        replace hf := gd_out hf
        obtain ⟨g13, hf⟩ := hf
        refine z_iald C (lay_c75 hL) (inb_in g13) dX0_clanOf_43 ?_
        refine z_ior C dX0_clanOf_44 ?_
        refine z_topi (fun v14 e15 => ?_)
        replace hf := bnd_out e15 hf
        refine z_istore_n C [(2, .int v14), (0, .ref (G.1 + 60)), (3, .int y7), (4, .int y8)] dX0_clanOf_45 rfl (by decide) rfl rfl ?_
        refine z_iinc C 3 (y8 + 1) [(4, .int (y8 + 1)), (2, .int v14), (0, .ref (G.1 + 60)), (3, .int y7)] dX0_clanOf_46 rfl rfl (by decide) rfl rfl ?_
        refine z_goto C 15 dX0_clanOf_49 (by decide) ?_
        refine z_lv (lv2 := [(0, .ref (G.1 + 60)), (2, .int v14), (3, .int y7), (4, .int (y8 + 1))]) [2, 1, 3, 0] rfl ?_
        exact ih v14 y7 (y8 + 1)  hf
set_option maxHeartbeats 4000000 in
set_option maxRecDepth 100000 in
theorem wX0_clanOf_l6 (C : CX p s m args meth c cX0_clanOf 5 (some .int) RX0 G) (hs0 : s.heap.size = G.1 + K.1) (hL : Lay K) (M : MM)  (pp : Int32)  : ∀ (n : Nat) (y3 : Int32) (y4 : Int32) (hf : fX0_clanOf_l6 M n y3 y4 = some pp), Z p l e (rmo 0 0 0) s m args below meth c 5 G (MQ below (QC G (some (.int pp)) K M) args s 0 0 (AG G)) K 0 0 M 6 [(0, .ref (G.1 + 60)), (2, .int y3), (3, .int y4)] [] := by
  intro n
  induction n with
  | zero => intro y3 y4 hf; exact nomatch (show (none : Option Int32) = some pp from hf)
  | succ n ih =>
    intro y3 y4 hf
    rw [fX0_clanOf_l6.eq_2] at hf
    refine z_iload_n C 2 3 dX0_clanOf_6 rfl rfl ?_
    refine z_bipush C 8 dX0_clanOf_7 (by decide) ?_
    refine z_icmp_ge C 58 dX0_clanOf_9 (by decide) (fun c5 => ?_) (fun c5 => ?_)
    · replace hf := ite_t c5 hf
      refine z_iload_n C 1 2 dX0_clanOf_58 rfl rfl ?_
      cases hf
      exact z_iret C rfl dX0_clanOf_59
    · replace hf := ite_f c5 hf
      refine z_iconst C 0 dX0_clanOf_12 (by decide) ?_
      refine z_istore C [(4, .int 0), (0, .ref (G.1 + 60)), (2, .int y3), (3, .int y4)] dX0_clanOf_13 (by decide) rfl rfl ?_
      refine z_lv (lv2 := [(0, .ref (G.1 + 60)), (2, .int y3), (3, .int y4), (4, .int 0)]) [1, 2, 3, 0] rfl ?_
      refine wX0_clanOf_l15 C hs0 hL M _ pp ?_ FU y3 y4 0 hf
      · intro y16 y17 hf
        refine z_iinc C 2 (y17 + 1) [(3, .int (y17 + 1)), (0, .ref (G.1 + 60)), (2, .int y16)] dX0_clanOf_52 rfl rfl (by decide) rfl rfl ?_
        refine z_goto C 6 dX0_clanOf_55 (by decide) ?_
        refine z_lv (lv2 := [(0, .ref (G.1 + 60)), (2, .int y16), (3, .int (y17 + 1))]) [1, 2, 0] rfl ?_
        exact ih y16 (y17 + 1)  hf
set_option maxHeartbeats 4000000 in
set_option maxRecDepth 100000 in
theorem tX0_clanOf (l : Launch) (G : GG) {K : SK} (hL : Lay K) (M : MM) (x1 : Int32) (pp : Int32) (hf : fX0_clanOf M x1 = some pp) : Ct l yX0_clanOf cX0_clanOf 5 (some .int) 0 0 0 G K M [.ref (G.1 + 60), .int x1] (some (.int pp)) K M := by
  refine z_enter (lv := [(0, .ref (G.1 + 60)), (1, .int x1)]) (by decide +kernel) (Nat.le_of_ble_eq_true rfl) rfl ?_
  intro p e s m args below meth c C hnm hs0
  replace C : CX p s m args meth c cX0_clanOf 5 (some .int) RX0 G := C
  unfold fX0_clanOf at hf
  refine z_iconst C 1 dX0_clanOf_0 (by decide) ?_
  refine z_iload_n C 1 1 dX0_clanOf_1 rfl rfl ?_
  refine z_ishl C dX0_clanOf_2 ?_
  refine z_topi (fun v1 e2 => ?_)
  replace hf := bnd_out e2 hf
  refine z_istore_n C [(2, .int v1), (0, .ref (G.1 + 60)), (1, .int x1)] dX0_clanOf_3 rfl (by decide) rfl rfl ?_
  refine z_iconst C 0 dX0_clanOf_4 (by decide) ?_
  refine z_istore_n C [(3, .int 0), (2, .int v1), (0, .ref (G.1 + 60)), (1, .int x1)] dX0_clanOf_5 rfl (by decide) rfl rfl ?_
  refine z_lv (lv2 := [(0, .ref (G.1 + 60)), (2, .int v1), (3, .int 0)]) [2, 1, 0] rfl ?_
  exact wX0_clanOf_l6 C hs0 hL M pp FU v1 0 hf
set_option maxHeartbeats 4000000 in
set_option maxRecDepth 100000 in
theorem wX0_glances_l17 (C : CX p s m args meth c cX0_glances 4 (some .int) RX0 G) (hs0 : s.heap.size = G.1 + K.1) (hL : Lay K) (M : MM) (k50 : Int32 → Int32 → Option Int32) (pp : Int32) (hk50 : ∀ (y8 : Int32) (y9 : Int32), k50 y8 y9 = some pp → Z p l e (rmo 0 0 0) s m args below meth c 4 G (MQ below (QC G (some (.int pp)) K M) args s 0 0 (AG G)) K 0 0 M 50 [(0, .ref (G.1 + 60)), (1, .int y8), (2, .int y9)] []) : ∀ (n : Nat) (y4 : Int32) (y5 : Int32) (y6 : Int32) (hf : fX0_glances_l17 M k50 n y4 y5 y6 = some pp), Z p l e (rmo 0 0 0) s m args below meth c 4 G (MQ below (QC G (some (.int pp)) K M) args s 0 0 (AG G)) K 0 0 M 17 [(0, .ref (G.1 + 60)), (1, .int y4), (2, .int y5), (3, .int y6)] [] := by
  intro n
  induction n with
  | zero => intro y4 y5 y6 hf; exact nomatch (show (none : Option Int32) = some pp from hf)
  | succ n ih =>
    intro y4 y5 y6 hf
    rw [fX0_glances_l17.eq_2] at hf
    refine z_iload_n C 3 3 dX0_glances_17 rfl rfl ?_
    refine z_iload_n C 2 2 dX0_glances_18 rfl rfl ?_
    refine z_icmp_ge C 50 dX0_glances_19 (by decide) (fun c7 => ?_) (fun c7 => ?_)
    · replace hf := ite_t c7 hf
      refine z_lv (lv2 := [(0, .ref (G.1 + 60)), (1, .int y4), (2, .int y5)]) [0, 1, 2] rfl ?_
      exact hk50 y4 y5  hf
    · replace hf := ite_f c7 hf
      refine z_iload_n C 1 1 dX0_glances_22 rfl rfl ?_
      refine z_aload_n C 0 0 dX0_glances_23 rfl rfl ?_
      refine z_getR C ok_X0 (lay_c60 hL) 9 (75) (by decide) rfl (lay_r60_9 hL) q_fl_X0_34 dX0_glances_24 ?_
      refine z_iload_n C 2 2 dX0_glances_27 rfl rfl ?_
      replace hf := gd_out hf
      obtain ⟨g10, hf⟩ := hf
      refine z_iald C (lay_c75 hL) (inb_in g10) dX0_glances_28 ?_
      refine z_iload_n C 3 3 dX0_glances_29 rfl rfl ?_
      refine z_iushr C dX0_glances_30 ?_
      refine z_aload_n C 0 0 dX0_glances_31 rfl rfl ?_
      refine z_getR C ok_X0 (lay_c60 hL) 9 (75) (by decide) rfl (lay_r60_9 hL) q_fl_X0_34 dX0_glances_32 ?_
      refine z_iload_n C 3 3 dX0_glances_35 rfl rfl ?_
      replace hf := gd_out hf
      obtain ⟨g11, hf⟩ := hf
      refine z_iald C (lay_c75 hL) (inb_in g11) dX0_glances_36 ?_
      refine z_iload_n C 2 2 dX0_glances_37 rfl rfl ?_
      refine z_iushr C dX0_glances_38 ?_
      refine z_iand C dX0_glances_39 ?_
      refine z_iconst C 1 dX0_glances_40 (by decide) ?_
      refine z_iand C dX0_glances_41 ?_
      refine z_iadd C dX0_glances_42 ?_
      refine z_topi (fun v12 e13 => ?_)
      replace hf := bnd_out e13 hf
      refine z_istore_n C [(1, .int v12), (0, .ref (G.1 + 60)), (2, .int y5), (3, .int y6)] dX0_glances_43 rfl (by decide) rfl rfl ?_
      refine z_iinc C 3 (y6 + 1) [(3, .int (y6 + 1)), (1, .int v12), (0, .ref (G.1 + 60)), (2, .int y5)] dX0_glances_44 rfl rfl (by decide) rfl rfl ?_
      refine z_goto C 17 dX0_glances_47 (by decide) ?_
      refine z_lv (lv2 := [(0, .ref (G.1 + 60)), (1, .int v12), (2, .int y5), (3, .int (y6 + 1))]) [2, 1, 3, 0] rfl ?_
      exact ih v12 y5 (y6 + 1)  hf
set_option maxHeartbeats 4000000 in
set_option maxRecDepth 100000 in
theorem wX0_glances_l4 (C : CX p s m args meth c cX0_glances 4 (some .int) RX0 G) (hs0 : s.heap.size = G.1 + K.1) (hL : Lay K) (M : MM)  (pp : Int32)  : ∀ (n : Nat) (y1 : Int32) (y2 : Int32) (hf : fX0_glances_l4 M n y1 y2 = some pp), Z p l e (rmo 0 0 0) s m args below meth c 4 G (MQ below (QC G (some (.int pp)) K M) args s 0 0 (AG G)) K 0 0 M 4 [(0, .ref (G.1 + 60)), (1, .int y1), (2, .int y2)] [] := by
  intro n
  induction n with
  | zero => intro y1 y2 hf; exact nomatch (show (none : Option Int32) = some pp from hf)
  | succ n ih =>
    intro y1 y2 hf
    rw [fX0_glances_l4.eq_2] at hf
    refine z_iload_n C 2 2 dX0_glances_4 rfl rfl ?_
    refine z_aload_n C 0 0 dX0_glances_5 rfl rfl ?_
    refine z_getR C ok_X0 (lay_c60 hL) 0 (61) (by decide) rfl (lay_r60_0 hL) q_fl_X0_12 dX0_glances_6 ?_
    refine z_getI C ok_X5 (lay_c61 hL) 3 (by decide) rfl q_fl_X0_63 dX0_glances_9 ?_
    refine z_icmp_ge C 56 dX0_glances_12 (by decide) (fun c3 => ?_) (fun c3 => ?_)
    · replace hf := ite_t c3 hf
      refine z_iload_n C 1 1 dX0_glances_56 rfl rfl ?_
      cases hf
      exact z_iret C rfl dX0_glances_57
    · replace hf := ite_f c3 hf
      refine z_iconst C 0 dX0_glances_15 (by decide) ?_
      refine z_istore_n C [(3, .int 0), (0, .ref (G.1 + 60)), (1, .int y1), (2, .int y2)] dX0_glances_16 rfl (by decide) rfl rfl ?_
      refine z_lv (lv2 := [(0, .ref (G.1 + 60)), (1, .int y1), (2, .int y2), (3, .int 0)]) [1, 2, 3, 0] rfl ?_
      refine wX0_glances_l17 C hs0 hL M _ pp ?_ FU y1 y2 0 hf
      · intro y14 y15 hf
        refine z_iinc C 2 (y15 + 1) [(2, .int (y15 + 1)), (0, .ref (G.1 + 60)), (1, .int y14)] dX0_glances_50 rfl rfl (by decide) rfl rfl ?_
        refine z_goto C 4 dX0_glances_53 (by decide) ?_
        refine z_lv (lv2 := [(0, .ref (G.1 + 60)), (1, .int y14), (2, .int (y15 + 1))]) [1, 2, 0] rfl ?_
        exact ih y14 (y15 + 1)  hf
set_option maxHeartbeats 4000000 in
set_option maxRecDepth 100000 in
theorem tX0_glances (l : Launch) (G : GG) {K : SK} (hL : Lay K) (M : MM)  (pp : Int32) (hf : fX0_glances M = some pp) : Ct l yX0_glances cX0_glances 4 (some .int) 0 0 0 G K M [.ref (G.1 + 60)] (some (.int pp)) K M := by
  refine z_enter (lv := [(0, .ref (G.1 + 60))]) (by decide +kernel) (Nat.le_of_ble_eq_true rfl) rfl ?_
  intro p e s m args below meth c C hnm hs0
  replace C : CX p s m args meth c cX0_glances 4 (some .int) RX0 G := C
  unfold fX0_glances at hf
  refine z_iconst C 0 dX0_glances_0 (by decide) ?_
  refine z_istore_n C [(1, .int 0), (0, .ref (G.1 + 60))] dX0_glances_1 rfl (by decide) rfl rfl ?_
  refine z_iconst C 0 dX0_glances_2 (by decide) ?_
  refine z_istore_n C [(2, .int 0), (1, .int 0), (0, .ref (G.1 + 60))] dX0_glances_3 rfl (by decide) rfl rfl ?_
  refine z_lv (lv2 := [(0, .ref (G.1 + 60)), (1, .int 0), (2, .int 0)]) [2, 1, 0] rfl ?_
  exact wX0_glances_l4 C hs0 hL M pp FU 0 0 hf
end
