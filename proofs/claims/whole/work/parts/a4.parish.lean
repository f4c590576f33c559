theorem dX5_copyFrom_0 : decode cX5_copyFrom 0 = .ok (.aload_n 0, 1) := by decide +kernel
theorem dX5_copyFrom_1 : decode cX5_copyFrom 1 = .ok (.aload_n 1, 1) := by decide +kernel
theorem dX5_copyFrom_2 : decode cX5_copyFrom 2 = .ok (.getfield 36, 3) := by decide +kernel
theorem dX5_copyFrom_5 : decode cX5_copyFrom 5 = .ok (.putfield 36, 3) := by decide +kernel
theorem dX5_copyFrom_8 : decode cX5_copyFrom 8 = .ok (.aload_n 0, 1) := by decide +kernel
theorem dX5_copyFrom_9 : decode cX5_copyFrom 9 = .ok (.aload_n 1, 1) := by decide +kernel
theorem dX5_copyFrom_10 : decode cX5_copyFrom 10 = .ok (.getfield 40, 3) := by decide +kernel
theorem dX5_copyFrom_13 : decode cX5_copyFrom 13 = .ok (.putfield 40, 3) := by decide +kernel
theorem dX5_copyFrom_16 : decode cX5_copyFrom 16 = .ok (.aload_n 0, 1) := by decide +kernel
theorem dX5_copyFrom_17 : decode cX5_copyFrom 17 = .ok (.aload_n 1, 1) := by decide +kernel
theorem dX5_copyFrom_18 : decode cX5_copyFrom 18 = .ok (.getfield 43, 3) := by decide +kernel
theorem dX5_copyFrom_21 : decode cX5_copyFrom 21 = .ok (.putfield 43, 3) := by decide +kernel
theorem dX5_copyFrom_24 : decode cX5_copyFrom 24 = .ok (.aload_n 0, 1) := by decide +kernel
theorem dX5_copyFrom_25 : decode cX5_copyFrom 25 = .ok (.aload_n 1, 1) := by decide +kernel
theorem dX5_copyFrom_26 : decode cX5_copyFrom 26 = .ok (.getfield 46, 3) := by decide +kernel
theorem dX5_copyFrom_29 : decode cX5_copyFrom 29 = .ok (.putfield 46, 3) := by decide +kernel
theorem dX5_copyFrom_32 : decode cX5_copyFrom 32 = .ok (.aload_n 0, 1) := by decide +kernel
theorem dX5_copyFrom_33 : decode cX5_copyFrom 33 = .ok (.aload_n 1, 1) := by decide +kernel
theorem dX5_copyFrom_34 : decode cX5_copyFrom 34 = .ok (.getfield 49, 3) := by decide +kernel
theorem dX5_copyFrom_37 : decode cX5_copyFrom 37 = .ok (.putfield 49, 3) := by decide +kernel
theorem dX5_copyFrom_40 : decode cX5_copyFrom 40 = .ok (.aload_n 1, 1) := by decide +kernel
theorem dX5_copyFrom_41 : decode cX5_copyFrom 41 = .ok (.getfield 9, 3) := by decide +kernel
theorem dX5_copyFrom_44 : decode cX5_copyFrom 44 = .ok (.iconst 0, 1) := by decide +kernel
theorem dX5_copyFrom_45 : decode cX5_copyFrom 45 = .ok (.aload_n 0, 1) := by decide +kernel
theorem dX5_copyFrom_46 : decode cX5_copyFrom 46 = .ok (.getfield 9, 3) := by decide +kernel
theorem dX5_copyFrom_49 : decode cX5_copyFrom 49 = .ok (.iconst 0, 1) := by decide +kernel
theorem dX5_copyFrom_50 : decode cX5_copyFrom 50 = .ok (.bipush 8, 2) := by decide +kernel
theorem dX5_copyFrom_52 : decode cX5_copyFrom 52 = .ok (.invokestatic 59, 3) := by decide +kernel
theorem dX5_copyFrom_55 : decode cX5_copyFrom 55 = .ok (.aload_n 1, 1) := by decide +kernel
theorem dX5_copyFrom_56 : decode cX5_copyFrom 56 = .ok (.getfield 15, 3) := by decide +kernel
theorem dX5_copyFrom_59 : decode cX5_copyFrom 59 = .ok (.iconst 0, 1) := by decide +kernel
theorem dX5_copyFrom_60 : decode cX5_copyFrom 60 = .ok (.aload_n 0, 1) := by decide +kernel
theorem dX5_copyFrom_61 : decode cX5_copyFrom 61 = .ok (.getfield 15, 3) := by decide +kernel
theorem dX5_copyFrom_64 : decode cX5_copyFrom 64 = .ok (.iconst 0, 1) := by decide +kernel
theorem dX5_copyFrom_65 : decode cX5_copyFrom 65 = .ok (.bipush 8, 2) := by decide +kernel
theorem dX5_copyFrom_67 : decode cX5_copyFrom 67 = .ok (.invokestatic 59, 3) := by decide +kernel
theorem dX5_copyFrom_70 : decode cX5_copyFrom 70 = .ok (.aload_n 1, 1) := by decide +kernel
theorem dX5_copyFrom_71 : decode cX5_copyFrom 71 = .ok (.getfield 18, 3) := by decide +kernel
theorem dX5_copyFrom_74 : decode cX5_copyFrom 74 = .ok (.iconst 0, 1) := by decide +kernel
theorem dX5_copyFrom_75 : decode cX5_copyFrom 75 = .ok (.aload_n 0, 1) := by decide +kernel
theorem dX5_copyFrom_76 : decode cX5_copyFrom 76 = .ok (.getfield 18, 3) := by decide +kernel
theorem dX5_copyFrom_79 : decode cX5_copyFrom 79 = .ok (.iconst 0, 1) := by decide +kernel
theorem dX5_copyFrom_80 : decode cX5_copyFrom 80 = .ok (.bipush 8, 2) := by decide +kernel
theorem dX5_copyFrom_82 : decode cX5_copyFrom 82 = .ok (.invokestatic 59, 3) := by decide +kernel
theorem dX5_copyFrom_85 : decode cX5_copyFrom 85 = .ok (.aload_n 1, 1) := by decide +kernel
theorem dX5_copyFrom_86 : decode cX5_copyFrom 86 = .ok (.getfield 21, 3) := by decide +kernel
theorem dX5_copyFrom_89 : decode cX5_copyFrom 89 = .ok (.iconst 0, 1) := by decide +kernel
theorem dX5_copyFrom_90 : decode cX5_copyFrom 90 = .ok (.aload_n 0, 1) := by decide +kernel
theorem dX5_copyFrom_91 : decode cX5_copyFrom 91 = .ok (.getfield 21, 3) := by decide +kernel
theorem dX5_copyFrom_94 : decode cX5_copyFrom 94 = .ok (.iconst 0, 1) := by decide +kernel
theorem dX5_copyFrom_95 : decode cX5_copyFrom 95 = .ok (.bipush 8, 2) := by decide +kernel
theorem dX5_copyFrom_97 : decode cX5_copyFrom 97 = .ok (.invokestatic 59, 3) := by decide +kernel
theorem dX5_copyFrom_100 : decode cX5_copyFrom 100 = .ok (.aload_n 1, 1) := by decide +kernel
theorem dX5_copyFrom_101 : decode cX5_copyFrom 101 = .ok (.getfield 24, 3) := by decide +kernel
theorem dX5_copyFrom_104 : decode cX5_copyFrom 104 = .ok (.iconst 0, 1) := by decide +kernel
theorem dX5_copyFrom_105 : decode cX5_copyFrom 105 = .ok (.aload_n 0, 1) := by decide +kernel
theorem dX5_copyFrom_106 : decode cX5_copyFrom 106 = .ok (.getfield 24, 3) := by decide +kernel
theorem dX5_copyFrom_109 : decode cX5_copyFrom 109 = .ok (.iconst 0, 1) := by decide +kernel
theorem dX5_copyFrom_110 : decode cX5_copyFrom 110 = .ok (.bipush 8, 2) := by decide +kernel
theorem dX5_copyFrom_112 : decode cX5_copyFrom 112 = .ok (.invokestatic 59, 3) := by decide +kernel
theorem dX5_copyFrom_115 : decode cX5_copyFrom 115 = .ok (.aload_n 1, 1) := by decide +kernel
theorem dX5_copyFrom_116 : decode cX5_copyFrom 116 = .ok (.getfield 27, 3) := by decide +kernel
theorem dX5_copyFrom_119 : decode cX5_copyFrom 119 = .ok (.iconst 0, 1) := by decide +kernel
theorem dX5_copyFrom_120 : decode cX5_copyFrom 120 = .ok (.aload_n 0, 1) := by decide +kernel
theorem dX5_copyFrom_121 : decode cX5_copyFrom 121 = .ok (.getfield 27, 3) := by decide +kernel
theorem dX5_copyFrom_124 : decode cX5_copyFrom 124 = .ok (.iconst 0, 1) := by decide +kernel
theorem dX5_copyFrom_125 : decode cX5_copyFrom 125 = .ok (.bipush 8, 2) := by decide +kernel
theorem dX5_copyFrom_127 : decode cX5_copyFrom 127 = .ok (.invokestatic 59, 3) := by decide +kernel
theorem dX5_copyFrom_130 : decode cX5_copyFrom 130 = .ok (.aload_n 1, 1) := by decide +kernel
theorem dX5_copyFrom_131 : decode cX5_copyFrom 131 = .ok (.getfield 30, 3) := by decide +kernel
theorem dX5_copyFrom_134 : decode cX5_copyFrom 134 = .ok (.iconst 0, 1) := by decide +kernel
theorem dX5_copyFrom_135 : decode cX5_copyFrom 135 = .ok (.aload_n 0, 1) := by decide +kernel
theorem dX5_copyFrom_136 : decode cX5_copyFrom 136 = .ok (.getfield 30, 3) := by decide +kernel
theorem dX5_copyFrom_139 : decode cX5_copyFrom 139 = .ok (.iconst 0, 1) := by decide +kernel
theorem dX5_copyFrom_140 : decode cX5_copyFrom 140 = .ok (.bipush 8, 2) := by decide +kernel
theorem dX5_copyFrom_142 : decode cX5_copyFrom 142 = .ok (.invokestatic 59, 3) := by decide +kernel
theorem dX5_copyFrom_145 : decode cX5_copyFrom 145 = .ok (.aload_n 1, 1) := by decide +kernel
theorem dX5_copyFrom_146 : decode cX5_copyFrom 146 = .ok (.getfield 33, 3) := by decide +kernel
theorem dX5_copyFrom_149 : decode cX5_copyFrom 149 = .ok (.iconst 0, 1) := by decide +kernel
theorem dX5_copyFrom_150 : decode cX5_copyFrom 150 = .ok (.aload_n 0, 1) := by decide +kernel
theorem dX5_copyFrom_151 : decode cX5_copyFrom 151 = .ok (.getfield 33, 3) := by decide +kernel
theorem dX5_copyFrom_154 : decode cX5_copyFrom 154 = .ok (.iconst 0, 1) := by decide +kernel
theorem dX5_copyFrom_155 : decode cX5_copyFrom 155 = .ok (.bipush 64, 2) := by decide +kernel
theorem dX5_copyFrom_157 : decode cX5_copyFrom 157 = .ok (.invokestatic 59, 3) := by decide +kernel
theorem dX5_copyFrom_160 : decode cX5_copyFrom 160 = .ok (.return_, 1) := by decide +kernel
theorem dX5_leastShineOf_0 : decode cX5_leastShineOf 0 = .ok (.iconst 0, 1) := by decide +kernel
theorem dX5_leastShineOf_1 : decode cX5_leastShineOf 1 = .ok (.istore_n 2, 1) := by decide +kernel
theorem dX5_leastShineOf_2 : decode cX5_leastShineOf 2 = .ok (.iload_n 2, 1) := by decide +kernel
theorem dX5_leastShineOf_3 : decode cX5_leastShineOf 3 = .ok (.aload_n 0, 1) := by decide +kernel
theorem dX5_leastShineOf_4 : decode cX5_leastShineOf 4 = .ok (.getfield 46, 3) := by decide +kernel
theorem dX5_leastShineOf_7 : decode cX5_leastShineOf 7 = .ok (.if_icmp .ge 21, 3) := by decide +kernel
theorem dX5_leastShineOf_10 : decode cX5_leastShineOf 10 = .ok (.aload_n 0, 1) := by decide +kernel
theorem dX5_leastShineOf_11 : decode cX5_leastShineOf 11 = .ok (.getfield 30, 3) := by decide +kernel
theorem dX5_leastShineOf_14 : decode cX5_leastShineOf 14 = .ok (.iload_n 2, 1) := by decide +kernel
theorem dX5_leastShineOf_15 : decode cX5_leastShineOf 15 = .ok (.iaload, 1) := by decide +kernel
theorem dX5_leastShineOf_16 : decode cX5_leastShineOf 16 = .ok (.iload_n 1, 1) := by decide +kernel
theorem dX5_leastShineOf_17 : decode cX5_leastShineOf 17 = .ok (.if_icmp .ne 5, 3) := by decide +kernel
theorem dX5_leastShineOf_20 : decode cX5_leastShineOf 20 = .ok (.iload_n 2, 1) := by decide +kernel
theorem dX5_leastShineOf_21 : decode cX5_leastShineOf 21 = .ok (.ireturn, 1) := by decide +kernel
theorem dX5_leastShineOf_22 : decode cX5_leastShineOf 22 = .ok (.iinc 2 1, 3) := by decide +kernel
theorem dX5_leastShineOf_25 : decode cX5_leastShineOf 25 = .ok (.goto (-23), 3) := by decide +kernel
theorem dX5_leastShineOf_28 : decode cX5_leastShineOf 28 = .ok (.iconst (-1), 1) := by decide +kernel
theorem dX5_leastShineOf_29 : decode cX5_leastShineOf 29 = .ok (.ireturn, 1) := by decide +kernel
theorem dX5_clear_0 : decode cX5_clear 0 = .ok (.aload_n 0, 1) := by decide +kernel
theorem dX5_clear_1 : decode cX5_clear 1 = .ok (.bipush 6, 2) := by decide +kernel
theorem dX5_clear_3 : decode cX5_clear 3 = .ok (.putfield 36, 3) := by decide +kernel
theorem dX5_clear_6 : decode cX5_clear 6 = .ok (.aload_n 0, 1) := by decide +kernel
theorem dX5_clear_7 : decode cX5_clear 7 = .ok (.bipush 6, 2) := by decide +kernel
theorem dX5_clear_9 : decode cX5_clear 9 = .ok (.putfield 40, 3) := by decide +kernel
theorem dX5_clear_12 : decode cX5_clear 12 = .ok (.aload_n 0, 1) := by decide +kernel
theorem dX5_clear_13 : decode cX5_clear 13 = .ok (.iconst 0, 1) := by decide +kernel
theorem dX5_clear_14 : decode cX5_clear 14 = .ok (.putfield 43, 3) := by decide +kernel
theorem dX5_clear_17 : decode cX5_clear 17 = .ok (.aload_n 0, 1) := by decide +kernel
theorem dX5_clear_18 : decode cX5_clear 18 = .ok (.iconst 0, 1) := by decide +kernel
theorem dX5_clear_19 : decode cX5_clear 19 = .ok (.putfield 46, 3) := by decide +kernel
theorem dX5_clear_22 : decode cX5_clear 22 = .ok (.aload_n 0, 1) := by decide +kernel
theorem dX5_clear_23 : decode cX5_clear 23 = .ok (.lconst 0, 1) := by decide +kernel
theorem dX5_clear_24 : decode cX5_clear 24 = .ok (.putfield 49, 3) := by decide +kernel
theorem dX5_clear_27 : decode cX5_clear 27 = .ok (.aload_n 0, 1) := by decide +kernel
theorem dX5_clear_28 : decode cX5_clear 28 = .ok (.getfield 33, 3) := by decide +kernel
theorem dX5_clear_31 : decode cX5_clear 31 = .ok (.iconst 0, 1) := by decide +kernel
theorem dX5_clear_32 : decode cX5_clear 32 = .ok (.invokestatic 53, 3) := by decide +kernel
theorem dX5_clear_35 : decode cX5_clear 35 = .ok (.return_, 1) := by decide +kernel
theorem dX5_addWall_0 : decode cX5_addWall 0 = .ok (.aload_n 0, 1) := by decide +kernel
theorem dX5_addWall_1 : decode cX5_addWall 1 = .ok (.dup, 1) := by decide +kernel
theorem dX5_addWall_2 : decode cX5_addWall 2 = .ok (.getfield 49, 3) := by decide +kernel
theorem dX5_addWall_5 : decode cX5_addWall 5 = .ok (.lconst 1, 1) := by decide +kernel
theorem dX5_addWall_6 : decode cX5_addWall 6 = .ok (.bipush 8, 2) := by decide +kernel
theorem dX5_addWall_8 : decode cX5_addWall 8 = .ok (.aload_n 1, 1) := by decide +kernel
theorem dX5_addWall_9 : decode cX5_addWall 9 = .ok (.iconst 1, 1) := by decide +kernel
theorem dX5_addWall_10 : decode cX5_addWall 10 = .ok (.iaload, 1) := by decide +kernel
theorem dX5_addWall_11 : decode cX5_addWall 11 = .ok (.imul, 1) := by decide +kernel
theorem dX5_addWall_12 : decode cX5_addWall 12 = .ok (.aload_n 1, 1) := by decide +kernel
theorem dX5_addWall_13 : decode cX5_addWall 13 = .ok (.iconst 0, 1) := by decide +kernel
theorem dX5_addWall_14 : decode cX5_addWall 14 = .ok (.iaload, 1) := by decide +kernel
theorem dX5_addWall_15 : decode cX5_addWall 15 = .ok (.iadd, 1) := by decide +kernel
theorem dX5_addWall_16 : decode cX5_addWall 16 = .ok (.lshl, 1) := by decide +kernel
theorem dX5_addWall_17 : decode cX5_addWall 17 = .ok (.lor, 1) := by decide +kernel
theorem dX5_addWall_18 : decode cX5_addWall 18 = .ok (.putfield 49, 3) := by decide +kernel
theorem dX5_addWall_21 : decode cX5_addWall 21 = .ok (.return_, 1) := by decide +kernel
theorem dX5_addPerson_0 : decode cX5_addPerson 0 = .ok (.aload_n 0, 1) := by decide +kernel
theorem dX5_addPerson_1 : decode cX5_addPerson 1 = .ok (.getfield 43, 3) := by decide +kernel
theorem dX5_addPerson_4 : decode cX5_addPerson 4 = .ok (.bipush 8, 2) := by decide +kernel
theorem dX5_addPerson_6 : decode cX5_addPerson 6 = .ok (.if_icmp .lt 4, 3) := by decide +kernel
theorem dX5_addPerson_9 : decode cX5_addPerson 9 = .ok (.return_, 1) := by decide +kernel
theorem dX5_addPerson_10 : decode cX5_addPerson 10 = .ok (.aload_n 0, 1) := by decide +kernel
theorem dX5_addPerson_11 : decode cX5_addPerson 11 = .ok (.getfield 9, 3) := by decide +kernel
theorem dX5_addPerson_14 : decode cX5_addPerson 14 = .ok (.aload_n 0, 1) := by decide +kernel
theorem dX5_addPerson_15 : decode cX5_addPerson 15 = .ok (.getfield 43, 3) := by decide +kernel
theorem dX5_addPerson_18 : decode cX5_addPerson 18 = .ok (.bipush 8, 2) := by decide +kernel
theorem dX5_addPerson_20 : decode cX5_addPerson 20 = .ok (.aload_n 1, 1) := by decide +kernel
theorem dX5_addPerson_21 : decode cX5_addPerson 21 = .ok (.iconst 1, 1) := by decide +kernel
theorem dX5_addPerson_22 : decode cX5_addPerson 22 = .ok (.iaload, 1) := by decide +kernel
theorem dX5_addPerson_23 : decode cX5_addPerson 23 = .ok (.imul, 1) := by decide +kernel
theorem dX5_addPerson_24 : decode cX5_addPerson 24 = .ok (.aload_n 1, 1) := by decide +kernel
theorem dX5_addPerson_25 : decode cX5_addPerson 25 = .ok (.iconst 0, 1) := by decide +kernel
theorem dX5_addPerson_26 : decode cX5_addPerson 26 = .ok (.iaload, 1) := by decide +kernel
theorem dX5_addPerson_27 : decode cX5_addPerson 27 = .ok (.iadd, 1) := by decide +kernel
theorem dX5_addPerson_28 : decode cX5_addPerson 28 = .ok (.iastore, 1) := by decide +kernel
theorem dX5_addPerson_29 : decode cX5_addPerson 29 = .ok (.aload_n 0, 1) := by decide +kernel
theorem dX5_addPerson_30 : decode cX5_addPerson 30 = .ok (.getfield 15, 3) := by decide +kernel
theorem dX5_addPerson_33 : decode cX5_addPerson 33 = .ok (.aload_n 0, 1) := by decide +kernel
theorem dX5_addPerson_34 : decode cX5_addPerson 34 = .ok (.getfield 43, 3) := by decide +kernel
theorem dX5_addPerson_37 : decode cX5_addPerson 37 = .ok (.aload_n 1, 1) := by decide +kernel
theorem dX5_addPerson_38 : decode cX5_addPerson 38 = .ok (.iconst 2, 1) := by decide +kernel
theorem dX5_addPerson_39 : decode cX5_addPerson 39 = .ok (.iaload, 1) := by decide +kernel
theorem dX5_addPerson_40 : decode cX5_addPerson 40 = .ok (.iastore, 1) := by decide +kernel
theorem dX5_addPerson_41 : decode cX5_addPerson 41 = .ok (.aload_n 0, 1) := by decide +kernel
theorem dX5_addPerson_42 : decode cX5_addPerson 42 = .ok (.dup, 1) := by decide +kernel
theorem dX5_addPerson_43 : decode cX5_addPerson 43 = .ok (.getfield 43, 3) := by decide +kernel
theorem dX5_addPerson_46 : decode cX5_addPerson 46 = .ok (.iconst 1, 1) := by decide +kernel
theorem dX5_addPerson_47 : decode cX5_addPerson 47 = .ok (.iadd, 1) := by decide +kernel
theorem dX5_addPerson_48 : decode cX5_addPerson 48 = .ok (.putfield 43, 3) := by decide +kernel
theorem dX5_addPerson_51 : decode cX5_addPerson 51 = .ok (.return_, 1) := by decide +kernel
theorem dX5_addShine_0 : decode cX5_addShine 0 = .ok (.aload_n 0, 1) := by decide +kernel
theorem dX5_addShine_1 : decode cX5_addShine 1 = .ok (.getfield 46, 3) := by decide +kernel
theorem dX5_addShine_4 : decode cX5_addShine 4 = .ok (.bipush 8, 2) := by decide +kernel
theorem dX5_addShine_6 : decode cX5_addShine 6 = .ok (.if_icmp .lt 4, 3) := by decide +kernel
theorem dX5_addShine_9 : decode cX5_addShine 9 = .ok (.return_, 1) := by decide +kernel
theorem dX5_addShine_10 : decode cX5_addShine 10 = .ok (.aload_n 0, 1) := by decide +kernel
theorem dX5_addShine_11 : decode cX5_addShine 11 = .ok (.getfield 18, 3) := by decide +kernel
theorem dX5_addShine_14 : decode cX5_addShine 14 = .ok (.aload_n 0, 1) := by decide +kernel
theorem dX5_addShine_15 : decode cX5_addShine 15 = .ok (.getfield 46, 3) := by decide +kernel
theorem dX5_addShine_18 : decode cX5_addShine 18 = .ok (.iload_n 1, 1) := by decide +kernel
theorem dX5_addShine_19 : decode cX5_addShine 19 = .ok (.iastore, 1) := by decide +kernel
theorem dX5_addShine_20 : decode cX5_addShine 20 = .ok (.aload_n 0, 1) := by decide +kernel
theorem dX5_addShine_21 : decode cX5_addShine 21 = .ok (.getfield 21, 3) := by decide +kernel
theorem dX5_addShine_24 : decode cX5_addShine 24 = .ok (.aload_n 0, 1) := by decide +kernel
theorem dX5_addShine_25 : decode cX5_addShine 25 = .ok (.getfield 46, 3) := by decide +kernel
theorem dX5_addShine_28 : decode cX5_addShine 28 = .ok (.bipush 8, 2) := by decide +kernel
theorem dX5_addShine_30 : decode cX5_addShine 30 = .ok (.aload_n 2, 1) := by decide +kernel
theorem dX5_addShine_31 : decode cX5_addShine 31 = .ok (.iconst 1, 1) := by decide +kernel
theorem dX5_addShine_32 : decode cX5_addShine 32 = .ok (.iaload, 1) := by decide +kernel
theorem dX5_addShine_33 : decode cX5_addShine 33 = .ok (.imul, 1) := by decide +kernel
theorem dX5_addShine_34 : decode cX5_addShine 34 = .ok (.aload_n 2, 1) := by decide +kernel
theorem dX5_addShine_35 : decode cX5_addShine 35 = .ok (.iconst 0, 1) := by decide +kernel
theorem dX5_addShine_36 : decode cX5_addShine 36 = .ok (.iaload, 1) := by decide +kernel
theorem dX5_addShine_37 : decode cX5_addShine 37 = .ok (.iadd, 1) := by decide +kernel
theorem dX5_addShine_38 : decode cX5_addShine 38 = .ok (.iastore, 1) := by decide +kernel
theorem dX5_addShine_39 : decode cX5_addShine 39 = .ok (.aload_n 0, 1) := by decide +kernel
theorem dX5_addShine_40 : decode cX5_addShine 40 = .ok (.getfield 24, 3) := by decide +kernel
theorem dX5_addShine_43 : decode cX5_addShine 43 = .ok (.aload_n 0, 1) := by decide +kernel
theorem dX5_addShine_44 : decode cX5_addShine 44 = .ok (.getfield 46, 3) := by decide +kernel
theorem dX5_addShine_47 : decode cX5_addShine 47 = .ok (.aload_n 2, 1) := by decide +kernel
theorem dX5_addShine_48 : decode cX5_addShine 48 = .ok (.iconst 2, 1) := by decide +kernel
theorem dX5_addShine_49 : decode cX5_addShine 49 = .ok (.iaload, 1) := by decide +kernel
theorem dX5_addShine_50 : decode cX5_addShine 50 = .ok (.iastore, 1) := by decide +kernel
theorem dX5_addShine_51 : decode cX5_addShine 51 = .ok (.aload_n 0, 1) := by decide +kernel
theorem dX5_addShine_52 : decode cX5_addShine 52 = .ok (.getfield 27, 3) := by decide +kernel
theorem dX5_addShine_55 : decode cX5_addShine 55 = .ok (.aload_n 0, 1) := by decide +kernel
theorem dX5_addShine_56 : decode cX5_addShine 56 = .ok (.getfield 46, 3) := by decide +kernel
theorem dX5_addShine_59 : decode cX5_addShine 59 = .ok (.aload_n 2, 1) := by decide +kernel
theorem dX5_addShine_60 : decode cX5_addShine 60 = .ok (.iconst 3, 1) := by decide +kernel
theorem dX5_addShine_61 : decode cX5_addShine 61 = .ok (.iaload, 1) := by decide +kernel
theorem dX5_addShine_62 : decode cX5_addShine 62 = .ok (.iastore, 1) := by decide +kernel
theorem dX5_addShine_63 : decode cX5_addShine 63 = .ok (.aload_n 0, 1) := by decide +kernel
theorem dX5_addShine_64 : decode cX5_addShine 64 = .ok (.getfield 30, 3) := by decide +kernel
theorem dX5_addShine_67 : decode cX5_addShine 67 = .ok (.aload_n 0, 1) := by decide +kernel
theorem dX5_addShine_68 : decode cX5_addShine 68 = .ok (.getfield 46, 3) := by decide +kernel
theorem dX5_addShine_71 : decode cX5_addShine 71 = .ok (.aload_n 2, 1) := by decide +kernel
theorem dX5_addShine_72 : decode cX5_addShine 72 = .ok (.iconst 4, 1) := by decide +kernel
theorem dX5_addShine_73 : decode cX5_addShine 73 = .ok (.iaload, 1) := by decide +kernel
theorem dX5_addShine_74 : decode cX5_addShine 74 = .ok (.iastore, 1) := by decide +kernel
theorem dX5_addShine_75 : decode cX5_addShine 75 = .ok (.aload_n 0, 1) := by decide +kernel
theorem dX5_addShine_76 : decode cX5_addShine 76 = .ok (.dup, 1) := by decide +kernel
theorem dX5_addShine_77 : decode cX5_addShine 77 = .ok (.getfield 46, 3) := by decide +kernel
theorem dX5_addShine_80 : decode cX5_addShine 80 = .ok (.iconst 1, 1) := by decide +kernel
theorem dX5_addShine_81 : decode cX5_addShine 81 = .ok (.iadd, 1) := by decide +kernel
theorem dX5_addShine_82 : decode cX5_addShine 82 = .ok (.putfield 46, 3) := by decide +kernel
theorem dX5_addShine_85 : decode cX5_addShine 85 = .ok (.return_, 1) := by decide +kernel
theorem dX5_isOutside_0 : decode cX5_isOutside 0 = .ok (.iload_n 1, 1) := by decide +kernel
theorem dX5_isOutside_1 : decode cX5_isOutside 1 = .ok (.bipush 7, 2) := by decide +kernel
theorem dX5_isOutside_3 : decode cX5_isOutside 3 = .ok (.iand, 1) := by decide +kernel
theorem dX5_isOutside_4 : decode cX5_isOutside 4 = .ok (.aload_n 0, 1) := by decide +kernel
theorem dX5_isOutside_5 : decode cX5_isOutside 5 = .ok (.getfield 36, 3) := by decide +kernel
theorem dX5_isOutside_8 : decode cX5_isOutside 8 = .ok (.if_icmp .ge 13, 3) := by decide +kernel
theorem dX5_isOutside_11 : decode cX5_isOutside 11 = .ok (.iload_n 1, 1) := by decide +kernel
theorem dX5_isOutside_12 : decode cX5_isOutside 12 = .ok (.iconst 3, 1) := by decide +kernel
theorem dX5_isOutside_13 : decode cX5_isOutside 13 = .ok (.ishr, 1) := by decide +kernel
theorem dX5_isOutside_14 : decode cX5_isOutside 14 = .ok (.aload_n 0, 1) := by decide +kernel
theorem dX5_isOutside_15 : decode cX5_isOutside 15 = .ok (.getfield 40, 3) := by decide +kernel
theorem dX5_isOutside_18 : decode cX5_isOutside 18 = .ok (.if_icmp .lt 7, 3) := by decide +kernel
theorem dX5_isOutside_21 : decode cX5_isOutside 21 = .ok (.iconst 1, 1) := by decide +kernel
theorem dX5_isOutside_22 : decode cX5_isOutside 22 = .ok (.goto 4, 3) := by decide +kernel
theorem dX5_isOutside_25 : decode cX5_isOutside 25 = .ok (.iconst 0, 1) := by decide +kernel
theorem dX5_isOutside_26 : decode cX5_isOutside 26 = .ok (.ireturn, 1) := by decide +kernel
theorem dX5_isAnyOutside_0 : decode cX5_isAnyOutside 0 = .ok (.iconst 0, 1) := by decide +kernel
theorem dX5_isAnyOutside_1 : decode cX5_isAnyOutside 1 = .ok (.istore_n 1, 1) := by decide +kernel
theorem dX5_isAnyOutside_2 : decode cX5_isAnyOutside 2 = .ok (.iload_n 1, 1) := by decide +kernel
theorem dX5_isAnyOutside_3 : decode cX5_isAnyOutside 3 = .ok (.bipush 64, 2) := by decide +kernel
theorem dX5_isAnyOutside_5 : decode cX5_isAnyOutside 5 = .ok (.if_icmp .ge 32, 3) := by decide +kernel
theorem dX5_isAnyOutside_8 : decode cX5_isAnyOutside 8 = .ok (.aload_n 0, 1) := by decide +kernel
theorem dX5_isAnyOutside_9 : decode cX5_isAnyOutside 9 = .ok (.getfield 49, 3) := by decide +kernel
theorem dX5_isAnyOutside_12 : decode cX5_isAnyOutside 12 = .ok (.iload_n 1, 1) := by decide +kernel
theorem dX5_isAnyOutside_13 : decode cX5_isAnyOutside 13 = .ok (.lushr, 1) := by decide +kernel
theorem dX5_isAnyOutside_14 : decode cX5_isAnyOutside 14 = .ok (.lconst 1, 1) := by decide +kernel
theorem dX5_isAnyOutside_15 : decode cX5_isAnyOutside 15 = .ok (.land, 1) := by decide +kernel
theorem dX5_isAnyOutside_16 : decode cX5_isAnyOutside 16 = .ok (.lconst 0, 1) := by decide +kernel
theorem dX5_isAnyOutside_17 : decode cX5_isAnyOutside 17 = .ok (.lcmp, 1) := by decide +kernel
theorem dX5_isAnyOutside_18 : decode cX5_isAnyOutside 18 = .ok (.ifCond .eq 13, 3) := by decide +kernel
theorem dX5_isAnyOutside_21 : decode cX5_isAnyOutside 21 = .ok (.aload_n 0, 1) := by decide +kernel
theorem dX5_isAnyOutside_22 : decode cX5_isAnyOutside 22 = .ok (.iload_n 1, 1) := by decide +kernel
theorem dX5_isAnyOutside_23 : decode cX5_isAnyOutside 23 = .ok (.invokevirtual 73, 3) := by decide +kernel
theorem dX5_isAnyOutside_26 : decode cX5_isAnyOutside 26 = .ok (.ifCond .eq 5, 3) := by decide +kernel
theorem dX5_isAnyOutside_29 : decode cX5_isAnyOutside 29 = .ok (.iconst 1, 1) := by decide +kernel
theorem dX5_isAnyOutside_30 : decode cX5_isAnyOutside 30 = .ok (.ireturn, 1) := by decide +kernel
theorem dX5_isAnyOutside_31 : decode cX5_isAnyOutside 31 = .ok (.iinc 1 1, 3) := by decide +kernel
theorem dX5_isAnyOutside_34 : decode cX5_isAnyOutside 34 = .ok (.goto (-32), 3) := by decide +kernel
theorem dX5_isAnyOutside_37 : decode cX5_isAnyOutside 37 = .ok (.iconst 0, 1) := by decide +kernel
theorem dX5_isAnyOutside_38 : decode cX5_isAnyOutside 38 = .ok (.istore_n 1, 1) := by decide +kernel
theorem dX5_isAnyOutside_39 : decode cX5_isAnyOutside 39 = .ok (.iload_n 1, 1) := by decide +kernel
theorem dX5_isAnyOutside_40 : decode cX5_isAnyOutside 40 = .ok (.aload_n 0, 1) := by decide +kernel
theorem dX5_isAnyOutside_41 : decode cX5_isAnyOutside 41 = .ok (.getfield 43, 3) := by decide +kernel
theorem dX5_isAnyOutside_44 : decode cX5_isAnyOutside 44 = .ok (.if_icmp .ge 24, 3) := by decide +kernel
theorem dX5_isAnyOutside_47 : decode cX5_isAnyOutside 47 = .ok (.aload_n 0, 1) := by decide +kernel
theorem dX5_isAnyOutside_48 : decode cX5_isAnyOutside 48 = .ok (.aload_n 0, 1) := by decide +kernel
theorem dX5_isAnyOutside_49 : decode cX5_isAnyOutside 49 = .ok (.getfield 9, 3) := by decide +kernel
theorem dX5_isAnyOutside_52 : decode cX5_isAnyOutside 52 = .ok (.iload_n 1, 1) := by decide +kernel
theorem dX5_isAnyOutside_53 : decode cX5_isAnyOutside 53 = .ok (.iaload, 1) := by decide +kernel
theorem dX5_isAnyOutside_54 : decode cX5_isAnyOutside 54 = .ok (.invokevirtual 73, 3) := by decide +kernel
theorem dX5_isAnyOutside_57 : decode cX5_isAnyOutside 57 = .ok (.ifCond .eq 5, 3) := by decide +kernel
theorem dX5_isAnyOutside_60 : decode cX5_isAnyOutside 60 = .ok (.iconst 1, 1) := by decide +kernel
theorem dX5_isAnyOutside_61 : decode cX5_isAnyOutside 61 = .ok (.ireturn, 1) := by decide +kernel
theorem dX5_isAnyOutside_62 : decode cX5_isAnyOutside 62 = .ok (.iinc 1 1, 3) := by decide +kernel
theorem dX5_isAnyOutside_65 : decode cX5_isAnyOutside 65 = .ok (.goto (-26), 3) := by decide +kernel
theorem dX5_isAnyOutside_68 : decode cX5_isAnyOutside 68 = .ok (.iconst 0, 1) := by decide +kernel
theorem dX5_isAnyOutside_69 : decode cX5_isAnyOutside 69 = .ok (.istore_n 1, 1) := by decide +kernel
theorem dX5_isAnyOutside_70 : decode cX5_isAnyOutside 70 = .ok (.iload_n 1, 1) := by decide +kernel
theorem dX5_isAnyOutside_71 : decode cX5_isAnyOutside 71 = .ok (.aload_n 0, 1) := by decide +kernel
theorem dX5_isAnyOutside_72 : decode cX5_isAnyOutside 72 = .ok (.getfield 46, 3) := by decide +kernel
theorem dX5_isAnyOutside_75 : decode cX5_isAnyOutside 75 = .ok (.if_icmp .ge 24, 3) := by decide +kernel
theorem dX5_isAnyOutside_78 : decode cX5_isAnyOutside 78 = .ok (.aload_n 0, 1) := by decide +kernel
theorem dX5_isAnyOutside_79 : decode cX5_isAnyOutside 79 = .ok (.aload_n 0, 1) := by decide +kernel
theorem dX5_isAnyOutside_80 : decode cX5_isAnyOutside 80 = .ok (.getfield 21, 3) := by decide +kernel
theorem dX5_isAnyOutside_83 : decode cX5_isAnyOutside 83 = .ok (.iload_n 1, 1) := by decide +kernel
theorem dX5_isAnyOutside_84 : decode cX5_isAnyOutside 84 = .ok (.iaload, 1) := by decide +kernel
theorem dX5_isAnyOutside_85 : decode cX5_isAnyOutside 85 = .ok (.invokevirtual 73, 3) := by decide +kernel
theorem dX5_isAnyOutside_88 : decode cX5_isAnyOutside 88 = .ok (.ifCond .eq 5, 3) := by decide +kernel
theorem dX5_isAnyOutside_91 : decode cX5_isAnyOutside 91 = .ok (.iconst 1, 1) := by decide +kernel
theorem dX5_isAnyOutside_92 : decode cX5_isAnyOutside 92 = .ok (.ireturn, 1) := by decide +kernel
theorem dX5_isAnyOutside_93 : decode cX5_isAnyOutside 93 = .ok (.iinc 1 1, 3) := by decide +kernel
theorem dX5_isAnyOutside_96 : decode cX5_isAnyOutside 96 = .ok (.goto (-26), 3) := by decide +kernel
theorem dX5_isAnyOutside_99 : decode cX5_isAnyOutside 99 = .ok (.iconst 0, 1) := by decide +kernel
theorem dX5_isAnyOutside_100 : decode cX5_isAnyOutside 100 = .ok (.ireturn, 1) := by decide +kernel
theorem dX5_squareOf_0 : decode cX5_squareOf 0 = .ok (.aload_n 0, 1) := by decide +kernel
theorem dX5_squareOf_1 : decode cX5_squareOf 1 = .ok (.getfield 36, 3) := by decide +kernel
theorem dX5_squareOf_4 : decode cX5_squareOf 4 = .ok (.iload_n 1, 1) := by decide +kernel
theorem dX5_squareOf_5 : decode cX5_squareOf 5 = .ok (.iconst 3, 1) := by decide +kernel
theorem dX5_squareOf_6 : decode cX5_squareOf 6 = .ok (.ishr, 1) := by decide +kernel
theorem dX5_squareOf_7 : decode cX5_squareOf 7 = .ok (.imul, 1) := by decide +kernel
theorem dX5_squareOf_8 : decode cX5_squareOf 8 = .ok (.iload_n 1, 1) := by decide +kernel
theorem dX5_squareOf_9 : decode cX5_squareOf 9 = .ok (.bipush 7, 2) := by decide +kernel
theorem dX5_squareOf_11 : decode cX5_squareOf 11 = .ok (.iand, 1) := by decide +kernel
theorem dX5_squareOf_12 : decode cX5_squareOf 12 = .ok (.iadd, 1) := by decide +kernel
theorem dX5_squareOf_13 : decode cX5_squareOf 13 = .ok (.ireturn, 1) := by decide +kernel
theorem dX5_settle_0 : decode cX5_settle 0 = .ok (.aload_n 0, 1) := by decide +kernel
theorem dX5_settle_1 : decode cX5_settle 1 = .ok (.invokevirtual 65, 3) := by decide +kernel
theorem dX5_settle_4 : decode cX5_settle 4 = .ok (.ifCond .eq 5, 3) := by decide +kernel
theorem dX5_settle_7 : decode cX5_settle 7 = .ok (.iconst 4, 1) := by decide +kernel
theorem dX5_settle_8 : decode cX5_settle 8 = .ok (.ireturn, 1) := by decide +kernel
theorem dX5_settle_9 : decode cX5_settle 9 = .ok (.iconst 0, 1) := by decide +kernel
theorem dX5_settle_10 : decode cX5_settle 10 = .ok (.istore_n 1, 1) := by decide +kernel
theorem dX5_settle_11 : decode cX5_settle 11 = .ok (.iload_n 1, 1) := by decide +kernel
theorem dX5_settle_12 : decode cX5_settle 12 = .ok (.bipush 64, 2) := by decide +kernel
theorem dX5_settle_14 : decode cX5_settle 14 = .ok (.if_icmp .ge 33, 3) := by decide +kernel
theorem dX5_settle_17 : decode cX5_settle 17 = .ok (.aload_n 0, 1) := by decide +kernel
theorem dX5_settle_18 : decode cX5_settle 18 = .ok (.getfield 49, 3) := by decide +kernel
theorem dX5_settle_21 : decode cX5_settle 21 = .ok (.iload_n 1, 1) := by decide +kernel
theorem dX5_settle_22 : decode cX5_settle 22 = .ok (.lushr, 1) := by decide +kernel
theorem dX5_settle_23 : decode cX5_settle 23 = .ok (.lconst 1, 1) := by decide +kernel
theorem dX5_settle_24 : decode cX5_settle 24 = .ok (.land, 1) := by decide +kernel
theorem dX5_settle_25 : decode cX5_settle 25 = .ok (.lconst 0, 1) := by decide +kernel
theorem dX5_settle_26 : decode cX5_settle 26 = .ok (.lcmp, 1) := by decide +kernel
theorem dX5_settle_27 : decode cX5_settle 27 = .ok (.ifCond .eq 14, 3) := by decide +kernel
theorem dX5_settle_30 : decode cX5_settle 30 = .ok (.aload_n 0, 1) := by decide +kernel
theorem dX5_settle_31 : decode cX5_settle 31 = .ok (.getfield 33, 3) := by decide +kernel
theorem dX5_settle_34 : decode cX5_settle 34 = .ok (.aload_n 0, 1) := by decide +kernel
theorem dX5_settle_35 : decode cX5_settle 35 = .ok (.iload_n 1, 1) := by decide +kernel
theorem dX5_settle_36 : decode cX5_settle 36 = .ok (.invokevirtual 69, 3) := by decide +kernel
theorem dX5_settle_39 : decode cX5_settle 39 = .ok (.iconst 1, 1) := by decide +kernel
theorem dX5_settle_40 : decode cX5_settle 40 = .ok (.iastore, 1) := by decide +kernel
theorem dX5_settle_41 : decode cX5_settle 41 = .ok (.iinc 1 1, 3) := by decide +kernel
theorem dX5_settle_44 : decode cX5_settle 44 = .ok (.goto (-33), 3) := by decide +kernel
theorem dX5_settle_47 : decode cX5_settle 47 = .ok (.iconst 0, 1) := by decide +kernel
theorem dX5_settle_48 : decode cX5_settle 48 = .ok (.istore_n 1, 1) := by decide +kernel
theorem dX5_settle_49 : decode cX5_settle 49 = .ok (.iload_n 1, 1) := by decide +kernel
theorem dX5_settle_50 : decode cX5_settle 50 = .ok (.aload_n 0, 1) := by decide +kernel
theorem dX5_settle_51 : decode cX5_settle 51 = .ok (.getfield 43, 3) := by decide +kernel
theorem dX5_settle_54 : decode cX5_settle 54 = .ok (.if_icmp .ge 56, 3) := by decide +kernel
theorem dX5_settle_57 : decode cX5_settle 57 = .ok (.aload_n 0, 1) := by decide +kernel
theorem dX5_settle_58 : decode cX5_settle 58 = .ok (.getfield 9, 3) := by decide +kernel
theorem dX5_settle_61 : decode cX5_settle 61 = .ok (.iload_n 1, 1) := by decide +kernel
theorem dX5_settle_62 : decode cX5_settle 62 = .ok (.aload_n 0, 1) := by decide +kernel
theorem dX5_settle_63 : decode cX5_settle 63 = .ok (.aload_n 0, 1) := by decide +kernel
theorem dX5_settle_64 : decode cX5_settle 64 = .ok (.getfield 9, 3) := by decide +kernel
theorem dX5_settle_67 : decode cX5_settle 67 = .ok (.iload_n 1, 1) := by decide +kernel
theorem dX5_settle_68 : decode cX5_settle 68 = .ok (.iaload, 1) := by decide +kernel
theorem dX5_settle_69 : decode cX5_settle 69 = .ok (.invokevirtual 69, 3) := by decide +kernel
theorem dX5_settle_72 : decode cX5_settle 72 = .ok (.iastore, 1) := by decide +kernel
theorem dX5_settle_73 : decode cX5_settle 73 = .ok (.aload_n 0, 1) := by decide +kernel
theorem dX5_settle_74 : decode cX5_settle 74 = .ok (.getfield 33, 3) := by decide +kernel
theorem dX5_settle_77 : decode cX5_settle 77 = .ok (.aload_n 0, 1) := by decide +kernel
theorem dX5_settle_78 : decode cX5_settle 78 = .ok (.getfield 9, 3) := by decide +kernel
theorem dX5_settle_81 : decode cX5_settle 81 = .ok (.iload_n 1, 1) := by decide +kernel
theorem dX5_settle_82 : decode cX5_settle 82 = .ok (.iaload, 1) := by decide +kernel
theorem dX5_settle_83 : decode cX5_settle 83 = .ok (.iaload, 1) := by decide +kernel
theorem dX5_settle_84 : decode cX5_settle 84 = .ok (.ifCond .eq 5, 3) := by decide +kernel
theorem dX5_settle_87 : decode cX5_settle 87 = .ok (.iconst 5, 1) := by decide +kernel
theorem dX5_settle_88 : decode cX5_settle 88 = .ok (.ireturn, 1) := by decide +kernel
theorem dX5_settle_89 : decode cX5_settle 89 = .ok (.aload_n 0, 1) := by decide +kernel
theorem dX5_settle_90 : decode cX5_settle 90 = .ok (.getfield 33, 3) := by decide +kernel
theorem dX5_settle_93 : decode cX5_settle 93 = .ok (.aload_n 0, 1) := by decide +kernel
theorem dX5_settle_94 : decode cX5_settle 94 = .ok (.getfield 9, 3) := by decide +kernel
theorem dX5_settle_97 : decode cX5_settle 97 = .ok (.iload_n 1, 1) := by decide +kernel
theorem dX5_settle_98 : decode cX5_settle 98 = .ok (.iaload, 1) := by decide +kernel
theorem dX5_settle_99 : decode cX5_settle 99 = .ok (.bipush 10, 2) := by decide +kernel
theorem dX5_settle_101 : decode cX5_settle 101 = .ok (.iload_n 1, 1) := by decide +kernel
theorem dX5_settle_102 : decode cX5_settle 102 = .ok (.iadd, 1) := by decide +kernel
theorem dX5_settle_103 : decode cX5_settle 103 = .ok (.iastore, 1) := by decide +kernel
theorem dX5_settle_104 : decode cX5_settle 104 = .ok (.iinc 1 1, 3) := by decide +kernel
theorem dX5_settle_107 : decode cX5_settle 107 = .ok (.goto (-58), 3) := by decide +kernel
theorem dX5_settle_110 : decode cX5_settle 110 = .ok (.iconst 0, 1) := by decide +kernel
theorem dX5_settle_111 : decode cX5_settle 111 = .ok (.istore_n 1, 1) := by decide +kernel
theorem dX5_settle_112 : decode cX5_settle 112 = .ok (.iload_n 1, 1) := by decide +kernel
theorem dX5_settle_113 : decode cX5_settle 113 = .ok (.aload_n 0, 1) := by decide +kernel
theorem dX5_settle_114 : decode cX5_settle 114 = .ok (.getfield 46, 3) := by decide +kernel
theorem dX5_settle_117 : decode cX5_settle 117 = .ok (.if_icmp .ge 56, 3) := by decide +kernel
theorem dX5_settle_120 : decode cX5_settle 120 = .ok (.aload_n 0, 1) := by decide +kernel
theorem dX5_settle_121 : decode cX5_settle 121 = .ok (.getfield 21, 3) := by decide +kernel
theorem dX5_settle_124 : decode cX5_settle 124 = .ok (.iload_n 1, 1) := by decide +kernel
theorem dX5_settle_125 : decode cX5_settle 125 = .ok (.aload_n 0, 1) := by decide +kernel
theorem dX5_settle_126 : decode cX5_settle 126 = .ok (.aload_n 0, 1) := by decide +kernel
theorem dX5_settle_127 : decode cX5_settle 127 = .ok (.getfield 21, 3) := by decide +kernel
theorem dX5_settle_130 : decode cX5_settle 130 = .ok (.iload_n 1, 1) := by decide +kernel
theorem dX5_settle_131 : decode cX5_settle 131 = .ok (.iaload, 1) := by decide +kernel
theorem dX5_settle_132 : decode cX5_settle 132 = .ok (.invokevirtual 69, 3) := by decide +kernel
theorem dX5_settle_135 : decode cX5_settle 135 = .ok (.iastore, 1) := by decide +kernel
theorem dX5_settle_136 : decode cX5_settle 136 = .ok (.aload_n 0, 1) := by decide +kernel
theorem dX5_settle_137 : decode cX5_settle 137 = .ok (.getfield 33, 3) := by decide +kernel
theorem dX5_settle_140 : decode cX5_settle 140 = .ok (.aload_n 0, 1) := by decide +kernel
theorem dX5_settle_141 : decode cX5_settle 141 = .ok (.getfield 21, 3) := by decide +kernel
theorem dX5_settle_144 : decode cX5_settle 144 = .ok (.iload_n 1, 1) := by decide +kernel
theorem dX5_settle_145 : decode cX5_settle 145 = .ok (.iaload, 1) := by decide +kernel
theorem dX5_settle_146 : decode cX5_settle 146 = .ok (.iaload, 1) := by decide +kernel
theorem dX5_settle_147 : decode cX5_settle 147 = .ok (.ifCond .eq 5, 3) := by decide +kernel
theorem dX5_settle_150 : decode cX5_settle 150 = .ok (.iconst 5, 1) := by decide +kernel
theorem dX5_settle_151 : decode cX5_settle 151 = .ok (.ireturn, 1) := by decide +kernel
theorem dX5_settle_152 : decode cX5_settle 152 = .ok (.aload_n 0, 1) := by decide +kernel
theorem dX5_settle_153 : decode cX5_settle 153 = .ok (.getfield 33, 3) := by decide +kernel
theorem dX5_settle_156 : decode cX5_settle 156 = .ok (.aload_n 0, 1) := by decide +kernel
theorem dX5_settle_157 : decode cX5_settle 157 = .ok (.getfield 21, 3) := by decide +kernel
theorem dX5_settle_160 : decode cX5_settle 160 = .ok (.iload_n 1, 1) := by decide +kernel
theorem dX5_settle_161 : decode cX5_settle 161 = .ok (.iaload, 1) := by decide +kernel
theorem dX5_settle_162 : decode cX5_settle 162 = .ok (.bipush 20, 2) := by decide +kernel
theorem dX5_settle_164 : decode cX5_settle 164 = .ok (.iload_n 1, 1) := by decide +kernel
theorem dX5_settle_165 : decode cX5_settle 165 = .ok (.iadd, 1) := by decide +kernel
theorem dX5_settle_166 : decode cX5_settle 166 = .ok (.iastore, 1) := by decide +kernel
theorem dX5_settle_167 : decode cX5_settle 167 = .ok (.iinc 1 1, 3) := by decide +kernel
theorem dX5_settle_170 : decode cX5_settle 170 = .ok (.goto (-58), 3) := by decide +kernel
theorem dX5_settle_173 : decode cX5_settle 173 = .ok (.iconst 0, 1) := by decide +kernel
theorem dX5_settle_174 : decode cX5_settle 174 = .ok (.ireturn, 1) := by decide +kernel
theorem dX5_hasSquare_0 : decode cX5_hasSquare 0 = .ok (.iload_n 1, 1) := by decide +kernel
theorem dX5_hasSquare_1 : decode cX5_hasSquare 1 = .ok (.ifCond .lt 20, 3) := by decide +kernel
theorem dX5_hasSquare_4 : decode cX5_hasSquare 4 = .ok (.iload_n 1, 1) := by decide +kernel
theorem dX5_hasSquare_5 : decode cX5_hasSquare 5 = .ok (.aload_n 0, 1) := by decide +kernel
theorem dX5_hasSquare_6 : decode cX5_hasSquare 6 = .ok (.getfield 36, 3) := by decide +kernel
theorem dX5_hasSquare_9 : decode cX5_hasSquare 9 = .ok (.aload_n 0, 1) := by decide +kernel
theorem dX5_hasSquare_10 : decode cX5_hasSquare 10 = .ok (.getfield 40, 3) := by decide +kernel
theorem dX5_hasSquare_13 : decode cX5_hasSquare 13 = .ok (.imul, 1) := by decide +kernel
theorem dX5_hasSquare_14 : decode cX5_hasSquare 14 = .ok (.if_icmp .ge 7, 3) := by decide +kernel
theorem dX5_hasSquare_17 : decode cX5_hasSquare 17 = .ok (.iconst 1, 1) := by decide +kernel
theorem dX5_hasSquare_18 : decode cX5_hasSquare 18 = .ok (.goto 4, 3) := by decide +kernel
theorem dX5_hasSquare_21 : decode cX5_hasSquare 21 = .ok (.iconst 0, 1) := by decide +kernel
theorem dX5_hasSquare_22 : decode cX5_hasSquare 22 = .ok (.ireturn, 1) := by decide +kernel
theorem dX5_hasPerson_0 : decode cX5_hasPerson 0 = .ok (.iload_n 1, 1) := by decide +kernel
theorem dX5_hasPerson_1 : decode cX5_hasPerson 1 = .ok (.ifCond .lt 15, 3) := by decide +kernel
theorem dX5_hasPerson_4 : decode cX5_hasPerson 4 = .ok (.iload_n 1, 1) := by decide +kernel
theorem dX5_hasPerson_5 : decode cX5_hasPerson 5 = .ok (.aload_n 0, 1) := by decide +kernel
theorem dX5_hasPerson_6 : decode cX5_hasPerson 6 = .ok (.getfield 43, 3) := by decide +kernel
theorem dX5_hasPerson_9 : decode cX5_hasPerson 9 = .ok (.if_icmp .ge 7, 3) := by decide +kernel
theorem dX5_hasPerson_12 : decode cX5_hasPerson 12 = .ok (.iconst 1, 1) := by decide +kernel
theorem dX5_hasPerson_13 : decode cX5_hasPerson 13 = .ok (.goto 4, 3) := by decide +kernel
theorem dX5_hasPerson_16 : decode cX5_hasPerson 16 = .ok (.iconst 0, 1) := by decide +kernel
theorem dX5_hasPerson_17 : decode cX5_hasPerson 17 = .ok (.ireturn, 1) := by decide +kernel
theorem dX5_hasShine_0 : decode cX5_hasShine 0 = .ok (.iload_n 1, 1) := by decide +kernel
theorem dX5_hasShine_1 : decode cX5_hasShine 1 = .ok (.ifCond .lt 15, 3) := by decide +kernel
theorem dX5_hasShine_4 : decode cX5_hasShine 4 = .ok (.iload_n 1, 1) := by decide +kernel
theorem dX5_hasShine_5 : decode cX5_hasShine 5 = .ok (.aload_n 0, 1) := by decide +kernel
theorem dX5_hasShine_6 : decode cX5_hasShine 6 = .ok (.getfield 46, 3) := by decide +kernel
theorem dX5_hasShine_9 : decode cX5_hasShine 9 = .ok (.if_icmp .ge 7, 3) := by decide +kernel
theorem dX5_hasShine_12 : decode cX5_hasShine 12 = .ok (.iconst 1, 1) := by decide +kernel
theorem dX5_hasShine_13 : decode cX5_hasShine 13 = .ok (.goto 4, 3) := by decide +kernel
theorem dX5_hasShine_16 : decode cX5_hasShine 16 = .ok (.iconst 0, 1) := by decide +kernel
theorem dX5_hasShine_17 : decode cX5_hasShine 17 = .ok (.ireturn, 1) := by decide +kernel
theorem dX5_tellShine_0 : decode cX5_tellShine 0 = .ok (.iload_n 1, 1) := by decide +kernel
theorem dX5_tellShine_1 : decode cX5_tellShine 1 = .ok (.iconst 3, 1) := by decide +kernel
theorem dX5_tellShine_2 : decode cX5_tellShine 2 = .ok (.if_icmp .ne 10, 3) := by decide +kernel
theorem dX5_tellShine_5 : decode cX5_tellShine 5 = .ok (.aload_n 0, 1) := by decide +kernel
theorem dX5_tellShine_6 : decode cX5_tellShine 6 = .ok (.getfield 18, 3) := by decide +kernel
theorem dX5_tellShine_9 : decode cX5_tellShine 9 = .ok (.iload_n 2, 1) := by decide +kernel
theorem dX5_tellShine_10 : decode cX5_tellShine 10 = .ok (.iaload, 1) := by decide +kernel
theorem dX5_tellShine_11 : decode cX5_tellShine 11 = .ok (.ireturn, 1) := by decide +kernel
theorem dX5_tellShine_12 : decode cX5_tellShine 12 = .ok (.iload_n 1, 1) := by decide +kernel
theorem dX5_tellShine_13 : decode cX5_tellShine 13 = .ok (.iconst 4, 1) := by decide +kernel
theorem dX5_tellShine_14 : decode cX5_tellShine 14 = .ok (.if_icmp .ne 10, 3) := by decide +kernel
theorem dX5_tellShine_17 : decode cX5_tellShine 17 = .ok (.aload_n 0, 1) := by decide +kernel
theorem dX5_tellShine_18 : decode cX5_tellShine 18 = .ok (.getfield 21, 3) := by decide +kernel
theorem dX5_tellShine_21 : decode cX5_tellShine 21 = .ok (.iload_n 2, 1) := by decide +kernel
theorem dX5_tellShine_22 : decode cX5_tellShine 22 = .ok (.iaload, 1) := by decide +kernel
theorem dX5_tellShine_23 : decode cX5_tellShine 23 = .ok (.ireturn, 1) := by decide +kernel
theorem dX5_tellShine_24 : decode cX5_tellShine 24 = .ok (.iload_n 1, 1) := by decide +kernel
theorem dX5_tellShine_25 : decode cX5_tellShine 25 = .ok (.iconst 5, 1) := by decide +kernel
theorem dX5_tellShine_26 : decode cX5_tellShine 26 = .ok (.if_icmp .ne 10, 3) := by decide +kernel
theorem dX5_tellShine_29 : decode cX5_tellShine 29 = .ok (.aload_n 0, 1) := by decide +kernel
theorem dX5_tellShine_30 : decode cX5_tellShine 30 = .ok (.getfield 24, 3) := by decide +kernel
theorem dX5_tellShine_33 : decode cX5_tellShine 33 = .ok (.iload_n 2, 1) := by decide +kernel
theorem dX5_tellShine_34 : decode cX5_tellShine 34 = .ok (.iaload, 1) := by decide +kernel
theorem dX5_tellShine_35 : decode cX5_tellShine 35 = .ok (.ireturn, 1) := by decide +kernel
theorem dX5_tellShine_36 : decode cX5_tellShine 36 = .ok (.iload_n 1, 1) := by decide +kernel
theorem dX5_tellShine_37 : decode cX5_tellShine 37 = .ok (.bipush 6, 2) := by decide +kernel
theorem dX5_tellShine_39 : decode cX5_tellShine 39 = .ok (.if_icmp .ne 12, 3) := by decide +kernel
theorem dX5_tellShine_42 : decode cX5_tellShine 42 = .ok (.aload_n 0, 1) := by decide +kernel
theorem dX5_tellShine_43 : decode cX5_tellShine 43 = .ok (.getfield 27, 3) := by decide +kernel
theorem dX5_tellShine_46 : decode cX5_tellShine 46 = .ok (.iload_n 2, 1) := by decide +kernel
theorem dX5_tellShine_47 : decode cX5_tellShine 47 = .ok (.iaload, 1) := by decide +kernel
theorem dX5_tellShine_48 : decode cX5_tellShine 48 = .ok (.goto 9, 3) := by decide +kernel
theorem dX5_tellShine_51 : decode cX5_tellShine 51 = .ok (.aload_n 0, 1) := by decide +kernel
theorem dX5_tellShine_52 : decode cX5_tellShine 52 = .ok (.getfield 30, 3) := by decide +kernel
theorem dX5_tellShine_55 : decode cX5_tellShine 55 = .ok (.iload_n 2, 1) := by decide +kernel
theorem dX5_tellShine_56 : decode cX5_tellShine 56 = .ok (.iaload, 1) := by decide +kernel
theorem dX5_tellShine_57 : decode cX5_tellShine 57 = .ok (.ireturn, 1) := by decide +kernel
theorem dX5_tell_0 : decode cX5_tell 0 = .ok (.iload_n 1, 1) := by decide +kernel
theorem dX5_tell_1 : decode cX5_tell 1 = .ok (.ifCond .ne 8, 3) := by decide +kernel
theorem dX5_tell_4 : decode cX5_tell 4 = .ok (.aload_n 0, 1) := by decide +kernel
theorem dX5_tell_5 : decode cX5_tell 5 = .ok (.getfield 36, 3) := by decide +kernel
theorem dX5_tell_8 : decode cX5_tell 8 = .ok (.ireturn, 1) := by decide +kernel
theorem dX5_tell_9 : decode cX5_tell 9 = .ok (.iload_n 1, 1) := by decide +kernel
theorem dX5_tell_10 : decode cX5_tell 10 = .ok (.iconst 1, 1) := by decide +kernel
theorem dX5_tell_11 : decode cX5_tell 11 = .ok (.if_icmp .ne 8, 3) := by decide +kernel
theorem dX5_tell_14 : decode cX5_tell 14 = .ok (.aload_n 0, 1) := by decide +kernel
theorem dX5_tell_15 : decode cX5_tell 15 = .ok (.getfield 40, 3) := by decide +kernel
theorem dX5_tell_18 : decode cX5_tell 18 = .ok (.ireturn, 1) := by decide +kernel
theorem dX5_tell_19 : decode cX5_tell 19 = .ok (.iload_n 1, 1) := by decide +kernel
theorem dX5_tell_20 : decode cX5_tell 20 = .ok (.iconst 2, 1) := by decide +kernel
theorem dX5_tell_21 : decode cX5_tell 21 = .ok (.if_icmp .ne 8, 3) := by decide +kernel
theorem dX5_tell_24 : decode cX5_tell 24 = .ok (.aload_n 0, 1) := by decide +kernel
theorem dX5_tell_25 : decode cX5_tell 25 = .ok (.getfield 43, 3) := by decide +kernel
theorem dX5_tell_28 : decode cX5_tell 28 = .ok (.ireturn, 1) := by decide +kernel
theorem dX5_tell_29 : decode cX5_tell 29 = .ok (.iload_n 1, 1) := by decide +kernel
theorem dX5_tell_30 : decode cX5_tell 30 = .ok (.iconst 3, 1) := by decide +kernel
theorem dX5_tell_31 : decode cX5_tell 31 = .ok (.if_icmp .ne 8, 3) := by decide +kernel
theorem dX5_tell_34 : decode cX5_tell 34 = .ok (.aload_n 0, 1) := by decide +kernel
theorem dX5_tell_35 : decode cX5_tell 35 = .ok (.getfield 46, 3) := by decide +kernel
theorem dX5_tell_38 : decode cX5_tell 38 = .ok (.ireturn, 1) := by decide +kernel
theorem dX5_tell_39 : decode cX5_tell 39 = .ok (.iload_n 1, 1) := by decide +kernel
theorem dX5_tell_40 : decode cX5_tell 40 = .ok (.bipush 10, 2) := by decide +kernel
theorem dX5_tell_42 : decode cX5_tell 42 = .ok (.if_icmp .lt 9, 3) := by decide +kernel
theorem dX5_tell_45 : decode cX5_tell 45 = .ok (.iload_n 1, 1) := by decide +kernel
theorem dX5_tell_46 : decode cX5_tell 46 = .ok (.bipush 80, 2) := by decide +kernel
theorem dX5_tell_48 : decode cX5_tell 48 = .ok (.if_icmp .lt 5, 3) := by decide +kernel
theorem dX5_tell_51 : decode cX5_tell 51 = .ok (.iconst (-1), 1) := by decide +kernel
theorem dX5_tell_52 : decode cX5_tell 52 = .ok (.ireturn, 1) := by decide +kernel
theorem dX5_tell_53 : decode cX5_tell 53 = .ok (.iload_n 1, 1) := by decide +kernel
theorem dX5_tell_54 : decode cX5_tell 54 = .ok (.bipush 10, 2) := by decide +kernel
theorem dX5_tell_56 : decode cX5_tell 56 = .ok (.idiv, 1) := by decide +kernel
theorem dX5_tell_57 : decode cX5_tell 57 = .ok (.istore_n 2, 1) := by decide +kernel
theorem dX5_tell_58 : decode cX5_tell 58 = .ok (.iload_n 1, 1) := by decide +kernel
theorem dX5_tell_59 : decode cX5_tell 59 = .ok (.bipush 10, 2) := by decide +kernel
theorem dX5_tell_61 : decode cX5_tell 61 = .ok (.irem, 1) := by decide +kernel
theorem dX5_tell_62 : decode cX5_tell 62 = .ok (.istore_n 3, 1) := by decide +kernel
theorem dX5_tell_63 : decode cX5_tell 63 = .ok (.iload_n 2, 1) := by decide +kernel
theorem dX5_tell_64 : decode cX5_tell 64 = .ok (.iconst 2, 1) := by decide +kernel
theorem dX5_tell_65 : decode cX5_tell 65 = .ok (.if_icmp .gt 34, 3) := by decide +kernel
theorem dX5_tell_68 : decode cX5_tell 68 = .ok (.aload_n 0, 1) := by decide +kernel
theorem dX5_tell_69 : decode cX5_tell 69 = .ok (.iload_n 3, 1) := by decide +kernel
theorem dX5_tell_70 : decode cX5_tell 70 = .ok (.invokevirtual 77, 3) := by decide +kernel
theorem dX5_tell_73 : decode cX5_tell 73 = .ok (.ifCond .ne 5, 3) := by decide +kernel
theorem dX5_tell_76 : decode cX5_tell 76 = .ok (.iconst (-1), 1) := by decide +kernel
theorem dX5_tell_77 : decode cX5_tell 77 = .ok (.ireturn, 1) := by decide +kernel
theorem dX5_tell_78 : decode cX5_tell 78 = .ok (.iload_n 2, 1) := by decide +kernel
theorem dX5_tell_79 : decode cX5_tell 79 = .ok (.iconst 1, 1) := by decide +kernel
theorem dX5_tell_80 : decode cX5_tell 80 = .ok (.if_icmp .ne 12, 3) := by decide +kernel
theorem dX5_tell_83 : decode cX5_tell 83 = .ok (.aload_n 0, 1) := by decide +kernel
theorem dX5_tell_84 : decode cX5_tell 84 = .ok (.getfield 9, 3) := by decide +kernel
theorem dX5_tell_87 : decode cX5_tell 87 = .ok (.iload_n 3, 1) := by decide +kernel
theorem dX5_tell_88 : decode cX5_tell 88 = .ok (.iaload, 1) := by decide +kernel
theorem dX5_tell_89 : decode cX5_tell 89 = .ok (.goto 9, 3) := by decide +kernel
theorem dX5_tell_92 : decode cX5_tell 92 = .ok (.aload_n 0, 1) := by decide +kernel
theorem dX5_tell_93 : decode cX5_tell 93 = .ok (.getfield 15, 3) := by decide +kernel
theorem dX5_tell_96 : decode cX5_tell 96 = .ok (.iload_n 3, 1) := by decide +kernel
theorem dX5_tell_97 : decode cX5_tell 97 = .ok (.iaload, 1) := by decide +kernel
theorem dX5_tell_98 : decode cX5_tell 98 = .ok (.ireturn, 1) := by decide +kernel
theorem dX5_tell_99 : decode cX5_tell 99 = .ok (.aload_n 0, 1) := by decide +kernel
theorem dX5_tell_100 : decode cX5_tell 100 = .ok (.iload_n 3, 1) := by decide +kernel
theorem dX5_tell_101 : decode cX5_tell 101 = .ok (.invokevirtual 80, 3) := by decide +kernel
theorem dX5_tell_104 : decode cX5_tell 104 = .ok (.ifCond .eq 12, 3) := by decide +kernel
theorem dX5_tell_107 : decode cX5_tell 107 = .ok (.aload_n 0, 1) := by decide +kernel
theorem dX5_tell_108 : decode cX5_tell 108 = .ok (.iload_n 2, 1) := by decide +kernel
theorem dX5_tell_109 : decode cX5_tell 109 = .ok (.iload_n 3, 1) := by decide +kernel
theorem dX5_tell_110 : decode cX5_tell 110 = .ok (.invokevirtual 83, 3) := by decide +kernel
theorem dX5_tell_113 : decode cX5_tell 113 = .ok (.goto 4, 3) := by decide +kernel
theorem dX5_tell_116 : decode cX5_tell 116 = .ok (.iconst (-1), 1) := by decide +kernel
theorem dX5_tell_117 : decode cX5_tell 117 = .ok (.ireturn, 1) := by decide +kernel
section
variable {p : Program} {l : Launch} {e : Env} {s : State} {m : MethodId} {args : Array Value} {below : List Frame} {meth : Method} {c : Code} {G : GG} {K : SK}
set_option maxHeartbeats 4000000 in
set_option maxRecDepth 100000 in
theorem tX5_copyFrom (l : Launch) (G : GG) {K : SK} (hL : Lay K) (M : MM) (a0 : Nat) (h0 : Par K a0) (a1 : Nat) (h1 : Par K a1) (pp : MM) (hf : fX5_copyFrom M a0 a1 = some pp) : Ct l yX5_copyFrom cX5_copyFrom 2 none 1 0 0 G K M [.ref (G.1 + a0), .ref (G.1 + a1)] none K pp := by
  refine z_enter (lv := [(0, .ref (G.1 + a0)), (1, .ref (G.1 + a1))]) (by decide +kernel) (Nat.le_of_ble_eq_true rfl) rfl ?_
  intro p e s m args below meth c C hnm hs0
  replace C : CX p s m args meth c cX5_copyFrom 2 none RX5 G := C
  unfold fX5_copyFrom at hf
  refine z_aload_n C 0 0 dX5_copyFrom_0 rfl rfl ?_
  refine z_aload_n C 1 1 dX5_copyFrom_1 rfl rfl ?_
  refine z_getI C ok_X5 (Par_o h1) 0 (by decide) rfl q_fl_X5_36 dX5_copyFrom_2 ?_
  refine z_putI C ok_X5 (Par_o h0) 0 (by decide) rfl rfl rfl rfl q_fl_X5_36 dX5_copyFrom_5 ?_
  refine z_M (fun M1 e2 => ?_)
  replace hf := bnd_out e2 hf
  refine z_aload_n C 0 0 dX5_copyFrom_8 rfl rfl ?_
  refine z_aload_n C 1 1 dX5_copyFrom_9 rfl rfl ?_
  refine z_getI C ok_X5 (Par_o h1) 1 (by decide) rfl q_fl_X5_40 dX5_copyFrom_10 ?_
  refine z_putI C ok_X5 (Par_o h0) 1 (by decide) rfl rfl rfl rfl q_fl_X5_40 dX5_copyFrom_13 ?_
  refine z_M (fun M3 e4 => ?_)
  replace hf := bnd_out e4 hf
  refine z_aload_n C 0 0 dX5_copyFrom_16 rfl rfl ?_
  refine z_aload_n C 1 1 dX5_copyFrom_17 rfl rfl ?_
  refine z_getI C ok_X5 (Par_o h1) 2 (by decide) rfl q_fl_X5_43 dX5_copyFrom_18 ?_
  refine z_putI C ok_X5 (Par_o h0) 2 (by decide) rfl rfl rfl rfl q_fl_X5_43 dX5_copyFrom_21 ?_
  refine z_M (fun M5 e6 => ?_)
  replace hf := bnd_out e6 hf
  refine z_aload_n C 0 0 dX5_copyFrom_24 rfl rfl ?_
  refine z_aload_n C 1 1 dX5_copyFrom_25 rfl rfl ?_
  refine z_getI C ok_X5 (Par_o h1) 3 (by decide) rfl q_fl_X5_46 dX5_copyFrom_26 ?_
  refine z_putI C ok_X5 (Par_o h0) 3 (by decide) rfl rfl rfl rfl q_fl_X5_46 dX5_copyFrom_29 ?_
  refine z_M (fun M7 e8 => ?_)
  replace hf := bnd_out e8 hf
  refine z_aload_n C 0 0 dX5_copyFrom_32 rfl rfl ?_
  refine z_aload_n C 1 1 dX5_copyFrom_33 rfl rfl ?_
  refine z_getL C ok_X5 (Par_o h1) 12 (by decide) rfl q_fl_X5_49 dX5_copyFrom_34 ?_
  refine z_putL C ok_X5 (Par_o h0) 12 (by decide) rfl rfl rfl rfl q_fl_X5_49 dX5_copyFrom_37 ?_
  refine z_M (fun M9 e10 => ?_)
  replace hf := bnd_out e10 hf
  refine z_aload_n C 1 1 dX5_copyFrom_40 rfl rfl ?_
  refine z_getR C ok_X5 (Par_o h1) 4 (a1 + 1) (by decide) rfl (Par_r4 h1) q_fl_X5_9 dX5_copyFrom_41 ?_
  refine z_iconst C 0 dX5_copyFrom_44 (by decide) ?_
  refine z_aload_n C 0 0 dX5_copyFrom_45 rfl rfl ?_
  refine z_getR C ok_X5 (Par_o h0) 4 (a0 + 1) (by decide) rfl (Par_r4 h0) q_fl_X5_9 dX5_copyFrom_46 ?_
  refine z_iconst C 0 dX5_copyFrom_49 (by decide) ?_
  refine z_bipush C 8 dX5_copyFrom_50 (by decide) ?_
  refine z_copyi C hs0 q_ml_X5_59 q_acn q_acs q_sys (Par_c1 h1) (Par_c1 h0) (by decide) (by decide) (by decide) (by decide) (by decide) (fun _ _ => rfl) (Nat.le_of_ble_eq_true rfl) (Nat.le_of_ble_eq_true rfl) dX5_copyFrom_52 ?_
  refine z_M (fun M11 e12 => ?_)
  replace hf := bnd_out e12 hf
  refine z_aload_n C 1 1 dX5_copyFrom_55 rfl rfl ?_
  refine z_getR C ok_X5 (Par_o h1) 5 (a1 + 2) (by decide) rfl (Par_r5 h1) q_fl_X5_15 dX5_copyFrom_56 ?_
  refine z_iconst C 0 dX5_copyFrom_59 (by decide) ?_
  refine z_aload_n C 0 0 dX5_copyFrom_60 rfl rfl ?_
  refine z_getR C ok_X5 (Par_o h0) 5 (a0 + 2) (by decide) rfl (Par_r5 h0) q_fl_X5_15 dX5_copyFrom_61 ?_
  refine z_iconst C 0 dX5_copyFrom_64 (by decide) ?_
  refine z_bipush C 8 dX5_copyFrom_65 (by decide) ?_
  refine z_copyi C hs0 q_ml_X5_59 q_acn q_acs q_sys (Par_c2 h1) (Par_c2 h0) (by decide) (by decide) (by decide) (by decide) (by decide) (fun _ _ => rfl) (Nat.le_of_ble_eq_true rfl) (Nat.le_of_ble_eq_true rfl) dX5_copyFrom_67 ?_
  refine z_M (fun M13 e14 => ?_)
  replace hf := bnd_out e14 hf
  refine z_aload_n C 1 1 dX5_copyFrom_70 rfl rfl ?_
  refine z_getR C ok_X5 (Par_o h1) 6 (a1 + 3) (by decide) rfl (Par_r6 h1) q_fl_X5_18 dX5_copyFrom_71 ?_
  refine z_iconst C 0 dX5_copyFrom_74 (by decide) ?_
  refine z_aload_n C 0 0 dX5_copyFrom_75 rfl rfl ?_
  refine z_getR C ok_X5 (Par_o h0) 6 (a0 + 3) (by decide) rfl (Par_r6 h0) q_fl_X5_18 dX5_copyFrom_76 ?_
  refine z_iconst C 0 dX5_copyFrom_79 (by decide) ?_
  refine z_bipush C 8 dX5_copyFrom_80 (by decide) ?_
  refine z_copyi C hs0 q_ml_X5_59 q_acn q_acs q_sys (Par_c3 h1) (Par_c3 h0) (by decide) (by decide) (by decide) (by decide) (by decide) (fun _ _ => rfl) (Nat.le_of_ble_eq_true rfl) (Nat.le_of_ble_eq_true rfl) dX5_copyFrom_82 ?_
  refine z_M (fun M15 e16 => ?_)
  replace hf := bnd_out e16 hf
  refine z_aload_n C 1 1 dX5_copyFrom_85 rfl rfl ?_
  refine z_getR C ok_X5 (Par_o h1) 7 (a1 + 4) (by decide) rfl (Par_r7 h1) q_fl_X5_21 dX5_copyFrom_86 ?_
  refine z_iconst C 0 dX5_copyFrom_89 (by decide) ?_
  refine z_aload_n C 0 0 dX5_copyFrom_90 rfl rfl ?_
  refine z_getR C ok_X5 (Par_o h0) 7 (a0 + 4) (by decide) rfl (Par_r7 h0) q_fl_X5_21 dX5_copyFrom_91 ?_
  refine z_iconst C 0 dX5_copyFrom_94 (by decide) ?_
  refine z_bipush C 8 dX5_copyFrom_95 (by decide) ?_
  refine z_copyi C hs0 q_ml_X5_59 q_acn q_acs q_sys (Par_c4 h1) (Par_c4 h0) (by decide) (by decide) (by decide) (by decide) (by decide) (fun _ _ => rfl) (Nat.le_of_ble_eq_true rfl) (Nat.le_of_ble_eq_true rfl) dX5_copyFrom_97 ?_
  refine z_M (fun M17 e18 => ?_)
  replace hf := bnd_out e18 hf
  refine z_aload_n C 1 1 dX5_copyFrom_100 rfl rfl ?_
  refine z_getR C ok_X5 (Par_o h1) 8 (a1 + 5) (by decide) rfl (Par_r8 h1) q_fl_X5_24 dX5_copyFrom_101 ?_
  refine z_iconst C 0 dX5_copyFrom_104 (by decide) ?_
  refine z_aload_n C 0 0 dX5_copyFrom_105 rfl rfl ?_
  refine z_getR C ok_X5 (Par_o h0) 8 (a0 + 5) (by decide) rfl (Par_r8 h0) q_fl_X5_24 dX5_copyFrom_106 ?_
  refine z_iconst C 0 dX5_copyFrom_109 (by decide) ?_
  refine z_bipush C 8 dX5_copyFrom_110 (by decide) ?_
  refine z_copyi C hs0 q_ml_X5_59 q_acn q_acs q_sys (Par_c5 h1) (Par_c5 h0) (by decide) (by decide) (by decide) (by decide) (by decide) (fun _ _ => rfl) (Nat.le_of_ble_eq_true rfl) (Nat.le_of_ble_eq_true rfl) dX5_copyFrom_112 ?_
  refine z_M (fun M19 e20 => ?_)
  replace hf := bnd_out e20 hf
  refine z_aload_n C 1 1 dX5_copyFrom_115 rfl rfl ?_
  refine z_getR C ok_X5 (Par_o h1) 9 (a1 + 6) (by decide) rfl (Par_r9 h1) q_fl_X5_27 dX5_copyFrom_116 ?_
  refine z_iconst C 0 dX5_copyFrom_119 (by decide) ?_
  refine z_aload_n C 0 0 dX5_copyFrom_120 rfl rfl ?_
  refine z_getR C ok_X5 (Par_o h0) 9 (a0 + 6) (by decide) rfl (Par_r9 h0) q_fl_X5_27 dX5_copyFrom_121 ?_
  refine z_iconst C 0 dX5_copyFrom_124 (by decide) ?_
  refine z_bipush C 8 dX5_copyFrom_125 (by decide) ?_
  refine z_copyi C hs0 q_ml_X5_59 q_acn q_acs q_sys (Par_c6 h1) (Par_c6 h0) (by decide) (by decide) (by decide) (by decide) (by decide) (fun _ _ => rfl) (Nat.le_of_ble_eq_true rfl) (Nat.le_of_ble_eq_true rfl) dX5_copyFrom_127 ?_
  refine z_M (fun M21 e22 => ?_)
  replace hf := bnd_out e22 hf
  refine z_aload_n C 1 1 dX5_copyFrom_130 rfl rfl ?_
  refine z_getR C ok_X5 (Par_o h1) 10 (a1 + 7) (by decide) rfl (Par_r10 h1) q_fl_X5_30 dX5_copyFrom_131 ?_
  refine z_iconst C 0 dX5_copyFrom_134 (by decide) ?_
  refine z_aload_n C 0 0 dX5_copyFrom_135 rfl rfl ?_
  refine z_getR C ok_X5 (Par_o h0) 10 (a0 + 7) (by decide) rfl (Par_r10 h0) q_fl_X5_30 dX5_copyFrom_136 ?_
  refine z_iconst C 0 dX5_copyFrom_139 (by decide) ?_
  refine z_bipush C 8 dX5_copyFrom_140 (by decide) ?_
  refine z_copyi C hs0 q_ml_X5_59 q_acn q_acs q_sys (Par_c7 h1) (Par_c7 h0) (by decide) (by decide) (by decide) (by decide) (by decide) (fun _ _ => rfl) (Nat.le_of_ble_eq_true rfl) (Nat.le_of_ble_eq_true rfl) dX5_copyFrom_142 ?_
  refine z_M (fun M23 e24 => ?_)
  replace hf := bnd_out e24 hf
  refine z_aload_n C 1 1 dX5_copyFrom_145 rfl rfl ?_
  refine z_getR C ok_X5 (Par_o h1) 11 (a1 + 8) (by decide) rfl (Par_r11 h1) q_fl_X5_33 dX5_copyFrom_146 ?_
  refine z_iconst C 0 dX5_copyFrom_149 (by decide) ?_
  refine z_aload_n C 0 0 dX5_copyFrom_150 rfl rfl ?_
  refine z_getR C ok_X5 (Par_o h0) 11 (a0 + 8) (by decide) rfl (Par_r11 h0) q_fl_X5_33 dX5_copyFrom_151 ?_
  refine z_iconst C 0 dX5_copyFrom_154 (by decide) ?_
  refine z_bipush C 64 dX5_copyFrom_155 (by decide) ?_
  refine z_copyi C hs0 q_ml_X5_59 q_acn q_acs q_sys (Par_c8 h1) (Par_c8 h0) (by decide) (by decide) (by decide) (by decide) (by decide) (fun _ _ => rfl) (Nat.le_of_ble_eq_true rfl) (Nat.le_of_ble_eq_true rfl) dX5_copyFrom_157 ?_
  refine z_M (fun M25 e26 => ?_)
  replace hf := bnd_out e26 hf
  cases hf
  exact z_vret C rfl dX5_copyFrom_160
set_option maxHeartbeats 4000000 in
set_option maxRecDepth 100000 in
theorem wX5_leastShineOf_l2 (C : CX p s m args meth c cX5_leastShineOf 3 (some .int) RX5 G) (hs0 : s.heap.size = G.1 + K.1) (hL : Lay K) (M : MM) (a0 : Nat) (h0 : Par K a0)  (pp : Int32)  : ∀ (n : Nat) (y1 : Int32) (y2 : Int32) (hf : fX5_leastShineOf_l2 M a0 n y1 y2 = some pp), Z p l e (rmo 0 0 0) s m args below meth c 3 G (MQ below (QC G (some (.int pp)) K M) args s 0 0 (AG G)) K 0 0 M 2 [(0, .ref (G.1 + a0)), (1, .int y1), (2, .int y2)] [] := by
  intro n
  induction n with
  | zero => intro y1 y2 hf; exact nomatch (show (none : Option Int32) = some pp from hf)
  | succ n ih =>
    intro y1 y2 hf
    rw [fX5_leastShineOf_l2.eq_2] at hf
    refine z_iload_n C 2 2 dX5_leastShineOf_2 rfl rfl ?_
    refine z_aload_n C 0 0 dX5_leastShineOf_3 rfl rfl ?_
    refine z_getI C ok_X5 (Par_o h0) 3 (by decide) rfl q_fl_X5_46 dX5_leastShineOf_4 ?_
    refine z_icmp_ge C 28 dX5_leastShineOf_7 (by decide) (fun c3 => ?_) (fun c3 => ?_)
    · replace hf := ite_t c3 hf
      refine z_iconst C (-1) dX5_leastShineOf_28 (by decide) ?_
      cases hf
      exact z_iret C rfl dX5_leastShineOf_29
    · replace hf := ite_f c3 hf
      refine z_aload_n C 0 0 dX5_leastShineOf_10 rfl rfl ?_
      refine z_getR C ok_X5 (Par_o h0) 10 (a0 + 7) (by decide) rfl (Par_r10 h0) q_fl_X5_30 dX5_leastShineOf_11 ?_
      refine z_iload_n C 2 2 dX5_leastShineOf_14 rfl rfl ?_
      replace hf := gd_out hf
      obtain ⟨g4, hf⟩ := hf
      refine z_iald C (Par_c7 h0) (inb_in g4) dX5_leastShineOf_15 ?_
      refine z_iload_n C 1 1 dX5_leastShineOf_16 rfl rfl ?_
      refine z_icmp_ne C 22 dX5_leastShineOf_17 (by decide) (fun c5 => ?_) (fun c5 => ?_)
      · replace hf := ite_f c5 hf
        refine z_iinc C 2 (y2 + 1) [(2, .int (y2 + 1)), (0, .ref (G.1 + a0)), (1, .int y1)] dX5_leastShineOf_22 rfl rfl (by decide) rfl rfl ?_
        refine z_goto C 2 dX5_leastShineOf_25 (by decide) ?_
        refine z_lv (lv2 := [(0, .ref (G.1 + a0)), (1, .int y1), (2, .int (y2 + 1))]) [1, 2, 0] rfl ?_
        exact ih y1 (y2 + 1)  hf
      · replace hf := ite_t c5 hf
        refine z_iload_n C 2 2 dX5_leastShineOf_20 rfl rfl ?_
        cases hf
        exact z_iret C rfl dX5_leastShineOf_21
set_option maxHeartbeats 4000000 in
set_option maxRecDepth 100000 in
theorem tX5_leastShineOf (l : Launch) (G : GG) {K : SK} (hL : Lay K) (M : MM) (a0 : Nat) (h0 : Par K a0) (x1 : Int32) (pp : Int32) (hf : fX5_leastShineOf M a0 x1 = some pp) : Ct l yX5_leastShineOf cX5_leastShineOf 3 (some .int) 0 0 0 G K M [.ref (G.1 + a0), .int x1] (some (.int pp)) K M := by
  refine z_enter (lv := [(0, .ref (G.1 + a0)), (1, .int x1)]) (by decide +kernel) (Nat.le_of_ble_eq_true rfl) rfl ?_
  intro p e s m args below meth c C hnm hs0
  replace C : CX p s m args meth c cX5_leastShineOf 3 (some .int) RX5 G := C
  unfold fX5_leastShineOf at hf
  refine z_iconst C 0 dX5_leastShineOf_0 (by decide) ?_
  refine z_istore_n C [(2, .int 0), (0, .ref (G.1 + a0)), (1, .int x1)] dX5_leastShineOf_1 rfl (by decide) rfl rfl ?_
  refine z_lv (lv2 := [(0, .ref (G.1 + a0)), (1, .int x1), (2, .int 0)]) [1, 2, 0] rfl ?_
  exact wX5_leastShineOf_l2 C hs0 hL M a0 h0 pp FU x1 0 hf
set_option maxHeartbeats 4000000 in
set_option maxRecDepth 100000 in
theorem tX5_clear (l : Launch) (G : GG) {K : SK} (hL : Lay K) (M : MM)  (pp : MM) (hf : fX5_clear M = some pp) : Ct l yX5_clear cX5_clear 1 none 1 0 0 G K M [.ref (G.1 + 42)] none K pp := by
  refine z_enter (lv := [(0, .ref (G.1 + 42))]) (by decide +kernel) (Nat.le_of_ble_eq_true rfl) rfl ?_
  intro p e s m args below meth c C hnm hs0
  replace C : CX p s m args meth c cX5_clear 1 none RX5 G := C
  unfold fX5_clear at hf
  refine z_aload_n C 0 0 dX5_clear_0 rfl rfl ?_
  refine z_bipush C 6 dX5_clear_1 (by decide) ?_
  refine z_putI C ok_X5 (lay_c42 hL) 0 (by decide) rfl rfl rfl rfl q_fl_X5_36 dX5_clear_3 ?_
  refine z_M (fun M1 e2 => ?_)
  replace hf := bnd_out e2 hf
  refine z_aload_n C 0 0 dX5_clear_6 rfl rfl ?_
  refine z_bipush C 6 dX5_clear_7 (by decide) ?_
  refine z_putI C ok_X5 (lay_c42 hL) 1 (by decide) rfl rfl rfl rfl q_fl_X5_40 dX5_clear_9 ?_
  refine z_M (fun M3 e4 => ?_)
  replace hf := bnd_out e4 hf
  refine z_aload_n C 0 0 dX5_clear_12 rfl rfl ?_
  refine z_iconst C 0 dX5_clear_13 (by decide) ?_
  refine z_putI C ok_X5 (lay_c42 hL) 2 (by decide) rfl rfl rfl rfl q_fl_X5_43 dX5_clear_14 ?_
  refine z_M (fun M5 e6 => ?_)
  replace hf := bnd_out e6 hf
  refine z_aload_n C 0 0 dX5_clear_17 rfl rfl ?_
  refine z_iconst C 0 dX5_clear_18 (by decide) ?_
  refine z_putI C ok_X5 (lay_c42 hL) 3 (by decide) rfl rfl rfl rfl q_fl_X5_46 dX5_clear_19 ?_
  refine z_M (fun M7 e8 => ?_)
  replace hf := bnd_out e8 hf
  refine z_aload_n C 0 0 dX5_clear_22 rfl rfl ?_
  refine z_lconst C 0 dX5_clear_23 (by decide) ?_
  refine z_putL C ok_X5 (lay_c42 hL) 12 (by decide) rfl rfl rfl rfl q_fl_X5_49 dX5_clear_24 ?_
  refine z_M (fun M9 e10 => ?_)
  replace hf := bnd_out e10 hf
  refine z_aload_n C 0 0 dX5_clear_27 rfl rfl ?_
  refine z_getR C ok_X5 (lay_c42 hL) 11 (50) (by decide) rfl (lay_r42_11 hL) q_fl_X5_33 dX5_clear_28 ?_
  refine z_iconst C 0 dX5_clear_31 (by decide) ?_
  replace hf := bd_out hf
  obtain ⟨p11, e12, hf⟩ := hf
  refine z_cS0 C [] (tJ7_fill_53178 l G M9 50 64 (lay_c50 hL) 0 _ e12) lk_J7_fill_53178 q_ml_X5_53 rfl ⟨Nat.le_of_ble_eq_true rfl, Nat.le_of_ble_eq_true rfl⟩ rfl (Nat.le_of_ble_eq_true rfl) ⟨Nat.le_refl _, Nat.le_refl _⟩ dX5_clear_32 ?_
  cases hf
  exact z_vret C rfl dX5_clear_35
set_option maxHeartbeats 4000000 in
set_option maxRecDepth 100000 in
theorem tX5_addWall (l : Launch) (G : GG) {K : SK} (hL : Lay K) (M : MM)  (pp : MM) (hf : fX5_addWall M = some pp) : Ct l yX5_addWall cX5_addWall 2 none 0 0 0 G K M [.ref (G.1 + 42), .ref (G.1 + 58)] none K pp := by
  refine z_enter (lv := [(0, .ref (G.1 + 42)), (1, .ref (G.1 + 58))]) (by decide +kernel) (Nat.le_of_ble_eq_true rfl) rfl ?_
  intro p e s m args below meth c C hnm hs0
  replace C : CX p s m args meth c cX5_addWall 2 none RX5 G := C
  unfold fX5_addWall at hf
  refine z_aload_n C 0 0 dX5_addWall_0 rfl rfl ?_
  refine z_dup C rfl dX5_addWall_1 ?_
  refine z_getL C ok_X5 (lay_c42 hL) 12 (by decide) rfl q_fl_X5_49 dX5_addWall_2 ?_
  refine z_lconst C 1 dX5_addWall_5 (by decide) ?_
  refine z_bipush C 8 dX5_addWall_6 (by decide) ?_
  refine z_aload_n C 1 1 dX5_addWall_8 rfl rfl ?_
  refine z_iconst C 1 dX5_addWall_9 (by decide) ?_
  refine z_iald C (lay_c58 hL) (inb_in (by decide)) dX5_addWall_10 ?_
  refine z_imul C dX5_addWall_11 ?_
  refine z_aload_n C 1 1 dX5_addWall_12 rfl rfl ?_
  refine z_iconst C 0 dX5_addWall_13 (by decide) ?_
  refine z_iald C (lay_c58 hL) (inb_in (by decide)) dX5_addWall_14 ?_
  refine z_iadd C dX5_addWall_15 ?_
  refine z_lshl C dX5_addWall_16 ?_
  refine z_lor C dX5_addWall_17 ?_
  refine z_putL C ok_X5 (lay_c42 hL) 12 (by decide) rfl rfl rfl rfl q_fl_X5_49 dX5_addWall_18 ?_
  refine z_M (fun M1 e2 => ?_)
  replace hf := bnd_out e2 hf
  cases hf
  exact z_vret C rfl dX5_addWall_21
set_option maxHeartbeats 4000000 in
set_option maxRecDepth 100000 in
theorem tX5_addPerson (l : Launch) (G : GG) {K : SK} (hL : Lay K) (M : MM)  (pp : MM) (hf : fX5_addPerson M = some pp) : Ct l yX5_addPerson cX5_addPerson 2 none 0 0 0 G K M [.ref (G.1 + 42), .ref (G.1 + 58)] none K pp := by
  refine z_enter (lv := [(0, .ref (G.1 + 42)), (1, .ref (G.1 + 58))]) (by decide +kernel) (Nat.le_of_ble_eq_true rfl) rfl ?_
  intro p e s m args below meth c C hnm hs0
  replace C : CX p s m args meth c cX5_addPerson 2 none RX5 G := C
  unfold fX5_addPerson at hf
  refine z_aload_n C 0 0 dX5_addPerson_0 rfl rfl ?_
  refine z_getI C ok_X5 (lay_c42 hL) 2 (by decide) rfl q_fl_X5_43 dX5_addPerson_1 ?_
  refine z_bipush C 8 dX5_addPerson_4 (by decide) ?_
  refine z_icmp_lt C 10 dX5_addPerson_6 (by decide) (fun c1 => ?_) (fun c1 => ?_)
  · replace hf := ite_t c1 hf
    refine z_aload_n C 0 0 dX5_addPerson_10 rfl rfl ?_
    refine z_getR C ok_X5 (lay_c42 hL) 4 (43) (by decide) rfl (lay_r42_4 hL) q_fl_X5_9 dX5_addPerson_11 ?_
    refine z_aload_n C 0 0 dX5_addPerson_14 rfl rfl ?_
    refine z_getI C ok_X5 (lay_c42 hL) 2 (by decide) rfl q_fl_X5_43 dX5_addPerson_15 ?_
    refine z_bipush C 8 dX5_addPerson_18 (by decide) ?_
    refine z_aload_n C 1 1 dX5_addPerson_20 rfl rfl ?_
    refine z_iconst C 1 dX5_addPerson_21 (by decide) ?_
    refine z_iald C (lay_c58 hL) (inb_in (by decide)) dX5_addPerson_22 ?_
    refine z_imul C dX5_addPerson_23 ?_
    refine z_aload_n C 1 1 dX5_addPerson_24 rfl rfl ?_
    refine z_iconst C 0 dX5_addPerson_25 (by decide) ?_
    refine z_iald C (lay_c58 hL) (inb_in (by decide)) dX5_addPerson_26 ?_
    refine z_iadd C dX5_addPerson_27 ?_
    replace hf := gd_out hf
    obtain ⟨g2, hf⟩ := hf
    refine z_iast C (lay_c43 hL) (inb_in g2) dX5_addPerson_28 ?_
    refine z_M (fun M3 e4 => ?_)
    replace hf := bnd_out e4 hf
    refine z_aload_n C 0 0 dX5_addPerson_29 rfl rfl ?_
    refine z_getR C ok_X5 (lay_c42 hL) 5 (44) (by decide) rfl (lay_r42_5 hL) q_fl_X5_15 dX5_addPerson_30 ?_
    refine z_aload_n C 0 0 dX5_addPerson_33 rfl rfl ?_
    refine z_getI C ok_X5 (lay_c42 hL) 2 (by decide) rfl q_fl_X5_43 dX5_addPerson_34 ?_
    refine z_aload_n C 1 1 dX5_addPerson_37 rfl rfl ?_
    refine z_iconst C 2 dX5_addPerson_38 (by decide) ?_
    refine z_iald C (lay_c58 hL) (inb_in (by decide)) dX5_addPerson_39 ?_
    replace hf := gd_out hf
    obtain ⟨g5, hf⟩ := hf
    refine z_iast C (lay_c44 hL) (inb_in g5) dX5_addPerson_40 ?_
    refine z_M (fun M6 e7 => ?_)
    replace hf := bnd_out e7 hf
    refine z_aload_n C 0 0 dX5_addPerson_41 rfl rfl ?_
    refine z_dup C rfl dX5_addPerson_42 ?_
    refine z_getI C ok_X5 (lay_c42 hL) 2 (by decide) rfl q_fl_X5_43 dX5_addPerson_43 ?_
    refine z_iconst C 1 dX5_addPerson_46 (by decide) ?_
    refine z_iadd C dX5_addPerson_47 ?_
    refine z_putI C ok_X5 (lay_c42 hL) 2 (by decide) rfl rfl rfl rfl q_fl_X5_43 dX5_addPerson_48 ?_
    refine z_M (fun M8 e9 => ?_)
    replace hf := bnd_out e9 hf
    cases hf
    exact z_vret C rfl dX5_addPerson_51
  · replace hf := ite_f c1 hf
    cases hf
    exact z_vret C rfl dX5_addPerson_9
set_option maxHeartbeats 4000000 in
set_option maxRecDepth 100000 in
theorem tX5_addShine (l : Launch) (G : GG) {K : SK} (hL : Lay K) (M : MM) (x1 : Int32) (pp : MM) (hf : fX5_addShine M x1 = some pp) : Ct l yX5_addShine cX5_addShine 3 none 0 0 0 G K M [.ref (G.1 + 42), .int x1, .ref (G.1 + 58)] none K pp := by
  refine z_enter (lv := [(0, .ref (G.1 + 42)), (1, .int x1), (2, .ref (G.1 + 58))]) (by decide +kernel) (Nat.le_of_ble_eq_true rfl) rfl ?_
  intro p e s m args below meth c C hnm hs0
  replace C : CX p s m args meth c cX5_addShine 3 none RX5 G := C
  unfold fX5_addShine at hf
  refine z_aload_n C 0 0 dX5_addShine_0 rfl rfl ?_
  refine z_getI C ok_X5 (lay_c42 hL) 3 (by decide) rfl q_fl_X5_46 dX5_addShine_1 ?_
  refine z_bipush C 8 dX5_addShine_4 (by decide) ?_
  refine z_icmp_lt C 10 dX5_addShine_6 (by decide) (fun c1 => ?_) (fun c1 => ?_)
  · replace hf := ite_t c1 hf
    refine z_aload_n C 0 0 dX5_addShine_10 rfl rfl ?_
    refine z_getR C ok_X5 (lay_c42 hL) 6 (45) (by decide) rfl (lay_r42_6 hL) q_fl_X5_18 dX5_addShine_11 ?_
    refine z_aload_n C 0 0 dX5_addShine_14 rfl rfl ?_
    refine z_getI C ok_X5 (lay_c42 hL) 3 (by decide) rfl q_fl_X5_46 dX5_addShine_15 ?_
    refine z_iload_n C 1 1 dX5_addShine_18 rfl rfl ?_
    replace hf := gd_out hf
    obtain ⟨g2, hf⟩ := hf
    refine z_iast C (lay_c45 hL) (inb_in g2) dX5_addShine_19 ?_
    refine z_M (fun M3 e4 => ?_)
    replace hf := bnd_out e4 hf
    refine z_aload_n C 0 0 dX5_addShine_20 rfl rfl ?_
    refine z_getR C ok_X5 (lay_c42 hL) 7 (46) (by decide) rfl (lay_r42_7 hL) q_fl_X5_21 dX5_addShine_21 ?_
    refine z_aload_n C 0 0 dX5_addShine_24 rfl rfl ?_
    refine z_getI C ok_X5 (lay_c42 hL) 3 (by decide) rfl q_fl_X5_46 dX5_addShine_25 ?_
    refine z_bipush C 8 dX5_addShine_28 (by decide) ?_
    refine z_aload_n C 2 2 dX5_addShine_30 rfl rfl ?_
    refine z_iconst C 1 dX5_addShine_31 (by decide) ?_
    refine z_iald C (lay_c58 hL) (inb_in (by decide)) dX5_addShine_32 ?_
    refine z_imul C dX5_addShine_33 ?_
    refine z_aload_n C 2 2 dX5_addShine_34 rfl rfl ?_
    refine z_iconst C 0 dX5_addShine_35 (by decide) ?_
    refine z_iald C (lay_c58 hL) (inb_in (by decide)) dX5_addShine_36 ?_
    refine z_iadd C dX5_addShine_37 ?_
    replace hf := gd_out hf
    obtain ⟨g5, hf⟩ := hf
    refine z_iast C (lay_c46 hL) (inb_in g5) dX5_addShine_38 ?_
    refine z_M (fun M6 e7 => ?_)
    replace hf := bnd_out e7 hf
    refine z_aload_n C 0 0 dX5_addShine_39 rfl rfl ?_
    refine z_getR C ok_X5 (lay_c42 hL) 8 (47) (by decide) rfl (lay_r42_8 hL) q_fl_X5_24 dX5_addShine_40 ?_
    refine z_aload_n C 0 0 dX5_addShine_43 rfl rfl ?_
    refine z_getI C ok_X5 (lay_c42 hL) 3 (by decide) rfl q_fl_X5_46 dX5_addShine_44 ?_
    refine z_aload_n C 2 2 dX5_addShine_47 rfl rfl ?_
    refine z_iconst C 2 dX5_addShine_48 (by decide) ?_
    refine z_iald C (lay_c58 hL) (inb_in (by decide)) dX5_addShine_49 ?_
    replace hf := gd_out hf
    obtain ⟨g8, hf⟩ := hf
    refine z_iast C (lay_c47 hL) (inb_in g8) dX5_addShine_50 ?_
    refine z_M (fun M9 e10 => ?_)
    replace hf := bnd_out e10 hf
    refine z_aload_n C 0 0 dX5_addShine_51 rfl rfl ?_
    refine z_getR C ok_X5 (lay_c42 hL) 9 (48) (by decide) rfl (lay_r42_9 hL) q_fl_X5_27 dX5_addShine_52 ?_
    refine z_aload_n C 0 0 dX5_addShine_55 rfl rfl ?_
    refine z_getI C ok_X5 (lay_c42 hL) 3 (by decide) rfl q_fl_X5_46 dX5_addShine_56 ?_
    refine z_aload_n C 2 2 dX5_addShine_59 rfl rfl ?_
    refine z_iconst C 3 dX5_addShine_60 (by decide) ?_
    refine z_iald C (lay_c58 hL) (inb_in (by decide)) dX5_addShine_61 ?_
    replace hf := gd_out hf
    obtain ⟨g11, hf⟩ := hf
    refine z_iast C (lay_c48 hL) (inb_in g11) dX5_addShine_62 ?_
    refine z_M (fun M12 e13 => ?_)
    replace hf := bnd_out e13 hf
    refine z_aload_n C 0 0 dX5_addShine_63 rfl rfl ?_
    refine z_getR C ok_X5 (lay_c42 hL) 10 (49) (by decide) rfl (lay_r42_10 hL) q_fl_X5_30 dX5_addShine_64 ?_
    refine z_aload_n C 0 0 dX5_addShine_67 rfl rfl ?_
    refine z_getI C ok_X5 (lay_c42 hL) 3 (by decide) rfl q_fl_X5_46 dX5_addShine_68 ?_
    refine z_aload_n C 2 2 dX5_addShine_71 rfl rfl ?_
    refine z_iconst C 4 dX5_addShine_72 (by decide) ?_
    refine z_iald C (lay_c58 hL) (inb_in (by decide)) dX5_addShine_73 ?_
    replace hf := gd_out hf
    obtain ⟨g14, hf⟩ := hf
    refine z_iast C (lay_c49 hL) (inb_in g14) dX5_addShine_74 ?_
    refine z_M (fun M15 e16 => ?_)
    replace hf := bnd_out e16 hf
    refine z_aload_n C 0 0 dX5_addShine_75 rfl rfl ?_
    refine z_dup C rfl dX5_addShine_76 ?_
    refine z_getI C ok_X5 (lay_c42 hL) 3 (by decide) rfl q_fl_X5_46 dX5_addShine_77 ?_
    refine z_iconst C 1 dX5_addShine_80 (by decide) ?_
    refine z_iadd C dX5_addShine_81 ?_
    refine z_putI C ok_X5 (lay_c42 hL) 3 (by decide) rfl rfl rfl rfl q_fl_X5_46 dX5_addShine_82 ?_
    refine z_M (fun M17 e18 => ?_)
    replace hf := bnd_out e18 hf
    cases hf
    exact z_vret C rfl dX5_addShine_85
  · replace hf := ite_f c1 hf
    cases hf
    exact z_vret C rfl dX5_addShine_9
set_option maxHeartbeats 4000000 in
set_option maxRecDepth 100000 in
theorem tX5_isOutside (l : Launch) (G : GG) {K : SK} (hL : Lay K) (M : MM) (x1 : Int32) : Ct l yX5_isOutside cX5_isOutside 2 (some .boolean) 0 0 0 G K M [.ref (G.1 + 42), .int x1] (some (.int (fX5_isOutside M x1))) K M := by
  generalize hf : fX5_isOutside M x1 = pp
  refine z_enter (lv := [(0, .ref (G.1 + 42)), (1, .int x1)]) (by decide +kernel) (Nat.le_of_ble_eq_true rfl) rfl ?_
  intro p e s m args below meth c C hnm hs0
  replace C : CX p s m args meth c cX5_isOutside 2 (some .boolean) RX5 G := C
  unfold fX5_isOutside at hf
  refine z_iload_n C 1 1 dX5_isOutside_0 rfl rfl ?_
  refine z_bipush C 7 dX5_isOutside_1 (by decide) ?_
  refine z_iand C dX5_isOutside_3 ?_
  refine z_aload_n C 0 0 dX5_isOutside_4 rfl rfl ?_
  refine z_getI C ok_X5 (lay_c42 hL) 0 (by decide) rfl q_fl_X5_36 dX5_isOutside_5 ?_
  refine z_icmp_ge C 21 dX5_isOutside_8 (by decide) (fun c1 => ?_) (fun c1 => ?_)
  · replace hf := ite_t c1 hf
    refine z_iconst C 1 dX5_isOutside_21 (by decide) ?_
    refine z_goto C 26 dX5_isOutside_22 (by decide) ?_
    cases hf
    exact z_zret C rfl nb1 dX5_isOutside_26
  · replace hf := ite_f c1 hf
    refine z_iload_n C 1 1 dX5_isOutside_11 rfl rfl ?_
    refine z_iconst C 3 dX5_isOutside_12 (by decide) ?_
    refine z_ishr C dX5_isOutside_13 ?_
    refine z_aload_n C 0 0 dX5_isOutside_14 rfl rfl ?_
    refine z_getI C ok_X5 (lay_c42 hL) 1 (by decide) rfl q_fl_X5_40 dX5_isOutside_15 ?_
    refine z_icmp_lt C 25 dX5_isOutside_18 (by decide) (fun c2 => ?_) (fun c2 => ?_)
    · replace hf := ite_t c2 hf
      refine z_iconst C 0 dX5_isOutside_25 (by decide) ?_
      cases hf
      exact z_zret C rfl nb0 dX5_isOutside_26
    · replace hf := ite_f c2 hf
      refine z_iconst C 1 dX5_isOutside_21 (by decide) ?_
      refine z_goto C 26 dX5_isOutside_22 (by decide) ?_
      cases hf
      exact z_zret C rfl nb1 dX5_isOutside_26
set_option maxHeartbeats 4000000 in
set_option maxRecDepth 100000 in
theorem wX5_isAnyOutside_l2 (C : CX p s m args meth c cX5_isAnyOutside 2 (some .boolean) RX5 G) (hs0 : s.heap.size = G.1 + K.1) (hL : Lay K) (M : MM) (k37 : Option Int32) (pp : Int32) (hk37 : k37  = some pp → Z p l e (rmo 1 0 0) s m args below meth c 2 G (MQ below (QC G (some (.int pp)) K M) args s 0 0 (AG G)) K 0 0 M 37 [(0, .ref (G.1 + 42))] []) : ∀ (n : Nat) (y1 : Int32) (hf : fX5_isAnyOutside_l2 M k37 n y1 = some pp), Z p l e (rmo 1 0 0) s m args below meth c 2 G (MQ below (QC G (some (.int pp)) K M) args s 0 0 (AG G)) K 0 0 M 2 [(0, .ref (G.1 + 42)), (1, .int y1)] [] := by
  intro n
  induction n with
  | zero => intro y1 hf; exact nomatch (show (none : Option Int32) = some pp from hf)
  | succ n ih =>
    intro y1 hf
    rw [fX5_isAnyOutside_l2.eq_2] at hf
    refine z_iload_n C 1 1 dX5_isAnyOutside_2 rfl rfl ?_
    refine z_bipush C 64 dX5_isAnyOutside_3 (by decide) ?_
    refine z_icmp_ge C 37 dX5_isAnyOutside_5 (by decide) (fun c2 => ?_) (fun c2 => ?_)
    · replace hf := ite_t c2 hf
      refine z_lv (lv2 := [(0, .ref (G.1 + 42))]) [0] rfl ?_
      exact hk37   hf
    · replace hf := ite_f c2 hf
      refine z_aload_n C 0 0 dX5_isAnyOutside_8 rfl rfl ?_
      refine z_getL C ok_X5 (lay_c42 hL) 12 (by decide) rfl q_fl_X5_49 dX5_isAnyOutside_9 ?_
      refine z_iload_n C 1 1 dX5_isAnyOutside_12 rfl rfl ?_
      refine z_lushr C dX5_isAnyOutside_13 ?_
      refine z_lconst C 1 dX5_isAnyOutside_14 (by decide) ?_
      refine z_land C dX5_isAnyOutside_15 ?_
      refine z_lconst C 0 dX5_isAnyOutside_16 (by decide) ?_
      refine z_lcmp C dX5_isAnyOutside_17 ?_
      refine z_if_eq C 31 dX5_isAnyOutside_18 (by decide) (fun c3 => ?_) (fun c3 => ?_)
      · replace hf := ite_t c3 hf
        refine z_iinc C 1 (y1 + 1) [(1, .int (y1 + 1)), (0, .ref (G.1 + 42))] dX5_isAnyOutside_31 rfl rfl (by decide) rfl rfl ?_
        refine z_goto C 2 dX5_isAnyOutside_34 (by decide) ?_
        refine z_lv (lv2 := [(0, .ref (G.1 + 42)), (1, .int (y1 + 1))]) [1, 0] rfl ?_
        exact ih (y1 + 1)  hf
      · replace hf := ite_f c3 hf
        refine z_aload_n C 0 0 dX5_isAnyOutside_21 rfl rfl ?_
        refine z_iload_n C 1 1 dX5_isAnyOutside_22 rfl rfl ?_
        refine z_cV1 C [] (tX5_isOutside l G hL M y1) lk_X5_isOutside ok_X5 (lay_c42 hL) q_ml_X5_73 rfl ⟨Nat.le_of_ble_eq_true rfl, Nat.le_of_ble_eq_true rfl⟩ rfl (Nat.le_of_ble_eq_true rfl) ⟨Nat.le_refl _, Nat.le_refl _⟩ dX5_isAnyOutside_23 ?_
        refine z_if_eq C 31 dX5_isAnyOutside_26 (by decide) (fun c4 => ?_) (fun c4 => ?_)
        · replace hf := ite_t c4 hf
          refine z_iinc C 1 (y1 + 1) [(1, .int (y1 + 1)), (0, .ref (G.1 + 42))] dX5_isAnyOutside_31 rfl rfl (by decide) rfl rfl ?_
          refine z_goto C 2 dX5_isAnyOutside_34 (by decide) ?_
          refine z_lv (lv2 := [(0, .ref (G.1 + 42)), (1, .int (y1 + 1))]) [1, 0] rfl ?_
          exact ih (y1 + 1)  hf
        · replace hf := ite_f c4 hf
          refine z_iconst C 1 dX5_isAnyOutside_29 (by decide) ?_
          cases hf
          exact z_zret C rfl nb1 dX5_isAnyOutside_30
set_option maxHeartbeats 4000000 in
set_option maxRecDepth 100000 in
theorem wX5_isAnyOutside_l39 (C : CX p s m args meth c cX5_isAnyOutside 2 (some .boolean) RX5 G) (hs0 : s.heap.size = G.1 + K.1) (hL : Lay K) (M : MM) (k68 : Option Int32) (pp : Int32) (hk68 : k68  = some pp → Z p l e (rmo 1 0 0) s m args below meth c 2 G (MQ below (QC G (some (.int pp)) K M) args s 0 0 (AG G)) K 0 0 M 68 [(0, .ref (G.1 + 42))] []) : ∀ (n : Nat) (y5 : Int32) (hf : fX5_isAnyOutside_l39 M k68 n y5 = some pp), Z p l e (rmo 1 0 0) s m args below meth c 2 G (MQ below (QC G (some (.int pp)) K M) args s 0 0 (AG G)) K 0 0 M 39 [(0, .ref (G.1 + 42)), (1, .int y5)] [] := by
  intro n
  induction n with
  | zero => intro y5 hf; exact nomatch (show (none : Option Int32) = some pp from hf)
  | succ n ih =>
    intro y5 hf
    rw [fX5_isAnyOutside_l39.eq_2] at hf
    refine z_iload_n C 1 1 dX5_isAnyOutside_39 rfl rfl ?_
    refine z_aload_n C 0 0 dX5_isAnyOutside_40 rfl rfl ?_
    refine z_getI C ok_X5 (lay_c42 hL) 2 (by decide) rfl q_fl_X5_43 dX5_isAnyOutside_41 ?_
    refine z_icmp_ge C 68 dX5_isAnyOutside_44 (by decide) (fun c6 => ?_) (fun c6 => ?_)
    · replace hf := ite_t c6 hf
      refine z_lv (lv2 := [(0, .ref (G.1 + 42))]) [0] rfl ?_
      exact hk68   hf
    · replace hf := ite_f c6 hf
      refine z_aload_n C 0 0 dX5_isAnyOutside_47 rfl rfl ?_
      refine z_aload_n C 0 0 dX5_isAnyOutside_48 rfl rfl ?_
      refine z_getR C ok_X5 (lay_c42 hL) 4 (43) (by decide) rfl (lay_r42_4 hL) q_fl_X5_9 dX5_isAnyOutside_49 ?_
      refine z_iload_n C 1 1 dX5_isAnyOutside_52 rfl rfl ?_
      replace hf := gd_out hf
      obtain ⟨g7, hf⟩ := hf
      refine z_iald C (lay_c43 hL) (inb_in g7) dX5_isAnyOutside_53 ?_
      refine z_cV1 C [] (tX5_isOutside l G hL M (gI M 43 (ix y5))) lk_X5_isOutside ok_X5 (lay_c42 hL) q_ml_X5_73 rfl ⟨Nat.le_of_ble_eq_true rfl, Nat.le_of_ble_eq_true rfl⟩ rfl (Nat.le_of_ble_eq_true rfl) ⟨Nat.le_refl _, Nat.le_refl _⟩ dX5_isAnyOutside_54 ?_
      refine z_if_eq C 62 dX5_isAnyOutside_57 (by decide) (fun c8 => ?_) (fun c8 => ?_)
      · replace hf := ite_t c8 hf
        refine z_iinc C 1 (y5 + 1) [(1, .int (y5 + 1)), (0, .ref (G.1 + 42))] dX5_isAnyOutside_62 rfl rfl (by decide) rfl rfl ?_
        refine z_goto C 39 dX5_isAnyOutside_65 (by decide) ?_
        refine z_lv (lv2 := [(0, .ref (G.1 + 42)), (1, .int (y5 + 1))]) [1, 0] rfl ?_
        exact ih (y5 + 1)  hf
      · replace hf := ite_f c8 hf
        refine z_iconst C 1 dX5_isAnyOutside_60 (by decide) ?_
        cases hf
        exact z_zret C rfl nb1 dX5_isAnyOutside_61
set_option maxHeartbeats 4000000 in
set_option maxRecDepth 100000 in
theorem wX5_isAnyOutside_l70 (C : CX p s m args meth c cX5_isAnyOutside 2 (some .boolean) RX5 G) (hs0 : s.heap.size = G.1 + K.1) (hL : Lay K) (M : MM)  (pp : Int32)  : ∀ (n : Nat) (y9 : Int32) (hf : fX5_isAnyOutside_l70 M n y9 = some pp), Z p l e (rmo 1 0 0) s m args below meth c 2 G (MQ below (QC G (some (.int pp)) K M) args s 0 0 (AG G)) K 0 0 M 70 [(0, .ref (G.1 + 42)), (1, .int y9)] [] := by
  intro n
  induction n with
  | zero => intro y9 hf; exact nomatch (show (none : Option Int32) = some pp from hf)
  | succ n ih =>
    intro y9 hf
    rw [fX5_isAnyOutside_l70.eq_2] at hf
    refine z_iload_n C 1 1 dX5_isAnyOutside_70 rfl rfl ?_
    refine z_aload_n C 0 0 dX5_isAnyOutside_71 rfl rfl ?_
    refine z_getI C ok_X5 (lay_c42 hL) 3 (by decide) rfl q_fl_X5_46 dX5_isAnyOutside_72 ?_
    refine z_icmp_ge C 99 dX5_isAnyOutside_75 (by decide) (fun c10 => ?_) (fun c10 => ?_)
    · replace hf := ite_t c10 hf
      refine z_iconst C 0 dX5_isAnyOutside_99 (by decide) ?_
      cases hf
      exact z_zret C rfl nb0 dX5_isAnyOutside_100
    · replace hf := ite_f c10 hf
      refine z_aload_n C 0 0 dX5_isAnyOutside_78 rfl rfl ?_
      refine z_aload_n C 0 0 dX5_isAnyOutside_79 rfl rfl ?_
      refine z_getR C ok_X5 (lay_c42 hL) 7 (46) (by decide) rfl (lay_r42_7 hL) q_fl_X5_21 dX5_isAnyOutside_80 ?_
      refine z_iload_n C 1 1 dX5_isAnyOutside_83 rfl rfl ?_
      replace hf := gd_out hf
      obtain ⟨g11, hf⟩ := hf
      refine z_iald C (lay_c46 hL) (inb_in g11) dX5_isAnyOutside_84 ?_
      refine z_cV1 C [] (tX5_isOutside l G hL M (gI M 46 (ix y9))) lk_X5_isOutside ok_X5 (lay_c42 hL) q_ml_X5_73 rfl ⟨Nat.le_of_ble_eq_true rfl, Nat.le_of_ble_eq_true rfl⟩ rfl (Nat.le_of_ble_eq_true rfl) ⟨Nat.le_refl _, Nat.le_refl _⟩ dX5_isAnyOutside_85 ?_
      refine z_if_eq C 93 dX5_isAnyOutside_88 (by decide) (fun c12 => ?_) (fun c12 => ?_)
      · replace hf := ite_t c12 hf
        refine z_iinc C 1 (y9 + 1) [(1, .int (y9 + 1)), (0, .ref (G.1 + 42))] dX5_isAnyOutside_93 rfl rfl (by decide) rfl rfl ?_
        refine z_goto C 70 dX5_isAnyOutside_96 (by decide) ?_
        refine z_lv (lv2 := [(0, .ref (G.1 + 42)), (1, .int (y9 + 1))]) [1, 0] rfl ?_
        exact ih (y9 + 1)  hf
      · replace hf := ite_f c12 hf
        refine z_iconst C 1 dX5_isAnyOutside_91 (by decide) ?_
        cases hf
        exact z_zret C rfl nb1 dX5_isAnyOutside_92
set_option maxHeartbeats 4000000 in
set_option maxRecDepth 100000 in
theorem tX5_isAnyOutside (l : Launch) (G : GG) {K : SK} (hL : Lay K) (M : MM)  (pp : Int32) (hf : fX5_isAnyOutside M = some pp) : Ct l yX5_isAnyOutside cX5_isAnyOutside 2 (some .boolean) 1 0 0 G K M [.ref (G.1 + 42)] (some (.int pp)) K M := by
  refine z_enter (lv := [(0, .ref (G.1 + 42))]) (by decide +kernel) (Nat.le_of_ble_eq_true rfl) rfl ?_
  intro p e s m args below meth c C hnm hs0
  replace C : CX p s m args meth c cX5_isAnyOutside 2 (some .boolean) RX5 G := C
  unfold fX5_isAnyOutside at hf
  refine z_iconst C 0 dX5_isAnyOutside_0 (by decide) ?_
  refine z_istore_n C [(1, .int 0), (0, .ref (G.1 + 42))] dX5_isAnyOutside_1 rfl (by decide) rfl rfl ?_
  refine z_lv (lv2 := [(0, .ref (G.1 + 42)), (1, .int 0)]) [1, 0] rfl ?_
  refine wX5_isAnyOutside_l2 C hs0 hL M _ pp ?_ FU 0 hf
  · intro  hf
    refine z_iconst C 0 dX5_isAnyOutside_37 (by decide) ?_
    refine z_istore_n C [(1, .int 0), (0, .ref (G.1 + 42))] dX5_isAnyOutside_38 rfl (by decide) rfl rfl ?_
    refine z_lv (lv2 := [(0, .ref (G.1 + 42)), (1, .int 0)]) [1, 0] rfl ?_
    refine wX5_isAnyOutside_l39 C hs0 hL M _ pp ?_ FU 0 hf
    · intro  hf
      refine z_iconst C 0 dX5_isAnyOutside_68 (by decide) ?_
      refine z_istore_n C [(1, .int 0), (0, .ref (G.1 + 42))] dX5_isAnyOutside_69 rfl (by decide) rfl rfl ?_
      refine z_lv (lv2 := [(0, .ref (G.1 + 42)), (1, .int 0)]) [1, 0] rfl ?_
      exact wX5_isAnyOutside_l70 C hs0 hL M pp FU 0 hf
set_option maxHeartbeats 4000000 in
set_option maxRecDepth 100000 in
theorem tX5_squareOf (l : Launch) (G : GG) {K : SK} (hL : Lay K) (M : MM) (x1 : Int32) : Ct l yX5_squareOf cX5_squareOf 2 (some .int) 0 0 0 G K M [.ref (G.1 + 42), .int x1] (some (.int (fX5_squareOf M x1))) K M := by
  generalize hf : fX5_squareOf M x1 = pp
  refine z_enter (lv := [(0, .ref (G.1 + 42)), (1, .int x1)]) (by decide +kernel) (Nat.le_of_ble_eq_true rfl) rfl ?_
  intro p e s m args below meth c C hnm hs0
  replace C : CX p s m args meth c cX5_squareOf 2 (some .int) RX5 G := C
  unfold fX5_squareOf at hf
  refine z_aload_n C 0 0 dX5_squareOf_0 rfl rfl ?_
  refine z_getI C ok_X5 (lay_c42 hL) 0 (by decide) rfl q_fl_X5_36 dX5_squareOf_1 ?_
  refine z_iload_n C 1 1 dX5_squareOf_4 rfl rfl ?_
  refine z_iconst C 3 dX5_squareOf_5 (by decide) ?_
  refine z_ishr C dX5_squareOf_6 ?_
  refine z_imul C dX5_squareOf_7 ?_
  refine z_iload_n C 1 1 dX5_squareOf_8 rfl rfl ?_
  refine z_bipush C 7 dX5_squareOf_9 (by decide) ?_
  refine z_iand C dX5_squareOf_11 ?_
  refine z_iadd C dX5_squareOf_12 ?_
  cases hf
  exact z_iret C rfl dX5_squareOf_13
set_option maxHeartbeats 4000000 in
set_option maxRecDepth 100000 in
theorem wX5_settle_l11 (C : CX p s m args meth c cX5_settle 2 (some .int) RX5 G) (hs0 : s.heap.size = G.1 + K.1) (hL : Lay K)  (k47 : MM → Option (Int32 × MM)) (pp : (Int32 × MM)) (hk47 : ∀ (M7 : MM), k47 M7 = some pp → Z p l e (rmo 2 0 0) s m args below meth c 2 G (MQ below (QC G (some (.int pp.1)) K pp.2) args s 0 0 (AG G)) K 0 0 M7 47 [(0, .ref (G.1 + 42))] []) : ∀ (n : Nat) (M4 : MM) (y5 : Int32) (hf : fX5_settle_l11 k47 n M4 y5 = some pp), Z p l e (rmo 2 0 0) s m args below meth c 2 G (MQ below (QC G (some (.int pp.1)) K pp.2) args s 0 0 (AG G)) K 0 0 M4 11 [(0, .ref (G.1 + 42)), (1, .int y5)] [] := by
  intro n
  induction n with
  | zero => intro M4 y5 hf; exact nomatch (show (none : Option (Int32 × MM)) = some pp from hf)
  | succ n ih =>
    intro M4 y5 hf
    rw [fX5_settle_l11.eq_2] at hf
    refine z_iload_n C 1 1 dX5_settle_11 rfl rfl ?_
    refine z_bipush C 64 dX5_settle_12 (by decide) ?_
    refine z_icmp_ge C 47 dX5_settle_14 (by decide) (fun c6 => ?_) (fun c6 => ?_)
    · replace hf := ite_t c6 hf
      refine z_lv (lv2 := [(0, .ref (G.1 + 42))]) [0] rfl ?_
      exact hk47 M4  hf
    · replace hf := ite_f c6 hf
      refine z_aload_n C 0 0 dX5_settle_17 rfl rfl ?_
      refine z_getL C ok_X5 (lay_c42 hL) 12 (by decide) rfl q_fl_X5_49 dX5_settle_18 ?_
      refine z_iload_n C 1 1 dX5_settle_21 rfl rfl ?_
      refine z_lushr C dX5_settle_22 ?_
      refine z_lconst C 1 dX5_settle_23 (by decide) ?_
      refine z_land C dX5_settle_24 ?_
      refine z_lconst C 0 dX5_settle_25 (by decide) ?_
      refine z_lcmp C dX5_settle_26 ?_
      refine z_if_eq C 41 dX5_settle_27 (by decide) (fun c8 => ?_) (fun c8 => ?_)
      · replace hf := ite_t c8 hf
        refine z_iinc C 1 (y5 + 1) [(1, .int (y5 + 1)), (0, .ref (G.1 + 42))] dX5_settle_41 rfl rfl (by decide) rfl rfl ?_
        refine z_goto C 11 dX5_settle_44 (by decide) ?_
        refine z_lv (lv2 := [(0, .ref (G.1 + 42)), (1, .int (y5 + 1))]) [1, 0] rfl ?_
        exact ih M4 (y5 + 1)  hf
      · replace hf := ite_f c8 hf
        refine z_aload_n C 0 0 dX5_settle_30 rfl rfl ?_
        refine z_getR C ok_X5 (lay_c42 hL) 11 (50) (by decide) rfl (lay_r42_11 hL) q_fl_X5_33 dX5_settle_31 ?_
        refine z_aload_n C 0 0 dX5_settle_34 rfl rfl ?_
        refine z_iload_n C 1 1 dX5_settle_35 rfl rfl ?_
        refine z_cV1 C [.ref (G.1 + 50)] (tX5_squareOf l G hL M4 y5) lk_X5_squareOf ok_X5 (lay_c42 hL) q_ml_X5_69 rfl ⟨Nat.le_of_ble_eq_true rfl, Nat.le_of_ble_eq_true rfl⟩ rfl (Nat.le_of_ble_eq_true rfl) ⟨Nat.le_refl _, Nat.le_refl _⟩ dX5_settle_36 ?_
        refine z_iconst C 1 dX5_settle_39 (by decide) ?_
        replace hf := gd_out hf
        obtain ⟨g9, hf⟩ := hf
        refine z_iast C (lay_c50 hL) (inb_in g9) dX5_settle_40 ?_
        refine z_M (fun M10 e11 => ?_)
        replace hf := bnd_out e11 hf
        refine z_iinc C 1 (y5 + 1) [(1, .int (y5 + 1)), (0, .ref (G.1 + 42))] dX5_settle_41 rfl rfl (by decide) rfl rfl ?_
        refine z_goto C 11 dX5_settle_44 (by decide) ?_
        refine z_lv (lv2 := [(0, .ref (G.1 + 42)), (1, .int (y5 + 1))]) [1, 0] rfl ?_
        exact ih M10 (y5 + 1)  hf
set_option maxHeartbeats 4000000 in
set_option maxRecDepth 100000 in
theorem wX5_settle_l49 (C : CX p s m args meth c cX5_settle 2 (some .int) RX5 G) (hs0 : s.heap.size = G.1 + K.1) (hL : Lay K)  (k110 : MM → Option (Int32 × MM)) (pp : (Int32 × MM)) (hk110 : ∀ (M16 : MM), k110 M16 = some pp → Z p l e (rmo 2 0 0) s m args below meth c 2 G (MQ below (QC G (some (.int pp.1)) K pp.2) args s 0 0 (AG G)) K 0 0 M16 110 [(0, .ref (G.1 + 42))] []) : ∀ (n : Nat) (M13 : MM) (y14 : Int32) (hf : fX5_settle_l49 k110 n M13 y14 = some pp), Z p l e (rmo 2 0 0) s m args below meth c 2 G (MQ below (QC G (some (.int pp.1)) K pp.2) args s 0 0 (AG G)) K 0 0 M13 49 [(0, .ref (G.1 + 42)), (1, .int y14)] [] := by
  intro n
  induction n with
  | zero => intro M13 y14 hf; exact nomatch (show (none : Option (Int32 × MM)) = some pp from hf)
  | succ n ih =>
    intro M13 y14 hf
    rw [fX5_settle_l49.eq_2] at hf
    refine z_iload_n C 1 1 dX5_settle_49 rfl rfl ?_
    refine z_aload_n C 0 0 dX5_settle_50 rfl rfl ?_
    refine z_getI C ok_X5 (lay_c42 hL) 2 (by decide) rfl q_fl_X5_43 dX5_settle_51 ?_
    refine z_icmp_ge C 110 dX5_settle_54 (by decide) (fun c15 => ?_) (fun c15 => ?_)
    · replace hf := ite_t c15 hf
      refine z_lv (lv2 := [(0, .ref (G.1 + 42))]) [0] rfl ?_
      exact hk110 M13  hf
    · replace hf := ite_f c15 hf
      refine z_aload_n C 0 0 dX5_settle_57 rfl rfl ?_
      refine z_getR C ok_X5 (lay_c42 hL) 4 (43) (by decide) rfl (lay_r42_4 hL) q_fl_X5_9 dX5_settle_58 ?_
      refine z_iload_n C 1 1 dX5_settle_61 rfl rfl ?_
      refine z_aload_n C 0 0 dX5_settle_62 rfl rfl ?_
      refine z_aload_n C 0 0 dX5_settle_63 rfl rfl ?_
      refine z_getR C ok_X5 (lay_c42 hL) 4 (43) (by decide) rfl (lay_r42_4 hL) q_fl_X5_9 dX5_settle_64 ?_
      refine z_iload_n C 1 1 dX5_settle_67 rfl rfl ?_
      replace hf := gd_out hf
      obtain ⟨g17, hf⟩ := hf
      refine z_iald C (lay_c43 hL) (inb_in g17) dX5_settle_68 ?_
      refine z_cV1 C [.int y14, .ref (G.1 + 43)] (tX5_squareOf l G hL M13 (gI M13 43 (ix y14))) lk_X5_squareOf ok_X5 (lay_c42 hL) q_ml_X5_69 rfl ⟨Nat.le_of_ble_eq_true rfl, Nat.le_of_ble_eq_true rfl⟩ rfl (Nat.le_of_ble_eq_true rfl) ⟨Nat.le_refl _, Nat.le_refl _⟩ dX5_settle_69 ?_
      replace hf := gd_out hf
      obtain ⟨g18, hf⟩ := hf
      refine z_iast C (lay_c43 hL) (inb_in g18) dX5_settle_72 ?_
      refine z_M (fun M19 e20 => ?_)
      replace hf := bnd_out e20 hf
      refine z_aload_n C 0 0 dX5_settle_73 rfl rfl ?_
      refine z_getR C ok_X5 (lay_c42 hL) 11 (50) (by decide) rfl (lay_r42_11 hL) q_fl_X5_33 dX5_settle_74 ?_
      refine z_aload_n C 0 0 dX5_settle_77 rfl rfl ?_
      refine z_getR C ok_X5 (lay_c42 hL) 4 (43) (by decide) rfl (lay_r42_4 hL) q_fl_X5_9 dX5_settle_78 ?_
      refine z_iload_n C 1 1 dX5_settle_81 rfl rfl ?_
      replace hf := gd_out hf
      obtain ⟨g21, hf⟩ := hf
      refine z_iald C (lay_c43 hL) (inb_in g21) dX5_settle_82 ?_
      replace hf := gd_out hf
      obtain ⟨g22, hf⟩ := hf
      refine z_iald C (lay_c50 hL) (inb_in g22) dX5_settle_83 ?_
      refine z_if_eq C 89 dX5_settle_84 (by decide) (fun c23 => ?_) (fun c23 => ?_)
      · replace hf := ite_t c23 hf
        refine z_aload_n C 0 0 dX5_settle_89 rfl rfl ?_
        refine z_getR C ok_X5 (lay_c42 hL) 11 (50) (by decide) rfl (lay_r42_11 hL) q_fl_X5_33 dX5_settle_90 ?_
        refine z_aload_n C 0 0 dX5_settle_93 rfl rfl ?_
        refine z_getR C ok_X5 (lay_c42 hL) 4 (43) (by decide) rfl (lay_r42_4 hL) q_fl_X5_9 dX5_settle_94 ?_
        refine z_iload_n C 1 1 dX5_settle_97 rfl rfl ?_
        replace hf := gd_out hf
        obtain ⟨g24, hf⟩ := hf
        refine z_iald C (lay_c43 hL) (inb_in g24) dX5_settle_98 ?_
        refine z_bipush C 10 dX5_settle_99 (by decide) ?_
        refine z_iload_n C 1 1 dX5_settle_101 rfl rfl ?_
        refine z_iadd C dX5_settle_102 ?_
        replace hf := gd_out hf
        obtain ⟨g25, hf⟩ := hf
        refine z_iast C (lay_c50 hL) (inb_in g25) dX5_settle_103 ?_
        refine z_M (fun M26 e27 => ?_)
        replace hf := bnd_out e27 hf
        refine z_iinc C 1 (y14 + 1) [(1, .int (y14 + 1)), (0, .ref (G.1 + 42))] dX5_settle_104 rfl rfl (by decide) rfl rfl ?_
        refine z_goto C 49 dX5_settle_107 (by decide) ?_
        refine z_lv (lv2 := [(0, .ref (G.1 + 42)), (1, .int (y14 + 1))]) [1, 0] rfl ?_
        exact ih M26 (y14 + 1)  hf
      · replace hf := ite_f c23 hf
        refine z_iconst C 5 dX5_settle_87 (by decide) ?_
        cases hf
        exact z_iret C rfl dX5_settle_88
set_option maxHeartbeats 4000000 in
set_option maxRecDepth 100000 in
theorem wX5_settle_l112 (C : CX p s m args meth c cX5_settle 2 (some .int) RX5 G) (hs0 : s.heap.size = G.1 + K.1) (hL : Lay K)   (pp : (Int32 × MM))  : ∀ (n : Nat) (M29 : MM) (y30 : Int32) (hf : fX5_settle_l112 n M29 y30 = some pp), Z p l e (rmo 2 0 0) s m args below meth c 2 G (MQ below (QC G (some (.int pp.1)) K pp.2) args s 0 0 (AG G)) K 0 0 M29 112 [(0, .ref (G.1 + 42)), (1, .int y30)] [] := by
  intro n
  induction n with
  | zero => intro M29 y30 hf; exact nomatch (show (none : Option (Int32 × MM)) = some pp from hf)
  | succ n ih =>
    intro M29 y30 hf
    rw [fX5_settle_l112.eq_2] at hf
    refine z_iload_n C 1 1 dX5_settle_112 rfl rfl ?_
    refine z_aload_n C 0 0 dX5_settle_113 rfl rfl ?_
    refine z_getI C ok_X5 (lay_c42 hL) 3 (by decide) rfl q_fl_X5_46 dX5_settle_114 ?_
    refine z_icmp_ge C 173 dX5_settle_117 (by decide) (fun c31 => ?_) (fun c31 => ?_)
    · replace hf := ite_t c31 hf
      refine z_iconst C 0 dX5_settle_173 (by decide) ?_
      cases hf
      exact z_iret C rfl dX5_settle_174
    · replace hf := ite_f c31 hf
      refine z_aload_n C 0 0 dX5_settle_120 rfl rfl ?_
      refine z_getR C ok_X5 (lay_c42 hL) 7 (46) (by decide) rfl (lay_r42_7 hL) q_fl_X5_21 dX5_settle_121 ?_
      refine z_iload_n C 1 1 dX5_settle_124 rfl rfl ?_
      refine z_aload_n C 0 0 dX5_settle_125 rfl rfl ?_
      refine z_aload_n C 0 0 dX5_settle_126 rfl rfl ?_
      refine z_getR C ok_X5 (lay_c42 hL) 7 (46) (by decide) rfl (lay_r42_7 hL) q_fl_X5_21 dX5_settle_127 ?_
      refine z_iload_n C 1 1 dX5_settle_130 rfl rfl ?_
      replace hf := gd_out hf
      obtain ⟨g32, hf⟩ := hf
      refine z_iald C (lay_c46 hL) (inb_in g32) dX5_settle_131 ?_
      refine z_cV1 C [.int y30, .ref (G.1 + 46)] (tX5_squareOf l G hL M29 (gI M29 46 (ix y30))) lk_X5_squareOf ok_X5 (lay_c42 hL) q_ml_X5_69 rfl ⟨Nat.le_of_ble_eq_true rfl, Nat.le_of_ble_eq_true rfl⟩ rfl (Nat.le_of_ble_eq_true rfl) ⟨Nat.le_refl _, Nat.le_refl _⟩ dX5_settle_132 ?_
      replace hf := gd_out hf
      obtain ⟨g33, hf⟩ := hf
      refine z_iast C (lay_c46 hL) (inb_in g33) dX5_settle_135 ?_
      refine z_M (fun M34 e35 => ?_)
      replace hf := bnd_out e35 hf
      refine z_aload_n C 0 0 dX5_settle_136 rfl rfl ?_
      refine z_getR C ok_X5 (lay_c42 hL) 11 (50) (by decide) rfl (lay_r42_11 hL) q_fl_X5_33 dX5_settle_137 ?_
      refine z_aload_n C 0 0 dX5_settle_140 rfl rfl ?_
      refine z_getR C ok_X5 (lay_c42 hL) 7 (46) (by decide) rfl (lay_r42_7 hL) q_fl_X5_21 dX5_settle_141 ?_
      refine z_iload_n C 1 1 dX5_settle_144 rfl rfl ?_
      replace hf := gd_out hf
      obtain ⟨g36, hf⟩ := hf
      refine z_iald C (lay_c46 hL) (inb_in g36) dX5_settle_145 ?_
      replace hf := gd_out hf
      obtain ⟨g37, hf⟩ := hf
      refine z_iald C (lay_c50 hL) (inb_in g37) dX5_settle_146 ?_
      refine z_if_eq C 152 dX5_settle_147 (by decide) (fun c38 => ?_) (fun c38 => ?_)
      · replace hf := ite_t c38 hf
        refine z_aload_n C 0 0 dX5_settle_152 rfl rfl ?_
        refine z_getR C ok_X5 (lay_c42 hL) 11 (50) (by decide) rfl (lay_r42_11 hL) q_fl_X5_33 dX5_settle_153 ?_
        refine z_aload_n C 0 0 dX5_settle_156 rfl rfl ?_
        refine z_getR C ok_X5 (lay_c42 hL) 7 (46) (by decide) rfl (lay_r42_7 hL) q_fl_X5_21 dX5_settle_157 ?_
        refine z_iload_n C 1 1 dX5_settle_160 rfl rfl ?_
        replace hf := gd_out hf
        obtain ⟨g39, hf⟩ := hf
        refine z_iald C (lay_c46 hL) (inb_in g39) dX5_settle_161 ?_
        refine z_bipush C 20 dX5_settle_162 (by decide) ?_
        refine z_iload_n C 1 1 dX5_settle_164 rfl rfl ?_
        refine z_iadd C dX5_settle_165 ?_
        replace hf := gd_out hf
        obtain ⟨g40, hf⟩ := hf
        refine z_iast C (lay_c50 hL) (inb_in g40) dX5_settle_166 ?_
        refine z_M (fun M41 e42 => ?_)
        replace hf := bnd_out e42 hf
        refine z_iinc C 1 (y30 + 1) [(1, .int (y30 + 1)), (0, .ref (G.1 + 42))] dX5_settle_167 rfl rfl (by decide) rfl rfl ?_
        refine z_goto C 112 dX5_settle_170 (by decide) ?_
        refine z_lv (lv2 := [(0, .ref (G.1 + 42)), (1, .int (y30 + 1))]) [1, 0] rfl ?_
        exact ih M41 (y30 + 1)  hf
      · replace hf := ite_f c38 hf
        refine z_iconst C 5 dX5_settle_150 (by decide) ?_
        cases hf
        exact z_iret C rfl dX5_settle_151
set_option maxHeartbeats 4000000 in
set_option maxRecDepth 100000 in
theorem tX5_settle (l : Launch) (G : GG) {K : SK} (hL : Lay K) (M : MM)  (pp : (Int32 × MM)) (hf : fX5_settle M = some pp) : Ct l yX5_settle cX5_settle 2 (some .int) 2 0 0 G K M [.ref (G.1 + 42)] (some (.int pp.1)) K pp.2 := by
  refine z_enter (lv := [(0, .ref (G.1 + 42))]) (by decide +kernel) (Nat.le_of_ble_eq_true rfl) rfl ?_
  intro p e s m args below meth c C hnm hs0
  replace C : CX p s m args meth c cX5_settle 2 (some .int) RX5 G := C
  unfold fX5_settle at hf
  refine z_aload_n C 0 0 dX5_settle_0 rfl rfl ?_
  replace hf := bd_out hf
  obtain ⟨p1, e2, hf⟩ := hf
  refine z_cV1 C [] (tX5_isAnyOutside l G hL M  _ e2) lk_X5_isAnyOutside ok_X5 (lay_c42 hL) q_ml_X5_65 rfl ⟨Nat.le_of_ble_eq_true rfl, Nat.le_of_ble_eq_true rfl⟩ rfl (Nat.le_of_ble_eq_true rfl) ⟨Nat.le_refl _, Nat.le_refl _⟩ dX5_settle_1 ?_
  refine z_if_eq C 9 dX5_settle_4 (by decide) (fun c3 => ?_) (fun c3 => ?_)
  · replace hf := ite_t c3 hf
    refine z_iconst C 0 dX5_settle_9 (by decide) ?_
    refine z_istore_n C [(1, .int 0), (0, .ref (G.1 + 42))] dX5_settle_10 rfl (by decide) rfl rfl ?_
    refine z_lv (lv2 := [(0, .ref (G.1 + 42)), (1, .int 0)]) [1, 0] rfl ?_
    refine wX5_settle_l11 C hs0 hL _ pp ?_ FU M 0 hf
    · intro M12 hf
      refine z_iconst C 0 dX5_settle_47 (by decide) ?_
      refine z_istore_n C [(1, .int 0), (0, .ref (G.1 + 42))] dX5_settle_48 rfl (by decide) rfl rfl ?_
      refine z_lv (lv2 := [(0, .ref (G.1 + 42)), (1, .int 0)]) [1, 0] rfl ?_
      refine wX5_settle_l49 C hs0 hL _ pp ?_ FU M12 0 hf
      · intro M28 hf
        refine z_iconst C 0 dX5_settle_110 (by decide) ?_
        refine z_istore_n C [(1, .int 0), (0, .ref (G.1 + 42))] dX5_settle_111 rfl (by decide) rfl rfl ?_
        refine z_lv (lv2 := [(0, .ref (G.1 + 42)), (1, .int 0)]) [1, 0] rfl ?_
        exact wX5_settle_l112 C hs0 hL pp FU M28 0 hf
  · replace hf := ite_f c3 hf
    refine z_iconst C 4 dX5_settle_7 (by decide) ?_
    cases hf
    exact z_iret C rfl dX5_settle_8
set_option maxHeartbeats 4000000 in
set_option maxRecDepth 100000 in
theorem tX5_hasSquare (l : Launch) (G : GG) {K : SK} (hL : Lay K) (M : MM) (a0 : Nat) (h0 : Par K a0) (x1 : Int32) : Ct l yX5_hasSquare cX5_hasSquare 2 (some .boolean) 0 0 0 G K M [.ref (G.1 + a0), .int x1] (some (.int (fX5_hasSquare M a0 x1))) K M := by
  generalize hf : fX5_hasSquare M a0 x1 = pp
  refine z_enter (lv := [(0, .ref (G.1 + a0)), (1, .int x1)]) (by decide +kernel) (Nat.le_of_ble_eq_true rfl) rfl ?_
  intro p e s m args below meth c C hnm hs0
  replace C : CX p s m args meth c cX5_hasSquare 2 (some .boolean) RX5 G := C
  unfold fX5_hasSquare at hf
  refine z_iload_n C 1 1 dX5_hasSquare_0 rfl rfl ?_
  refine z_if_lt C 21 dX5_hasSquare_1 (by decide) (fun c1 => ?_) (fun c1 => ?_)
  · replace hf := ite_t c1 hf
    refine z_iconst C 0 dX5_hasSquare_21 (by decide) ?_
    cases hf
    exact z_zret C rfl nb0 dX5_hasSquare_22
  · replace hf := ite_f c1 hf
    refine z_iload_n C 1 1 dX5_hasSquare_4 rfl rfl ?_
    refine z_aload_n C 0 0 dX5_hasSquare_5 rfl rfl ?_
    refine z_getI C ok_X5 (Par_o h0) 0 (by decide) rfl q_fl_X5_36 dX5_hasSquare_6 ?_
    refine z_aload_n C 0 0 dX5_hasSquare_9 rfl rfl ?_
    refine z_getI C ok_X5 (Par_o h0) 1 (by decide) rfl q_fl_X5_40 dX5_hasSquare_10 ?_
    refine z_imul C dX5_hasSquare_13 ?_
    refine z_icmp_ge C 21 dX5_hasSquare_14 (by decide) (fun c2 => ?_) (fun c2 => ?_)
    · replace hf := ite_t c2 hf
      refine z_iconst C 0 dX5_hasSquare_21 (by decide) ?_
      cases hf
      exact z_zret C rfl nb0 dX5_hasSquare_22
    · replace hf := ite_f c2 hf
      refine z_iconst C 1 dX5_hasSquare_17 (by decide) ?_
      refine z_goto C 22 dX5_hasSquare_18 (by decide) ?_
      cases hf
      exact z_zret C rfl nb1 dX5_hasSquare_22
set_option maxHeartbeats 4000000 in
set_option maxRecDepth 100000 in
theorem tX5_hasPerson (l : Launch) (G : GG) {K : SK} (hL : Lay K) (M : MM) (a0 : Nat) (h0 : Par K a0) (x1 : Int32) : Ct l yX5_hasPerson cX5_hasPerson 2 (some .boolean) 0 0 0 G K M [.ref (G.1 + a0), .int x1] (some (.int (fX5_hasPerson M a0 x1))) K M := by
  generalize hf : fX5_hasPerson M a0 x1 = pp
  refine z_enter (lv := [(0, .ref (G.1 + a0)), (1, .int x1)]) (by decide +kernel) (Nat.le_of_ble_eq_true rfl) rfl ?_
  intro p e s m args below meth c C hnm hs0
  replace C : CX p s m args meth c cX5_hasPerson 2 (some .boolean) RX5 G := C
  unfold fX5_hasPerson at hf
  refine z_iload_n C 1 1 dX5_hasPerson_0 rfl rfl ?_
  refine z_if_lt C 16 dX5_hasPerson_1 (by decide) (fun c1 => ?_) (fun c1 => ?_)
  · replace hf := ite_t c1 hf
    refine z_iconst C 0 dX5_hasPerson_16 (by decide) ?_
    cases hf
    exact z_zret C rfl nb0 dX5_hasPerson_17
  · replace hf := ite_f c1 hf
    refine z_iload_n C 1 1 dX5_hasPerson_4 rfl rfl ?_
    refine z_aload_n C 0 0 dX5_hasPerson_5 rfl rfl ?_
    refine z_getI C ok_X5 (Par_o h0) 2 (by decide) rfl q_fl_X5_43 dX5_hasPerson_6 ?_
    refine z_icmp_ge C 16 dX5_hasPerson_9 (by decide) (fun c2 => ?_) (fun c2 => ?_)
    · replace hf := ite_t c2 hf
      refine z_iconst C 0 dX5_hasPerson_16 (by decide) ?_
      cases hf
      exact z_zret C rfl nb0 dX5_hasPerson_17
    · replace hf := ite_f c2 hf
      refine z_iconst C 1 dX5_hasPerson_12 (by decide) ?_
      refine z_goto C 17 dX5_hasPerson_13 (by decide) ?_
      cases hf
      exact z_zret C rfl nb1 dX5_hasPerson_17
set_option maxHeartbeats 4000000 in
set_option maxRecDepth 100000 in
theorem tX5_hasShine (l : Launch) (G : GG) {K : SK} (hL : Lay K) (M : MM) (a0 : Nat) (h0 : Par K a0) (x1 : Int32) : Ct l yX5_hasShine cX5_hasShine 2 (some .boolean) 0 0 0 G K M [.ref (G.1 + a0), .int x1] (some (.int (fX5_hasShine M a0 x1))) K M := by
  generalize hf : fX5_hasShine M a0 x1 = pp
  refine z_enter (lv := [(0, .ref (G.1 + a0)), (1, .int x1)]) (by decide +kernel) (Nat.le_of_ble_eq_true rfl) rfl ?_
  intro p e s m args below meth c C hnm hs0
  replace C : CX p s m args meth c cX5_hasShine 2 (some .boolean) RX5 G := C
  unfold fX5_hasShine at hf
  refine z_iload_n C 1 1 dX5_hasShine_0 rfl rfl ?_
  refine z_if_lt C 16 dX5_hasShine_1 (by decide) (fun c1 => ?_) (fun c1 => ?_)
  · replace hf := ite_t c1 hf
    refine z_iconst C 0 dX5_hasShine_16 (by decide) ?_
    cases hf
    exact z_zret C rfl nb0 dX5_hasShine_17
  · replace hf := ite_f c1 hf
    refine z_iload_n C 1 1 dX5_hasShine_4 rfl rfl ?_
    refine z_aload_n C 0 0 dX5_hasShine_5 rfl rfl ?_
    refine z_getI C ok_X5 (Par_o h0) 3 (by decide) rfl q_fl_X5_46 dX5_hasShine_6 ?_
    refine z_icmp_ge C 16 dX5_hasShine_9 (by decide) (fun c2 => ?_) (fun c2 => ?_)
    · replace hf := ite_t c2 hf
      refine z_iconst C 0 dX5_hasShine_16 (by decide) ?_
      cases hf
      exact z_zret C rfl nb0 dX5_hasShine_17
    · replace hf := ite_f c2 hf
      refine z_iconst C 1 dX5_hasShine_12 (by decide) ?_
      refine z_goto C 17 dX5_hasShine_13 (by decide) ?_
      cases hf
      exact z_zret C rfl nb1 dX5_hasShine_17
set_option maxHeartbeats 4000000 in
set_option maxRecDepth 100000 in
theorem tX5_tellShine (l : Launch) (G : GG) {K : SK} (hL : Lay K) (M : MM) (a0 : Nat) (h0 : Par K a0) (x1 : Int32) (x2 : Int32) (pp : Int32) (hf : fX5_tellShine M a0 x1 x2 = some pp) : Ct l yX5_tellShine cX5_tellShine 3 (some .int) 0 0 0 G K M [.ref (G.1 + a0), .int x1, .int x2] (some (.int pp)) K M := by
  refine z_enter (lv := [(0, .ref (G.1 + a0)), (1, .int x1), (2, .int x2)]) (by decide +kernel) (Nat.le_of_ble_eq_true rfl) rfl ?_
  intro p e s m args below meth c C hnm hs0
  replace C : CX p s m args meth c cX5_tellShine 3 (some .int) RX5 G := C
  unfold fX5_tellShine at hf
  refine z_iload_n C 1 1 dX5_tellShine_0 rfl rfl ?_
  refine z_iconst C 3 dX5_tellShine_1 (by decide) ?_
  refine z_icmp_ne C 12 dX5_tellShine_2 (by decide) (fun c1 => ?_) (fun c1 => ?_)
  · replace hf := ite_f c1 hf
    refine z_iload_n C 1 1 dX5_tellShine_12 rfl rfl ?_
    refine z_iconst C 4 dX5_tellShine_13 (by decide) ?_
    refine z_icmp_ne C 24 dX5_tellShine_14 (by decide) (fun c2 => ?_) (fun c2 => ?_)
    · replace hf := ite_f c2 hf
      refine z_iload_n C 1 1 dX5_tellShine_24 rfl rfl ?_
      refine z_iconst C 5 dX5_tellShine_25 (by decide) ?_
      refine z_icmp_ne C 36 dX5_tellShine_26 (by decide) (fun c3 => ?_) (fun c3 => ?_)
      · replace hf := ite_f c3 hf
        refine z_iload_n C 1 1 dX5_tellShine_36 rfl rfl ?_
        refine z_bipush C 6 dX5_tellShine_37 (by decide) ?_
        refine z_icmp_ne C 51 dX5_tellShine_39 (by decide) (fun c4 => ?_) (fun c4 => ?_)
        · replace hf := ite_f c4 hf
          refine z_aload_n C 0 0 dX5_tellShine_51 rfl rfl ?_
          refine z_getR C ok_X5 (Par_o h0) 10 (a0 + 7) (by decide) rfl (Par_r10 h0) q_fl_X5_30 dX5_tellShine_52 ?_
          refine z_iload_n C 2 2 dX5_tellShine_55 rfl rfl ?_
          replace hf := gd_out hf
          obtain ⟨g5, hf⟩ := hf
          refine z_iald C (Par_c7 h0) (inb_in g5) dX5_tellShine_56 ?_
          cases hf
          exact z_iret C rfl dX5_tellShine_57
        · replace hf := ite_t c4 hf
          refine z_aload_n C 0 0 dX5_tellShine_42 rfl rfl ?_
          refine z_getR C ok_X5 (Par_o h0) 9 (a0 + 6) (by decide) rfl (Par_r9 h0) q_fl_X5_27 dX5_tellShine_43 ?_
          refine z_iload_n C 2 2 dX5_tellShine_46 rfl rfl ?_
          replace hf := gd_out hf
          obtain ⟨g6, hf⟩ := hf
          refine z_iald C (Par_c6 h0) (inb_in g6) dX5_tellShine_47 ?_
          refine z_goto C 57 dX5_tellShine_48 (by decide) ?_
          cases hf
          exact z_iret C rfl dX5_tellShine_57
      · replace hf := ite_t c3 hf
        refine z_aload_n C 0 0 dX5_tellShine_29 rfl rfl ?_
        refine z_getR C ok_X5 (Par_o h0) 8 (a0 + 5) (by decide) rfl (Par_r8 h0) q_fl_X5_24 dX5_tellShine_30 ?_
        refine z_iload_n C 2 2 dX5_tellShine_33 rfl rfl ?_
        replace hf := gd_out hf
        obtain ⟨g7, hf⟩ := hf
        refine z_iald C (Par_c5 h0) (inb_in g7) dX5_tellShine_34 ?_
        cases hf
        exact z_iret C rfl dX5_tellShine_35
    · replace hf := ite_t c2 hf
      refine z_aload_n C 0 0 dX5_tellShine_17 rfl rfl ?_
      refine z_getR C ok_X5 (Par_o h0) 7 (a0 + 4) (by decide) rfl (Par_r7 h0) q_fl_X5_21 dX5_tellShine_18 ?_
      refine z_iload_n C 2 2 dX5_tellShine_21 rfl rfl ?_
      replace hf := gd_out hf
      obtain ⟨g8, hf⟩ := hf
      refine z_iald C (Par_c4 h0) (inb_in g8) dX5_tellShine_22 ?_
      cases hf
      exact z_iret C rfl dX5_tellShine_23
  · replace hf := ite_t c1 hf
    refine z_aload_n C 0 0 dX5_tellShine_5 rfl rfl ?_
    refine z_getR C ok_X5 (Par_o h0) 6 (a0 + 3) (by decide) rfl (Par_r6 h0) q_fl_X5_18 dX5_tellShine_6 ?_
    refine z_iload_n C 2 2 dX5_tellShine_9 rfl rfl ?_
    replace hf := gd_out hf
    obtain ⟨g9, hf⟩ := hf
    refine z_iald C (Par_c3 h0) (inb_in g9) dX5_tellShine_10 ?_
    cases hf
    exact z_iret C rfl dX5_tellShine_11
set_option maxHeartbeats 4000000 in
set_option maxRecDepth 100000 in
theorem tX5_tell (l : Launch) (G : GG) {K : SK} (hL : Lay K) (M : MM) (a0 : Nat) (h0 : Par K a0) (x1 : Int32) (pp : Int32) (hf : fX5_tell M a0 x1 = some pp) : Ct l yX5_tell cX5_tell 4 (some .int) 1 0 0 G K M [.ref (G.1 + a0), .int x1] (some (.int pp)) K M := by
  refine z_enter (lv := [(0, .ref (G.1 + a0)), (1, .int x1)]) (by decide +kernel) (Nat.le_of_ble_eq_true rfl) rfl ?_
  intro p e s m args below meth c C hnm hs0
  replace C : CX p s m args meth c cX5_tell 4 (some .int) RX5 G := C
  unfold fX5_tell at hf
  refine z_iload_n C 1 1 dX5_tell_0 rfl rfl ?_
  refine z_if_ne C 9 dX5_tell_1 (by decide) (fun c1 => ?_) (fun c1 => ?_)
  · replace hf := ite_f c1 hf
    refine z_iload_n C 1 1 dX5_tell_9 rfl rfl ?_
    refine z_iconst C 1 dX5_tell_10 (by decide) ?_
    refine z_icmp_ne C 19 dX5_tell_11 (by decide) (fun c2 => ?_) (fun c2 => ?_)
    · replace hf := ite_f c2 hf
      refine z_iload_n C 1 1 dX5_tell_19 rfl rfl ?_
      refine z_iconst C 2 dX5_tell_20 (by decide) ?_
      refine z_icmp_ne C 29 dX5_tell_21 (by decide) (fun c3 => ?_) (fun c3 => ?_)
      · replace hf := ite_f c3 hf
        refine z_iload_n C 1 1 dX5_tell_29 rfl rfl ?_
        refine z_iconst C 3 dX5_tell_30 (by decide) ?_
        refine z_icmp_ne C 39 dX5_tell_31 (by decide) (fun c4 => ?_) (fun c4 => ?_)
        · replace hf := ite_f c4 hf
          refine z_iload_n C 1 1 dX5_tell_39 rfl rfl ?_
          refine z_bipush C 10 dX5_tell_40 (by decide) ?_
          refine z_icmp_lt C 51 dX5_tell_42 (by decide) (fun c5 => ?_) (fun c5 => ?_)
          · replace hf := ite_t c5 hf
            refine z_iconst C (-1) dX5_tell_51 (by decide) ?_
            cases hf
            exact z_iret C rfl dX5_tell_52
          · replace hf := ite_f c5 hf
            refine z_iload_n C 1 1 dX5_tell_45 rfl rfl ?_
            refine z_bipush C 80 dX5_tell_46 (by decide) ?_
            refine z_icmp_lt C 53 dX5_tell_48 (by decide) (fun c6 => ?_) (fun c6 => ?_)
            · replace hf := ite_t c6 hf
              refine z_iload_n C 1 1 dX5_tell_53 rfl rfl ?_
              refine z_bipush C 10 dX5_tell_54 (by decide) ?_
              refine z_idiv C (by decide) dX5_tell_56 ?_
              refine z_topi (fun v7 e8 => ?_)
              replace hf := bnd_out e8 hf
              refine z_istore_n C [(2, .int v7), (0, .ref (G.1 + a0)), (1, .int x1)] dX5_tell_57 rfl (by decide) rfl rfl ?_
              refine z_iload_n C 2 1 dX5_tell_58 rfl rfl ?_
              refine z_bipush C 10 dX5_tell_59 (by decide) ?_
              refine z_irem C (by decide) dX5_tell_61 ?_
              refine z_topi (fun v9 e10 => ?_)
              replace hf := bnd_out e10 hf
              refine z_istore_n C [(3, .int v9), (2, .int v7), (0, .ref (G.1 + a0)), (1, .int x1)] dX5_tell_62 rfl (by decide) rfl rfl ?_
              refine z_iload_n C 1 2 dX5_tell_63 rfl rfl ?_
              refine z_iconst C 2 dX5_tell_64 (by decide) ?_
              refine z_icmp_gt C 99 dX5_tell_65 (by decide) (fun c11 => ?_) (fun c11 => ?_)
              · replace hf := ite_t c11 hf
                refine z_aload_n C 2 0 dX5_tell_99 rfl rfl ?_
                refine z_iload_n C 0 3 dX5_tell_100 rfl rfl ?_
                refine z_cV1 C [] (tX5_hasShine l G hL M a0 h0 v9) lk_X5_hasShine ok_X5 (Par_o h0) q_ml_X5_80 rfl ⟨Nat.le_of_ble_eq_true rfl, Nat.le_of_ble_eq_true rfl⟩ rfl (Nat.le_of_ble_eq_true rfl) ⟨Nat.le_refl _, Nat.le_refl _⟩ dX5_tell_101 ?_
                refine z_if_eq C 116 dX5_tell_104 (by decide) (fun c12 => ?_) (fun c12 => ?_)
                · replace hf := ite_t c12 hf
                  refine z_iconst C (-1) dX5_tell_116 (by decide) ?_
                  cases hf
                  exact z_iret C rfl dX5_tell_117
                · replace hf := ite_f c12 hf
                  refine z_aload_n C 2 0 dX5_tell_107 rfl rfl ?_
                  refine z_iload_n C 1 2 dX5_tell_108 rfl rfl ?_
                  refine z_iload_n C 0 3 dX5_tell_109 rfl rfl ?_
                  replace hf := bd_out hf
                  obtain ⟨p13, e14, hf⟩ := hf
                  refine z_cV1 C [] (tX5_tellShine l G hL M a0 h0 v7 v9 _ e14) lk_X5_tellShine ok_X5 (Par_o h0) q_ml_X5_83 rfl ⟨Nat.le_of_ble_eq_true rfl, Nat.le_of_ble_eq_true rfl⟩ rfl (Nat.le_of_ble_eq_true rfl) ⟨Nat.le_refl _, Nat.le_refl _⟩ dX5_tell_110 ?_
                  refine z_goto C 117 dX5_tell_113 (by decide) ?_
                  cases hf
                  exact z_iret C rfl dX5_tell_117
              · replace hf := ite_f c11 hf
                refine z_aload_n C 2 0 dX5_tell_68 rfl rfl ?_
                refine z_iload_n C 0 3 dX5_tell_69 rfl rfl ?_
                refine z_cV1 C [] (tX5_hasPerson l G hL M a0 h0 v9) lk_X5_hasPerson ok_X5 (Par_o h0) q_ml_X5_77 rfl ⟨Nat.le_of_ble_eq_true rfl, Nat.le_of_ble_eq_true rfl⟩ rfl (Nat.le_of_ble_eq_true rfl) ⟨Nat.le_refl _, Nat.le_refl _⟩ dX5_tell_70 ?_
                refine z_if_ne C 78 dX5_tell_73 (by decide) (fun c15 => ?_) (fun c15 => ?_)
                · replace hf := ite_f c15 hf
                  refine z_iload_n C 1 2 dX5_tell_78 rfl rfl ?_
                  refine z_iconst C 1 dX5_tell_79 (by decide) ?_
                  refine z_icmp_ne C 92 dX5_tell_80 (by decide) (fun c16 => ?_) (fun c16 => ?_)
                  · replace hf := ite_f c16 hf
                    refine z_aload_n C 2 0 dX5_tell_92 rfl rfl ?_
                    refine z_getR C ok_X5 (Par_o h0) 5 (a0 + 2) (by decide) rfl (Par_r5 h0) q_fl_X5_15 dX5_tell_93 ?_
                    refine z_iload_n C 0 3 dX5_tell_96 rfl rfl ?_
                    replace hf := gd_out hf
                    obtain ⟨g17, hf⟩ := hf
                    refine z_iald C (Par_c2 h0) (inb_in g17) dX5_tell_97 ?_
                    cases hf
                    exact z_iret C rfl dX5_tell_98
                  · replace hf := ite_t c16 hf
                    refine z_aload_n C 2 0 dX5_tell_83 rfl rfl ?_
                    refine z_getR C ok_X5 (Par_o h0) 4 (a0 + 1) (by decide) rfl (Par_r4 h0) q_fl_X5_9 dX5_tell_84 ?_
                    refine z_iload_n C 0 3 dX5_tell_87 rfl rfl ?_
                    replace hf := gd_out hf
                    obtain ⟨g18, hf⟩ := hf
                    refine z_iald C (Par_c1 h0) (inb_in g18) dX5_tell_88 ?_
                    refine z_goto C 98 dX5_tell_89 (by decide) ?_
                    cases hf
                    exact z_iret C rfl dX5_tell_98
                · replace hf := ite_t c15 hf
                  refine z_iconst C (-1) dX5_tell_76 (by decide) ?_
                  cases hf
                  exact z_iret C rfl dX5_tell_77
            · replace hf := ite_f c6 hf
              refine z_iconst C (-1) dX5_tell_51 (by decide) ?_
              cases hf
              exact z_iret C rfl dX5_tell_52
        · replace hf := ite_t c4 hf
          refine z_aload_n C 0 0 dX5_tell_34 rfl rfl ?_
          refine z_getI C ok_X5 (Par_o h0) 3 (by decide) rfl q_fl_X5_46 dX5_tell_35 ?_
          cases hf
          exact z_iret C rfl dX5_tell_38
      · replace hf := ite_t c3 hf
        refine z_aload_n C 0 0 dX5_tell_24 rfl rfl ?_
        refine z_getI C ok_X5 (Par_o h0) 2 (by decide) rfl q_fl_X5_43 dX5_tell_25 ?_
        cases hf
        exact z_iret C rfl dX5_tell_28
    · replace hf := ite_t c2 hf
      refine z_aload_n C 0 0 dX5_tell_14 rfl rfl ?_
      refine z_getI C ok_X5 (Par_o h0) 1 (by decide) rfl q_fl_X5_40 dX5_tell_15 ?_
      cases hf
      exact z_iret C rfl dX5_tell_18
  · replace hf := ite_t c1 hf
    refine z_aload_n C 0 0 dX5_tell_4 rfl rfl ?_
    refine z_getI C ok_X5 (Par_o h0) 0 (by decide) rfl q_fl_X5_36 dX5_tell_5 ?_
    cases hf
    exact z_iret C rfl dX5_tell_8
end
