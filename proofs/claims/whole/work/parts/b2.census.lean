theorem dX11_feed_0 : decode cX11_feed 0 = .ok (.aload_n 0, 1) := by decide +kernel
theorem dX11_feed_1 : decode cX11_feed 1 = .ok (.getfield 10, 3) := by decide +kernel
theorem dX11_feed_4 : decode cX11_feed 4 = .ok (.getfield 64, 3) := by decide +kernel
theorem dX11_feed_7 : decode cX11_feed 7 = .ok (.bipush 20, 2) := by decide +kernel
theorem dX11_feed_9 : decode cX11_feed 9 = .ok (.iadd, 1) := by decide +kernel
theorem dX11_feed_10 : decode cX11_feed 10 = .ok (.sipush 600, 3) := by decide +kernel
theorem dX11_feed_13 : decode cX11_feed 13 = .ok (.if_icmp .le 5, 3) := by decide +kernel
theorem dX11_feed_16 : decode cX11_feed 16 = .ok (.iconst (-1), 1) := by decide +kernel
theorem dX11_feed_17 : decode cX11_feed 17 = .ok (.ireturn, 1) := by decide +kernel
theorem dX11_feed_18 : decode cX11_feed 18 = .ok (.aload_n 0, 1) := by decide +kernel
theorem dX11_feed_19 : decode cX11_feed 19 = .ok (.getfield 10, 3) := by decide +kernel
theorem dX11_feed_22 : decode cX11_feed 22 = .ok (.iload_n 1, 1) := by decide +kernel
theorem dX11_feed_23 : decode cX11_feed 23 = .ok (.invokevirtual 68, 3) := by decide +kernel
theorem dX11_feed_26 : decode cX11_feed 26 = .ok (.aload_n 0, 1) := by decide +kernel
theorem dX11_feed_27 : decode cX11_feed 27 = .ok (.getfield 10, 3) := by decide +kernel
theorem dX11_feed_30 : decode cX11_feed 30 = .ok (.iload_n 2, 1) := by decide +kernel
theorem dX11_feed_31 : decode cX11_feed 31 = .ok (.invokevirtual 68, 3) := by decide +kernel
theorem dX11_feed_34 : decode cX11_feed 34 = .ok (.aload_n 0, 1) := by decide +kernel
theorem dX11_feed_35 : decode cX11_feed 35 = .ok (.getfield 10, 3) := by decide +kernel
theorem dX11_feed_38 : decode cX11_feed 38 = .ok (.iload_n 3, 1) := by decide +kernel
theorem dX11_feed_39 : decode cX11_feed 39 = .ok (.invokevirtual 68, 3) := by decide +kernel
theorem dX11_feed_42 : decode cX11_feed 42 = .ok (.aload_n 0, 1) := by decide +kernel
theorem dX11_feed_43 : decode cX11_feed 43 = .ok (.getfield 10, 3) := by decide +kernel
theorem dX11_feed_46 : decode cX11_feed 46 = .ok (.iload 4, 2) := by decide +kernel
theorem dX11_feed_48 : decode cX11_feed 48 = .ok (.invokevirtual 68, 3) := by decide +kernel
theorem dX11_feed_51 : decode cX11_feed 51 = .ok (.aload_n 0, 1) := by decide +kernel
theorem dX11_feed_52 : decode cX11_feed 52 = .ok (.getfield 10, 3) := by decide +kernel
theorem dX11_feed_55 : decode cX11_feed 55 = .ok (.iload 5, 2) := by decide +kernel
theorem dX11_feed_57 : decode cX11_feed 57 = .ok (.invokevirtual 68, 3) := by decide +kernel
theorem dX11_feed_60 : decode cX11_feed 60 = .ok (.aload_n 0, 1) := by decide +kernel
theorem dX11_feed_61 : decode cX11_feed 61 = .ok (.getfield 10, 3) := by decide +kernel
theorem dX11_feed_64 : decode cX11_feed 64 = .ok (.getfield 64, 3) := by decide +kernel
theorem dX11_feed_67 : decode cX11_feed 67 = .ok (.ireturn, 1) := by decide +kernel
theorem dX11_end_0 : decode cX11_end 0 = .ok (.iload_n 1, 1) := by decide +kernel
theorem dX11_end_1 : decode cX11_end 1 = .ok (.ifCond .lt 14, 3) := by decide +kernel
theorem dX11_end_4 : decode cX11_end 4 = .ok (.iload_n 1, 1) := by decide +kernel
theorem dX11_end_5 : decode cX11_end 5 = .ok (.aload_n 0, 1) := by decide +kernel
theorem dX11_end_6 : decode cX11_end 6 = .ok (.getfield 10, 3) := by decide +kernel
theorem dX11_end_9 : decode cX11_end 9 = .ok (.getfield 64, 3) := by decide +kernel
theorem dX11_end_12 : decode cX11_end 12 = .ok (.if_icmp .le 5, 3) := by decide +kernel
theorem dX11_end_15 : decode cX11_end 15 = .ok (.iconst (-1), 1) := by decide +kernel
theorem dX11_end_16 : decode cX11_end 16 = .ok (.ireturn, 1) := by decide +kernel
theorem dX11_end_17 : decode cX11_end 17 = .ok (.aload_n 0, 1) := by decide +kernel
theorem dX11_end_18 : decode cX11_end 18 = .ok (.getfield 10, 3) := by decide +kernel
theorem dX11_end_21 : decode cX11_end 21 = .ok (.iload_n 1, 1) := by decide +kernel
theorem dX11_end_22 : decode cX11_end 22 = .ok (.putfield 64, 3) := by decide +kernel
theorem dX11_end_25 : decode cX11_end 25 = .ok (.iload_n 1, 1) := by decide +kernel
theorem dX11_end_26 : decode cX11_end 26 = .ok (.ireturn, 1) := by decide +kernel
theorem dX11_keepDraft_0 : decode cX11_keepDraft 0 = .ok (.iload_n 1, 1) := by decide +kernel
theorem dX11_keepDraft_1 : decode cX11_keepDraft 1 = .ok (.ifCond .ne 22, 3) := by decide +kernel
theorem dX11_keepDraft_4 : decode cX11_keepDraft 4 = .ok (.aload_n 0, 1) := by decide +kernel
theorem dX11_keepDraft_5 : decode cX11_keepDraft 5 = .ok (.getfield 10, 3) := by decide +kernel
theorem dX11_keepDraft_8 : decode cX11_keepDraft 8 = .ok (.getfield 96, 3) := by decide +kernel
theorem dX11_keepDraft_11 : decode cX11_keepDraft 11 = .ok (.iload_n 2, 1) := by decide +kernel
theorem dX11_keepDraft_12 : decode cX11_keepDraft 12 = .ok (.aaload, 1) := by decide +kernel
theorem dX11_keepDraft_13 : decode cX11_keepDraft 13 = .ok (.aload_n 0, 1) := by decide +kernel
theorem dX11_keepDraft_14 : decode cX11_keepDraft 14 = .ok (.getfield 23, 3) := by decide +kernel
theorem dX11_keepDraft_17 : decode cX11_keepDraft 17 = .ok (.getfield 100, 3) := by decide +kernel
theorem dX11_keepDraft_20 : decode cX11_keepDraft 20 = .ok (.invokevirtual 104, 3) := by decide +kernel
theorem dX11_keepDraft_23 : decode cX11_keepDraft 23 = .ok (.iload_n 1, 1) := by decide +kernel
theorem dX11_keepDraft_24 : decode cX11_keepDraft 24 = .ok (.iconst 1, 1) := by decide +kernel
theorem dX11_keepDraft_25 : decode cX11_keepDraft 25 = .ok (.if_icmp .ne 22, 3) := by decide +kernel
theorem dX11_keepDraft_28 : decode cX11_keepDraft 28 = .ok (.aload_n 0, 1) := by decide +kernel
theorem dX11_keepDraft_29 : decode cX11_keepDraft 29 = .ok (.getfield 10, 3) := by decide +kernel
theorem dX11_keepDraft_32 : decode cX11_keepDraft 32 = .ok (.getfield 110, 3) := by decide +kernel
theorem dX11_keepDraft_35 : decode cX11_keepDraft 35 = .ok (.iload_n 2, 1) := by decide +kernel
theorem dX11_keepDraft_36 : decode cX11_keepDraft 36 = .ok (.aaload, 1) := by decide +kernel
theorem dX11_keepDraft_37 : decode cX11_keepDraft 37 = .ok (.aload_n 0, 1) := by decide +kernel
theorem dX11_keepDraft_38 : decode cX11_keepDraft 38 = .ok (.getfield 23, 3) := by decide +kernel
theorem dX11_keepDraft_41 : decode cX11_keepDraft 41 = .ok (.getfield 114, 3) := by decide +kernel
theorem dX11_keepDraft_44 : decode cX11_keepDraft 44 = .ok (.invokevirtual 118, 3) := by decide +kernel
theorem dX11_keepDraft_47 : decode cX11_keepDraft 47 = .ok (.iload_n 1, 1) := by decide +kernel
theorem dX11_keepDraft_48 : decode cX11_keepDraft 48 = .ok (.iconst 2, 1) := by decide +kernel
theorem dX11_keepDraft_49 : decode cX11_keepDraft 49 = .ok (.if_icmp .ne 22, 3) := by decide +kernel
theorem dX11_keepDraft_52 : decode cX11_keepDraft 52 = .ok (.aload_n 0, 1) := by decide +kernel
theorem dX11_keepDraft_53 : decode cX11_keepDraft 53 = .ok (.getfield 10, 3) := by decide +kernel
theorem dX11_keepDraft_56 : decode cX11_keepDraft 56 = .ok (.getfield 123, 3) := by decide +kernel
theorem dX11_keepDraft_59 : decode cX11_keepDraft 59 = .ok (.iload_n 2, 1) := by decide +kernel
theorem dX11_keepDraft_60 : decode cX11_keepDraft 60 = .ok (.aaload, 1) := by decide +kernel
theorem dX11_keepDraft_61 : decode cX11_keepDraft 61 = .ok (.aload_n 0, 1) := by decide +kernel
theorem dX11_keepDraft_62 : decode cX11_keepDraft 62 = .ok (.getfield 23, 3) := by decide +kernel
theorem dX11_keepDraft_65 : decode cX11_keepDraft 65 = .ok (.getfield 127, 3) := by decide +kernel
theorem dX11_keepDraft_68 : decode cX11_keepDraft 68 = .ok (.invokevirtual 131, 3) := by decide +kernel
theorem dX11_keepDraft_71 : decode cX11_keepDraft 71 = .ok (.iload_n 1, 1) := by decide +kernel
theorem dX11_keepDraft_72 : decode cX11_keepDraft 72 = .ok (.iconst 3, 1) := by decide +kernel
theorem dX11_keepDraft_73 : decode cX11_keepDraft 73 = .ok (.if_icmp .ne 22, 3) := by decide +kernel
theorem dX11_keepDraft_76 : decode cX11_keepDraft 76 = .ok (.aload_n 0, 1) := by decide +kernel
theorem dX11_keepDraft_77 : decode cX11_keepDraft 77 = .ok (.getfield 10, 3) := by decide +kernel
theorem dX11_keepDraft_80 : decode cX11_keepDraft 80 = .ok (.getfield 136, 3) := by decide +kernel
theorem dX11_keepDraft_83 : decode cX11_keepDraft 83 = .ok (.iload_n 2, 1) := by decide +kernel
theorem dX11_keepDraft_84 : decode cX11_keepDraft 84 = .ok (.aaload, 1) := by decide +kernel
theorem dX11_keepDraft_85 : decode cX11_keepDraft 85 = .ok (.aload_n 0, 1) := by decide +kernel
theorem dX11_keepDraft_86 : decode cX11_keepDraft 86 = .ok (.getfield 23, 3) := by decide +kernel
theorem dX11_keepDraft_89 : decode cX11_keepDraft 89 = .ok (.getfield 140, 3) := by decide +kernel
theorem dX11_keepDraft_92 : decode cX11_keepDraft 92 = .ok (.invokevirtual 144, 3) := by decide +kernel
theorem dX11_keepDraft_95 : decode cX11_keepDraft 95 = .ok (.return_, 1) := by decide +kernel
theorem dX11_text_0 : decode cX11_text 0 = .ok (.aload_n 0, 1) := by decide +kernel
theorem dX11_text_1 : decode cX11_text 1 = .ok (.getfield 10, 3) := by decide +kernel
theorem dX11_text_4 : decode cX11_text 4 = .ok (.getfield 64, 3) := by decide +kernel
theorem dX11_text_7 : decode cX11_text 7 = .ok (.istore_n 3, 1) := by decide +kernel
theorem dX11_text_8 : decode cX11_text 8 = .ok (.aload_n 0, 1) := by decide +kernel
theorem dX11_text_9 : decode cX11_text 9 = .ok (.getfield 10, 3) := by decide +kernel
theorem dX11_text_12 : decode cX11_text 12 = .ok (.iconst 0, 1) := by decide +kernel
theorem dX11_text_13 : decode cX11_text 13 = .ok (.putfield 64, 3) := by decide +kernel
theorem dX11_text_16 : decode cX11_text 16 = .ok (.aload_n 0, 1) := by decide +kernel
theorem dX11_text_17 : decode cX11_text 17 = .ok (.getfield 10, 3) := by decide +kernel
theorem dX11_text_20 : decode cX11_text 20 = .ok (.iconst 0, 1) := by decide +kernel
theorem dX11_text_21 : decode cX11_text 21 = .ok (.putfield 72, 3) := by decide +kernel
theorem dX11_text_24 : decode cX11_text 24 = .ok (.aload_n 0, 1) := by decide +kernel
theorem dX11_text_25 : decode cX11_text 25 = .ok (.getfield 10, 3) := by decide +kernel
theorem dX11_text_28 : decode cX11_text 28 = .ok (.iconst (-1), 1) := by decide +kernel
theorem dX11_text_29 : decode cX11_text 29 = .ok (.putfield 75, 3) := by decide +kernel
theorem dX11_text_32 : decode cX11_text 32 = .ok (.iload_n 1, 1) := by decide +kernel
theorem dX11_text_33 : decode cX11_text 33 = .ok (.ifCond .lt 8, 3) := by decide +kernel
theorem dX11_text_36 : decode cX11_text 36 = .ok (.iload_n 1, 1) := by decide +kernel
theorem dX11_text_37 : decode cX11_text 37 = .ok (.iconst 4, 1) := by decide +kernel
theorem dX11_text_38 : decode cX11_text 38 = .ok (.if_icmp .lt 6, 3) := by decide +kernel
theorem dX11_text_41 : decode cX11_text 41 = .ok (.bipush (-2), 2) := by decide +kernel
theorem dX11_text_43 : decode cX11_text 43 = .ok (.ireturn, 1) := by decide +kernel
theorem dX11_text_44 : decode cX11_text 44 = .ok (.aload_n 0, 1) := by decide +kernel
theorem dX11_text_45 : decode cX11_text 45 = .ok (.getfield 10, 3) := by decide +kernel
theorem dX11_text_48 : decode cX11_text 48 = .ok (.getfield 78, 3) := by decide +kernel
theorem dX11_text_51 : decode cX11_text 51 = .ok (.iload_n 1, 1) := by decide +kernel
theorem dX11_text_52 : decode cX11_text 52 = .ok (.iaload, 1) := by decide +kernel
theorem dX11_text_53 : decode cX11_text 53 = .ok (.istore 4, 2) := by decide +kernel
theorem dX11_text_55 : decode cX11_text 55 = .ok (.iload_n 2, 1) := by decide +kernel
theorem dX11_text_56 : decode cX11_text 56 = .ok (.iconst (-1), 1) := by decide +kernel
theorem dX11_text_57 : decode cX11_text 57 = .ok (.if_icmp .ne 7, 3) := by decide +kernel
theorem dX11_text_60 : decode cX11_text 60 = .ok (.iconst 1, 1) := by decide +kernel
theorem dX11_text_61 : decode cX11_text 61 = .ok (.goto 4, 3) := by decide +kernel
theorem dX11_text_64 : decode cX11_text 64 = .ok (.iconst 0, 1) := by decide +kernel
theorem dX11_text_65 : decode cX11_text 65 = .ok (.istore 5, 2) := by decide +kernel
theorem dX11_text_67 : decode cX11_text 67 = .ok (.iload 5, 2) := by decide +kernel
theorem dX11_text_69 : decode cX11_text 69 = .ok (.ifCond .eq 12, 3) := by decide +kernel
theorem dX11_text_72 : decode cX11_text 72 = .ok (.iload 4, 2) := by decide +kernel
theorem dX11_text_74 : decode cX11_text 74 = .ok (.iconst 2, 1) := by decide +kernel
theorem dX11_text_75 : decode cX11_text 75 = .ok (.if_icmp .lt 6, 3) := by decide +kernel
theorem dX11_text_78 : decode cX11_text 78 = .ok (.bipush (-2), 2) := by decide +kernel
theorem dX11_text_80 : decode cX11_text 80 = .ok (.ireturn, 1) := by decide +kernel
theorem dX11_text_81 : decode cX11_text 81 = .ok (.iload 5, 2) := by decide +kernel
theorem dX11_text_83 : decode cX11_text 83 = .ok (.ifCond .ne 16, 3) := by decide +kernel
theorem dX11_text_86 : decode cX11_text 86 = .ok (.iload_n 2, 1) := by decide +kernel
theorem dX11_text_87 : decode cX11_text 87 = .ok (.ifCond .lt 9, 3) := by decide +kernel
theorem dX11_text_90 : decode cX11_text 90 = .ok (.iload_n 2, 1) := by decide +kernel
theorem dX11_text_91 : decode cX11_text 91 = .ok (.iload 4, 2) := by decide +kernel
theorem dX11_text_93 : decode cX11_text 93 = .ok (.if_icmp .lt 6, 3) := by decide +kernel
theorem dX11_text_96 : decode cX11_text 96 = .ok (.bipush (-2), 2) := by decide +kernel
theorem dX11_text_98 : decode cX11_text 98 = .ok (.ireturn, 1) := by decide +kernel
theorem dX11_text_99 : decode cX11_text 99 = .ok (.aload_n 0, 1) := by decide +kernel
theorem dX11_text_100 : decode cX11_text 100 = .ok (.getfield 23, 3) := by decide +kernel
theorem dX11_text_103 : decode cX11_text 103 = .ok (.aload_n 0, 1) := by decide +kernel
theorem dX11_text_104 : decode cX11_text 104 = .ok (.getfield 10, 3) := by decide +kernel
theorem dX11_text_107 : decode cX11_text 107 = .ok (.getfield 82, 3) := by decide +kernel
theorem dX11_text_110 : decode cX11_text 110 = .ok (.iload_n 3, 1) := by decide +kernel
theorem dX11_text_111 : decode cX11_text 111 = .ok (.iload_n 1, 1) := by decide +kernel
theorem dX11_text_112 : decode cX11_text 112 = .ok (.invokevirtual 86, 3) := by decide +kernel
theorem dX11_text_115 : decode cX11_text 115 = .ok (.aload_n 0, 1) := by decide +kernel
theorem dX11_text_116 : decode cX11_text 116 = .ok (.getfield 10, 3) := by decide +kernel
theorem dX11_text_119 : decode cX11_text 119 = .ok (.aload_n 0, 1) := by decide +kernel
theorem dX11_text_120 : decode cX11_text 120 = .ok (.getfield 23, 3) := by decide +kernel
theorem dX11_text_123 : decode cX11_text 123 = .ok (.getfield 90, 3) := by decide +kernel
theorem dX11_text_126 : decode cX11_text 126 = .ok (.putfield 72, 3) := by decide +kernel
theorem dX11_text_129 : decode cX11_text 129 = .ok (.aload_n 0, 1) := by decide +kernel
theorem dX11_text_130 : decode cX11_text 130 = .ok (.getfield 10, 3) := by decide +kernel
theorem dX11_text_133 : decode cX11_text 133 = .ok (.aload_n 0, 1) := by decide +kernel
theorem dX11_text_134 : decode cX11_text 134 = .ok (.getfield 23, 3) := by decide +kernel
theorem dX11_text_137 : decode cX11_text 137 = .ok (.getfield 91, 3) := by decide +kernel
theorem dX11_text_140 : decode cX11_text 140 = .ok (.putfield 75, 3) := by decide +kernel
theorem dX11_text_143 : decode cX11_text 143 = .ok (.aload_n 0, 1) := by decide +kernel
theorem dX11_text_144 : decode cX11_text 144 = .ok (.getfield 23, 3) := by decide +kernel
theorem dX11_text_147 : decode cX11_text 147 = .ok (.getfield 90, 3) := by decide +kernel
theorem dX11_text_150 : decode cX11_text 150 = .ok (.ifCond .eq 5, 3) := by decide +kernel
theorem dX11_text_153 : decode cX11_text 153 = .ok (.iconst (-1), 1) := by decide +kernel
theorem dX11_text_154 : decode cX11_text 154 = .ok (.ireturn, 1) := by decide +kernel
theorem dX11_text_155 : decode cX11_text 155 = .ok (.iload 5, 2) := by decide +kernel
theorem dX11_text_157 : decode cX11_text 157 = .ok (.ifCond .eq 8, 3) := by decide +kernel
theorem dX11_text_160 : decode cX11_text 160 = .ok (.iload 4, 2) := by decide +kernel
theorem dX11_text_162 : decode cX11_text 162 = .ok (.goto 4, 3) := by decide +kernel
theorem dX11_text_165 : decode cX11_text 165 = .ok (.iload_n 2, 1) := by decide +kernel
theorem dX11_text_166 : decode cX11_text 166 = .ok (.istore 6, 2) := by decide +kernel
theorem dX11_text_168 : decode cX11_text 168 = .ok (.iload 5, 2) := by decide +kernel
theorem dX11_text_170 : decode cX11_text 170 = .ok (.ifCond .eq 16, 3) := by decide +kernel
theorem dX11_text_173 : decode cX11_text 173 = .ok (.aload_n 0, 1) := by decide +kernel
theorem dX11_text_174 : decode cX11_text 174 = .ok (.getfield 10, 3) := by decide +kernel
theorem dX11_text_177 : decode cX11_text 177 = .ok (.getfield 78, 3) := by decide +kernel
theorem dX11_text_180 : decode cX11_text 180 = .ok (.iload_n 1, 1) := by decide +kernel
theorem dX11_text_181 : decode cX11_text 181 = .ok (.iload 4, 2) := by decide +kernel
theorem dX11_text_183 : decode cX11_text 183 = .ok (.iconst 1, 1) := by decide +kernel
theorem dX11_text_184 : decode cX11_text 184 = .ok (.iadd, 1) := by decide +kernel
theorem dX11_text_185 : decode cX11_text 185 = .ok (.iastore, 1) := by decide +kernel
theorem dX11_text_186 : decode cX11_text 186 = .ok (.aload_n 0, 1) := by decide +kernel
theorem dX11_text_187 : decode cX11_text 187 = .ok (.iload_n 1, 1) := by decide +kernel
theorem dX11_text_188 : decode cX11_text 188 = .ok (.iload 6, 2) := by decide +kernel
theorem dX11_text_190 : decode cX11_text 190 = .ok (.invokevirtual 92, 3) := by decide +kernel
theorem dX11_text_193 : decode cX11_text 193 = .ok (.iload 6, 2) := by decide +kernel
theorem dX11_text_195 : decode cX11_text 195 = .ok (.ireturn, 1) := by decide +kernel
theorem dX11_fault_0 : decode cX11_fault 0 = .ok (.iload_n 1, 1) := by decide +kernel
theorem dX11_fault_1 : decode cX11_fault 1 = .ok (.ifCond .ne 11, 3) := by decide +kernel
theorem dX11_fault_4 : decode cX11_fault 4 = .ok (.aload_n 0, 1) := by decide +kernel
theorem dX11_fault_5 : decode cX11_fault 5 = .ok (.getfield 10, 3) := by decide +kernel
theorem dX11_fault_8 : decode cX11_fault 8 = .ok (.getfield 72, 3) := by decide +kernel
theorem dX11_fault_11 : decode cX11_fault 11 = .ok (.ireturn, 1) := by decide +kernel
theorem dX11_fault_12 : decode cX11_fault 12 = .ok (.iload_n 1, 1) := by decide +kernel
theorem dX11_fault_13 : decode cX11_fault 13 = .ok (.iconst 1, 1) := by decide +kernel
theorem dX11_fault_14 : decode cX11_fault 14 = .ok (.if_icmp .ne 13, 3) := by decide +kernel
theorem dX11_fault_17 : decode cX11_fault 17 = .ok (.aload_n 0, 1) := by decide +kernel
theorem dX11_fault_18 : decode cX11_fault 18 = .ok (.getfield 10, 3) := by decide +kernel
theorem dX11_fault_21 : decode cX11_fault 21 = .ok (.getfield 75, 3) := by decide +kernel
theorem dX11_fault_24 : decode cX11_fault 24 = .ok (.goto 4, 3) := by decide +kernel
theorem dX11_fault_27 : decode cX11_fault 27 = .ok (.iconst (-1), 1) := by decide +kernel
theorem dX11_fault_28 : decode cX11_fault 28 = .ok (.ireturn, 1) := by decide +kernel
theorem dX11_parish_0 : decode cX11_parish 0 = .ok (.aload_n 0, 1) := by decide +kernel
theorem dX11_parish_1 : decode cX11_parish 1 = .ok (.getfield 10, 3) := by decide +kernel
theorem dX11_parish_4 : decode cX11_parish 4 = .ok (.iload_n 1, 1) := by decide +kernel
theorem dX11_parish_5 : decode cX11_parish 5 = .ok (.invokevirtual 149, 3) := by decide +kernel
theorem dX11_parish_8 : decode cX11_parish 8 = .ok (.astore_n 3, 1) := by decide +kernel
theorem dX11_parish_9 : decode cX11_parish 9 = .ok (.aload_n 3, 1) := by decide +kernel
theorem dX11_parish_10 : decode cX11_parish 10 = .ok (.ifnonnull 7, 3) := by decide +kernel
theorem dX11_parish_13 : decode cX11_parish 13 = .ok (.iconst (-1), 1) := by decide +kernel
theorem dX11_parish_14 : decode cX11_parish 14 = .ok (.goto 8, 3) := by decide +kernel
theorem dX11_parish_17 : decode cX11_parish 17 = .ok (.aload_n 3, 1) := by decide +kernel
theorem dX11_parish_18 : decode cX11_parish 18 = .ok (.iload_n 2, 1) := by decide +kernel
theorem dX11_parish_19 : decode cX11_parish 19 = .ok (.invokevirtual 153, 3) := by decide +kernel
theorem dX11_parish_22 : decode cX11_parish 22 = .ok (.ireturn, 1) := by decide +kernel
theorem dX11_square_0 : decode cX11_square 0 = .ok (.aload_n 0, 1) := by decide +kernel
theorem dX11_square_1 : decode cX11_square 1 = .ok (.getfield 10, 3) := by decide +kernel
theorem dX11_square_4 : decode cX11_square 4 = .ok (.iload_n 1, 1) := by decide +kernel
theorem dX11_square_5 : decode cX11_square 5 = .ok (.invokevirtual 149, 3) := by decide +kernel
theorem dX11_square_8 : decode cX11_square 8 = .ok (.astore_n 3, 1) := by decide +kernel
theorem dX11_square_9 : decode cX11_square 9 = .ok (.aload_n 3, 1) := by decide +kernel
theorem dX11_square_10 : decode cX11_square 10 = .ok (.ifnull 11, 3) := by decide +kernel
theorem dX11_square_13 : decode cX11_square 13 = .ok (.aload_n 3, 1) := by decide +kernel
theorem dX11_square_14 : decode cX11_square 14 = .ok (.iload_n 2, 1) := by decide +kernel
theorem dX11_square_15 : decode cX11_square 15 = .ok (.invokevirtual 157, 3) := by decide +kernel
theorem dX11_square_18 : decode cX11_square 18 = .ok (.ifCond .ne 5, 3) := by decide +kernel
theorem dX11_square_21 : decode cX11_square 21 = .ok (.iconst (-1), 1) := by decide +kernel
theorem dX11_square_22 : decode cX11_square 22 = .ok (.ireturn, 1) := by decide +kernel
theorem dX11_square_23 : decode cX11_square 23 = .ok (.aload_n 3, 1) := by decide +kernel
theorem dX11_square_24 : decode cX11_square 24 = .ok (.getfield 161, 3) := by decide +kernel
theorem dX11_square_27 : decode cX11_square 27 = .ok (.iload_n 2, 1) := by decide +kernel
theorem dX11_square_28 : decode cX11_square 28 = .ok (.iaload, 1) := by decide +kernel
theorem dX11_square_29 : decode cX11_square 29 = .ok (.ireturn, 1) := by decide +kernel
theorem dX11_law_0 : decode cX11_law 0 = .ok (.aload_n 0, 1) := by decide +kernel
theorem dX11_law_1 : decode cX11_law 1 = .ok (.getfield 10, 3) := by decide +kernel
theorem dX11_law_4 : decode cX11_law 4 = .ok (.iload_n 1, 1) := by decide +kernel
theorem dX11_law_5 : decode cX11_law 5 = .ok (.invokevirtual 164, 3) := by decide +kernel
theorem dX11_law_8 : decode cX11_law 8 = .ok (.astore_n 3, 1) := by decide +kernel
theorem dX11_law_9 : decode cX11_law 9 = .ok (.aload_n 3, 1) := by decide +kernel
theorem dX11_law_10 : decode cX11_law 10 = .ok (.ifnonnull 7, 3) := by decide +kernel
theorem dX11_law_13 : decode cX11_law 13 = .ok (.iconst (-1), 1) := by decide +kernel
theorem dX11_law_14 : decode cX11_law 14 = .ok (.goto 8, 3) := by decide +kernel
theorem dX11_law_17 : decode cX11_law 17 = .ok (.aload_n 3, 1) := by decide +kernel
theorem dX11_law_18 : decode cX11_law 18 = .ok (.iload_n 2, 1) := by decide +kernel
theorem dX11_law_19 : decode cX11_law 19 = .ok (.invokevirtual 168, 3) := by decide +kernel
theorem dX11_law_22 : decode cX11_law 22 = .ok (.ireturn, 1) := by decide +kernel
theorem dX11_deed_0 : decode cX11_deed 0 = .ok (.aload_n 0, 1) := by decide +kernel
theorem dX11_deed_1 : decode cX11_deed 1 = .ok (.getfield 10, 3) := by decide +kernel
theorem dX11_deed_4 : decode cX11_deed 4 = .ok (.iload_n 1, 1) := by decide +kernel
theorem dX11_deed_5 : decode cX11_deed 5 = .ok (.invokevirtual 169, 3) := by decide +kernel
theorem dX11_deed_8 : decode cX11_deed 8 = .ok (.astore 4, 2) := by decide +kernel
theorem dX11_deed_10 : decode cX11_deed 10 = .ok (.aload 4, 2) := by decide +kernel
theorem dX11_deed_12 : decode cX11_deed 12 = .ok (.ifnonnull 6, 3) := by decide +kernel
theorem dX11_deed_15 : decode cX11_deed 15 = .ok (.bipush (-2), 2) := by decide +kernel
theorem dX11_deed_17 : decode cX11_deed 17 = .ok (.ireturn, 1) := by decide +kernel
theorem dX11_deed_18 : decode cX11_deed 18 = .ok (.iload_n 2, 1) := by decide +kernel
theorem dX11_deed_19 : decode cX11_deed 19 = .ok (.iconst (-1), 1) := by decide +kernel
theorem dX11_deed_20 : decode cX11_deed 20 = .ok (.if_icmp .ne 18, 3) := by decide +kernel
theorem dX11_deed_23 : decode cX11_deed 23 = .ok (.iload_n 3, 1) := by decide +kernel
theorem dX11_deed_24 : decode cX11_deed 24 = .ok (.ifCond .ne 11, 3) := by decide +kernel
theorem dX11_deed_27 : decode cX11_deed 27 = .ok (.aload 4, 2) := by decide +kernel
theorem dX11_deed_29 : decode cX11_deed 29 = .ok (.getfield 173, 3) := by decide +kernel
theorem dX11_deed_32 : decode cX11_deed 32 = .ok (.goto 5, 3) := by decide +kernel
theorem dX11_deed_35 : decode cX11_deed 35 = .ok (.bipush (-2), 2) := by decide +kernel
theorem dX11_deed_37 : decode cX11_deed 37 = .ok (.ireturn, 1) := by decide +kernel
theorem dX11_deed_38 : decode cX11_deed 38 = .ok (.iload_n 2, 1) := by decide +kernel
theorem dX11_deed_39 : decode cX11_deed 39 = .ok (.ifCond .lt 12, 3) := by decide +kernel
theorem dX11_deed_42 : decode cX11_deed 42 = .ok (.iload_n 2, 1) := by decide +kernel
theorem dX11_deed_43 : decode cX11_deed 43 = .ok (.aload 4, 2) := by decide +kernel
theorem dX11_deed_45 : decode cX11_deed 45 = .ok (.getfield 173, 3) := by decide +kernel
theorem dX11_deed_48 : decode cX11_deed 48 = .ok (.if_icmp .lt 6, 3) := by decide +kernel
theorem dX11_deed_51 : decode cX11_deed 51 = .ok (.bipush (-2), 2) := by decide +kernel
theorem dX11_deed_53 : decode cX11_deed 53 = .ok (.ireturn, 1) := by decide +kernel
theorem dX11_deed_54 : decode cX11_deed 54 = .ok (.iload_n 3, 1) := by decide +kernel
theorem dX11_deed_55 : decode cX11_deed 55 = .ok (.ifCond .ne 11, 3) := by decide +kernel
theorem dX11_deed_58 : decode cX11_deed 58 = .ok (.aload 4, 2) := by decide +kernel
theorem dX11_deed_60 : decode cX11_deed 60 = .ok (.getfield 176, 3) := by decide +kernel
theorem dX11_deed_63 : decode cX11_deed 63 = .ok (.iload_n 2, 1) := by decide +kernel
theorem dX11_deed_64 : decode cX11_deed 64 = .ok (.iaload, 1) := by decide +kernel
theorem dX11_deed_65 : decode cX11_deed 65 = .ok (.ireturn, 1) := by decide +kernel
theorem dX11_deed_66 : decode cX11_deed 66 = .ok (.iload_n 3, 1) := by decide +kernel
theorem dX11_deed_67 : decode cX11_deed 67 = .ok (.iconst 1, 1) := by decide +kernel
theorem dX11_deed_68 : decode cX11_deed 68 = .ok (.if_icmp .ne 11, 3) := by decide +kernel
theorem dX11_deed_71 : decode cX11_deed 71 = .ok (.aload 4, 2) := by decide +kernel
theorem dX11_deed_73 : decode cX11_deed 73 = .ok (.getfield 179, 3) := by decide +kernel
theorem dX11_deed_76 : decode cX11_deed 76 = .ok (.iload_n 2, 1) := by decide +kernel
theorem dX11_deed_77 : decode cX11_deed 77 = .ok (.iaload, 1) := by decide +kernel
theorem dX11_deed_78 : decode cX11_deed 78 = .ok (.ireturn, 1) := by decide +kernel
theorem dX11_deed_79 : decode cX11_deed 79 = .ok (.iload_n 3, 1) := by decide +kernel
theorem dX11_deed_80 : decode cX11_deed 80 = .ok (.iconst 2, 1) := by decide +kernel
theorem dX11_deed_81 : decode cX11_deed 81 = .ok (.if_icmp .ne 13, 3) := by decide +kernel
theorem dX11_deed_84 : decode cX11_deed 84 = .ok (.aload 4, 2) := by decide +kernel
theorem dX11_deed_86 : decode cX11_deed 86 = .ok (.getfield 182, 3) := by decide +kernel
theorem dX11_deed_89 : decode cX11_deed 89 = .ok (.iload_n 2, 1) := by decide +kernel
theorem dX11_deed_90 : decode cX11_deed 90 = .ok (.iaload, 1) := by decide +kernel
theorem dX11_deed_91 : decode cX11_deed 91 = .ok (.goto 5, 3) := by decide +kernel
theorem dX11_deed_94 : decode cX11_deed 94 = .ok (.bipush (-2), 2) := by decide +kernel
theorem dX11_deed_96 : decode cX11_deed 96 = .ok (.ireturn, 1) := by decide +kernel
theorem dX11_looks_0 : decode cX11_looks 0 = .ok (.aload_n 0, 1) := by decide +kernel
theorem dX11_looks_1 : decode cX11_looks 1 = .ok (.getfield 10, 3) := by decide +kernel
theorem dX11_looks_4 : decode cX11_looks 4 = .ok (.iload_n 1, 1) := by decide +kernel
theorem dX11_looks_5 : decode cX11_looks 5 = .ok (.invokevirtual 149, 3) := by decide +kernel
theorem dX11_looks_8 : decode cX11_looks 8 = .ok (.astore 4, 2) := by decide +kernel
theorem dX11_looks_10 : decode cX11_looks 10 = .ok (.aload 4, 2) := by decide +kernel
theorem dX11_looks_12 : decode cX11_looks 12 = .ok (.ifnull 12, 3) := by decide +kernel
theorem dX11_looks_15 : decode cX11_looks 15 = .ok (.aload 4, 2) := by decide +kernel
theorem dX11_looks_17 : decode cX11_looks 17 = .ok (.iload_n 2, 1) := by decide +kernel
theorem dX11_looks_18 : decode cX11_looks 18 = .ok (.invokevirtual 185, 3) := by decide +kernel
theorem dX11_looks_21 : decode cX11_looks 21 = .ok (.ifCond .ne 6, 3) := by decide +kernel
theorem dX11_looks_24 : decode cX11_looks 24 = .ok (.bipush (-2), 2) := by decide +kernel
theorem dX11_looks_26 : decode cX11_looks 26 = .ok (.ireturn, 1) := by decide +kernel
theorem dX11_looks_27 : decode cX11_looks 27 = .ok (.iload_n 3, 1) := by decide +kernel
theorem dX11_looks_28 : decode cX11_looks 28 = .ok (.ifCond .lt 9, 3) := by decide +kernel
theorem dX11_looks_31 : decode cX11_looks 31 = .ok (.iload_n 3, 1) := by decide +kernel
theorem dX11_looks_32 : decode cX11_looks 32 = .ok (.bipush 8, 2) := by decide +kernel
theorem dX11_looks_34 : decode cX11_looks 34 = .ok (.if_icmp .lt 6, 3) := by decide +kernel
theorem dX11_looks_37 : decode cX11_looks 37 = .ok (.bipush (-2), 2) := by decide +kernel
theorem dX11_looks_39 : decode cX11_looks 39 = .ok (.ireturn, 1) := by decide +kernel
theorem dX11_looks_40 : decode cX11_looks 40 = .ok (.aload_n 0, 1) := by decide +kernel
theorem dX11_looks_41 : decode cX11_looks 41 = .ok (.getfield 30, 3) := by decide +kernel
theorem dX11_looks_44 : decode cX11_looks 44 = .ok (.aload 4, 2) := by decide +kernel
theorem dX11_looks_46 : decode cX11_looks 46 = .ok (.invokevirtual 188, 3) := by decide +kernel
theorem dX11_looks_49 : decode cX11_looks 49 = .ok (.aload_n 0, 1) := by decide +kernel
theorem dX11_looks_50 : decode cX11_looks 50 = .ok (.getfield 30, 3) := by decide +kernel
theorem dX11_looks_53 : decode cX11_looks 53 = .ok (.iload_n 2, 1) := by decide +kernel
theorem dX11_looks_54 : decode cX11_looks 54 = .ok (.iload_n 3, 1) := by decide +kernel
theorem dX11_looks_55 : decode cX11_looks 55 = .ok (.invokevirtual 191, 3) := by decide +kernel
theorem dX11_looks_58 : decode cX11_looks 58 = .ok (.ifCond .ne 5, 3) := by decide +kernel
theorem dX11_looks_61 : decode cX11_looks 61 = .ok (.iconst (-1), 1) := by decide +kernel
theorem dX11_looks_62 : decode cX11_looks 62 = .ok (.ireturn, 1) := by decide +kernel
theorem dX11_looks_63 : decode cX11_looks 63 = .ok (.aload_n 0, 1) := by decide +kernel
theorem dX11_looks_64 : decode cX11_looks 64 = .ok (.getfield 30, 3) := by decide +kernel
theorem dX11_looks_67 : decode cX11_looks 67 = .ok (.iload_n 2, 1) := by decide +kernel
theorem dX11_looks_68 : decode cX11_looks 68 = .ok (.iload_n 3, 1) := by decide +kernel
theorem dX11_looks_69 : decode cX11_looks 69 = .ok (.invokevirtual 195, 3) := by decide +kernel
theorem dX11_looks_72 : decode cX11_looks 72 = .ok (.istore 5, 2) := by decide +kernel
theorem dX11_looks_74 : decode cX11_looks 74 = .ok (.iload 5, 2) := by decide +kernel
theorem dX11_looks_76 : decode cX11_looks 76 = .ok (.bipush 20, 2) := by decide +kernel
theorem dX11_looks_78 : decode cX11_looks 78 = .ok (.if_icmp .lt 12, 3) := by decide +kernel
theorem dX11_looks_81 : decode cX11_looks 81 = .ok (.bipush 10, 2) := by decide +kernel
theorem dX11_looks_83 : decode cX11_looks 83 = .ok (.iload 5, 2) := by decide +kernel
theorem dX11_looks_85 : decode cX11_looks 85 = .ok (.iadd, 1) := by decide +kernel
theorem dX11_looks_86 : decode cX11_looks 86 = .ok (.bipush 20, 2) := by decide +kernel
theorem dX11_looks_88 : decode cX11_looks 88 = .ok (.isub, 1) := by decide +kernel
theorem dX11_looks_89 : decode cX11_looks 89 = .ok (.ireturn, 1) := by decide +kernel
theorem dX11_looks_90 : decode cX11_looks 90 = .ok (.iload 5, 2) := by decide +kernel
theorem dX11_looks_92 : decode cX11_looks 92 = .ok (.bipush 10, 2) := by decide +kernel
theorem dX11_looks_94 : decode cX11_looks 94 = .ok (.if_icmp .lt 11, 3) := by decide +kernel
theorem dX11_looks_97 : decode cX11_looks 97 = .ok (.iload 5, 2) := by decide +kernel
theorem dX11_looks_99 : decode cX11_looks 99 = .ok (.bipush 10, 2) := by decide +kernel
theorem dX11_looks_101 : decode cX11_looks 101 = .ok (.isub, 1) := by decide +kernel
theorem dX11_looks_102 : decode cX11_looks 102 = .ok (.goto 4, 3) := by decide +kernel
theorem dX11_looks_105 : decode cX11_looks 105 = .ok (.iconst (-1), 1) := by decide +kernel
theorem dX11_looks_106 : decode cX11_looks 106 = .ok (.ireturn, 1) := by decide +kernel
theorem dX11_degree_0 : decode cX11_degree 0 = .ok (.aload_n 0, 1) := by decide +kernel
theorem dX11_degree_1 : decode cX11_degree 1 = .ok (.getfield 10, 3) := by decide +kernel
theorem dX11_degree_4 : decode cX11_degree 4 = .ok (.iload_n 1, 1) := by decide +kernel
theorem dX11_degree_5 : decode cX11_degree 5 = .ok (.invokevirtual 149, 3) := by decide +kernel
theorem dX11_degree_8 : decode cX11_degree 8 = .ok (.astore 4, 2) := by decide +kernel
theorem dX11_degree_10 : decode cX11_degree 10 = .ok (.aload 4, 2) := by decide +kernel
theorem dX11_degree_12 : decode cX11_degree 12 = .ok (.ifnull 21, 3) := by decide +kernel
theorem dX11_degree_15 : decode cX11_degree 15 = .ok (.aload 4, 2) := by decide +kernel
theorem dX11_degree_17 : decode cX11_degree 17 = .ok (.iload_n 2, 1) := by decide +kernel
theorem dX11_degree_18 : decode cX11_degree 18 = .ok (.invokevirtual 185, 3) := by decide +kernel
theorem dX11_degree_21 : decode cX11_degree 21 = .ok (.ifCond .eq 12, 3) := by decide +kernel
theorem dX11_degree_24 : decode cX11_degree 24 = .ok (.aload 4, 2) := by decide +kernel
theorem dX11_degree_26 : decode cX11_degree 26 = .ok (.iload_n 3, 1) := by decide +kernel
theorem dX11_degree_27 : decode cX11_degree 27 = .ok (.invokevirtual 199, 3) := by decide +kernel
theorem dX11_degree_30 : decode cX11_degree 30 = .ok (.ifCond .ne 6, 3) := by decide +kernel
theorem dX11_degree_33 : decode cX11_degree 33 = .ok (.bipush (-2), 2) := by decide +kernel
theorem dX11_degree_35 : decode cX11_degree 35 = .ok (.ireturn, 1) := by decide +kernel
theorem dX11_degree_36 : decode cX11_degree 36 = .ok (.aload_n 0, 1) := by decide +kernel
theorem dX11_degree_37 : decode cX11_degree 37 = .ok (.getfield 30, 3) := by decide +kernel
theorem dX11_degree_40 : decode cX11_degree 40 = .ok (.aload 4, 2) := by decide +kernel
theorem dX11_degree_42 : decode cX11_degree 42 = .ok (.invokevirtual 188, 3) := by decide +kernel
theorem dX11_degree_45 : decode cX11_degree 45 = .ok (.aload_n 0, 1) := by decide +kernel
theorem dX11_degree_46 : decode cX11_degree 46 = .ok (.getfield 30, 3) := by decide +kernel
theorem dX11_degree_49 : decode cX11_degree 49 = .ok (.iload_n 2, 1) := by decide +kernel
theorem dX11_degree_50 : decode cX11_degree 50 = .ok (.iload_n 3, 1) := by decide +kernel
theorem dX11_degree_51 : decode cX11_degree 51 = .ok (.invokevirtual 202, 3) := by decide +kernel
theorem dX11_degree_54 : decode cX11_degree 54 = .ok (.ireturn, 1) := by decide +kernel
theorem dX11_counted_0 : decode cX11_counted 0 = .ok (.aload_n 0, 1) := by decide +kernel
theorem dX11_counted_1 : decode cX11_counted 1 = .ok (.getfield 10, 3) := by decide +kernel
theorem dX11_counted_4 : decode cX11_counted 4 = .ok (.iload_n 1, 1) := by decide +kernel
theorem dX11_counted_5 : decode cX11_counted 5 = .ok (.invokevirtual 149, 3) := by decide +kernel
theorem dX11_counted_8 : decode cX11_counted 8 = .ok (.astore 4, 2) := by decide +kernel
theorem dX11_counted_10 : decode cX11_counted 10 = .ok (.aload_n 0, 1) := by decide +kernel
theorem dX11_counted_11 : decode cX11_counted 11 = .ok (.getfield 10, 3) := by decide +kernel
theorem dX11_counted_14 : decode cX11_counted 14 = .ok (.iload_n 2, 1) := by decide +kernel
theorem dX11_counted_15 : decode cX11_counted 15 = .ok (.invokevirtual 164, 3) := by decide +kernel
theorem dX11_counted_18 : decode cX11_counted 18 = .ok (.astore 5, 2) := by decide +kernel
theorem dX11_counted_20 : decode cX11_counted 20 = .ok (.aload 4, 2) := by decide +kernel
theorem dX11_counted_22 : decode cX11_counted 22 = .ok (.ifnull 8, 3) := by decide +kernel
theorem dX11_counted_25 : decode cX11_counted 25 = .ok (.aload 5, 2) := by decide +kernel
theorem dX11_counted_27 : decode cX11_counted 27 = .ok (.ifnonnull 5, 3) := by decide +kernel
theorem dX11_counted_30 : decode cX11_counted 30 = .ok (.iconst (-1), 1) := by decide +kernel
theorem dX11_counted_31 : decode cX11_counted 31 = .ok (.ireturn, 1) := by decide +kernel
theorem dX11_counted_32 : decode cX11_counted 32 = .ok (.iload_n 3, 1) := by decide +kernel
theorem dX11_counted_33 : decode cX11_counted 33 = .ok (.iconst (-1), 1) := by decide +kernel
theorem dX11_counted_34 : decode cX11_counted 34 = .ok (.if_icmp .eq 14, 3) := by decide +kernel
theorem dX11_counted_37 : decode cX11_counted 37 = .ok (.aload 4, 2) := by decide +kernel
theorem dX11_counted_39 : decode cX11_counted 39 = .ok (.iload_n 3, 1) := by decide +kernel
theorem dX11_counted_40 : decode cX11_counted 40 = .ok (.invokevirtual 185, 3) := by decide +kernel
theorem dX11_counted_43 : decode cX11_counted 43 = .ok (.ifCond .ne 5, 3) := by decide +kernel
theorem dX11_counted_46 : decode cX11_counted 46 = .ok (.iconst (-1), 1) := by decide +kernel
theorem dX11_counted_47 : decode cX11_counted 47 = .ok (.ireturn, 1) := by decide +kernel
theorem dX11_counted_48 : decode cX11_counted 48 = .ok (.aload_n 0, 1) := by decide +kernel
theorem dX11_counted_49 : decode cX11_counted 49 = .ok (.getfield 30, 3) := by decide +kernel
theorem dX11_counted_52 : decode cX11_counted 52 = .ok (.aload 4, 2) := by decide +kernel
theorem dX11_counted_54 : decode cX11_counted 54 = .ok (.invokevirtual 188, 3) := by decide +kernel
theorem dX11_counted_57 : decode cX11_counted 57 = .ok (.aload_n 0, 1) := by decide +kernel
theorem dX11_counted_58 : decode cX11_counted 58 = .ok (.getfield 30, 3) := by decide +kernel
theorem dX11_counted_61 : decode cX11_counted 61 = .ok (.aload 5, 2) := by decide +kernel
theorem dX11_counted_63 : decode cX11_counted 63 = .ok (.invokevirtual 205, 3) := by decide +kernel
theorem dX11_counted_66 : decode cX11_counted 66 = .ok (.istore 6, 2) := by decide +kernel
theorem dX11_counted_68 : decode cX11_counted 68 = .ok (.iload_n 3, 1) := by decide +kernel
theorem dX11_counted_69 : decode cX11_counted 69 = .ok (.iconst (-1), 1) := by decide +kernel
theorem dX11_counted_70 : decode cX11_counted 70 = .ok (.if_icmp .ne 8, 3) := by decide +kernel
theorem dX11_counted_73 : decode cX11_counted 73 = .ok (.iload 6, 2) := by decide +kernel
theorem dX11_counted_75 : decode cX11_counted 75 = .ok (.goto 13, 3) := by decide +kernel
theorem dX11_counted_78 : decode cX11_counted 78 = .ok (.aload_n 0, 1) := by decide +kernel
theorem dX11_counted_79 : decode cX11_counted 79 = .ok (.getfield 30, 3) := by decide +kernel
theorem dX11_counted_82 : decode cX11_counted 82 = .ok (.iload_n 3, 1) := by decide +kernel
theorem dX11_counted_83 : decode cX11_counted 83 = .ok (.aload 5, 2) := by decide +kernel
theorem dX11_counted_85 : decode cX11_counted 85 = .ok (.invokevirtual 209, 3) := by decide +kernel
theorem dX11_counted_88 : decode cX11_counted 88 = .ok (.ireturn, 1) := by decide +kernel
theorem dX11_isParty_0 : decode cX11_isParty 0 = .ok (.iload_n 0, 1) := by decide +kernel
theorem dX11_isParty_1 : decode cX11_isParty 1 = .ok (.ifCond .lt 12, 3) := by decide +kernel
theorem dX11_isParty_4 : decode cX11_isParty 4 = .ok (.iload_n 0, 1) := by decide +kernel
theorem dX11_isParty_5 : decode cX11_isParty 5 = .ok (.iconst 4, 1) := by decide +kernel
theorem dX11_isParty_6 : decode cX11_isParty 6 = .ok (.if_icmp .ge 7, 3) := by decide +kernel
theorem dX11_isParty_9 : decode cX11_isParty 9 = .ok (.iconst 1, 1) := by decide +kernel
theorem dX11_isParty_10 : decode cX11_isParty 10 = .ok (.goto 4, 3) := by decide +kernel
theorem dX11_isParty_13 : decode cX11_isParty 13 = .ok (.iconst 0, 1) := by decide +kernel
theorem dX11_isParty_14 : decode cX11_isParty 14 = .ok (.ireturn, 1) := by decide +kernel
theorem dX11_party_0 : decode cX11_party 0 = .ok (.aload_n 0, 1) := by decide +kernel
theorem dX11_party_1 : decode cX11_party 1 = .ok (.getfield 10, 3) := by decide +kernel
theorem dX11_party_4 : decode cX11_party 4 = .ok (.iload_n 1, 1) := by decide +kernel
theorem dX11_party_5 : decode cX11_party 5 = .ok (.invokevirtual 149, 3) := by decide +kernel
theorem dX11_party_8 : decode cX11_party 8 = .ok (.astore 5, 2) := by decide +kernel
theorem dX11_party_10 : decode cX11_party 10 = .ok (.aload_n 0, 1) := by decide +kernel
theorem dX11_party_11 : decode cX11_party 11 = .ok (.getfield 10, 3) := by decide +kernel
theorem dX11_party_14 : decode cX11_party 14 = .ok (.iload_n 2, 1) := by decide +kernel
theorem dX11_party_15 : decode cX11_party 15 = .ok (.invokevirtual 164, 3) := by decide +kernel
theorem dX11_party_18 : decode cX11_party 18 = .ok (.astore 6, 2) := by decide +kernel
theorem dX11_party_20 : decode cX11_party 20 = .ok (.aload 5, 2) := by decide +kernel
theorem dX11_party_22 : decode cX11_party 22 = .ok (.ifnull 15, 3) := by decide +kernel
theorem dX11_party_25 : decode cX11_party 25 = .ok (.aload 6, 2) := by decide +kernel
theorem dX11_party_27 : decode cX11_party 27 = .ok (.ifnull 10, 3) := by decide +kernel
theorem dX11_party_30 : decode cX11_party 30 = .ok (.iload_n 3, 1) := by decide +kernel
theorem dX11_party_31 : decode cX11_party 31 = .ok (.invokestatic 213, 3) := by decide +kernel
theorem dX11_party_34 : decode cX11_party 34 = .ok (.ifCond .ne 5, 3) := by decide +kernel
theorem dX11_party_37 : decode cX11_party 37 = .ok (.iconst (-1), 1) := by decide +kernel
theorem dX11_party_38 : decode cX11_party 38 = .ok (.ireturn, 1) := by decide +kernel
theorem dX11_party_39 : decode cX11_party 39 = .ok (.aload_n 0, 1) := by decide +kernel
theorem dX11_party_40 : decode cX11_party 40 = .ok (.getfield 30, 3) := by decide +kernel
theorem dX11_party_43 : decode cX11_party 43 = .ok (.aload 5, 2) := by decide +kernel
theorem dX11_party_45 : decode cX11_party 45 = .ok (.invokevirtual 188, 3) := by decide +kernel
theorem dX11_party_48 : decode cX11_party 48 = .ok (.iload 4, 2) := by decide +kernel
theorem dX11_party_50 : decode cX11_party 50 = .ok (.ifCond .eq 14, 3) := by decide +kernel
theorem dX11_party_53 : decode cX11_party 53 = .ok (.aload_n 0, 1) := by decide +kernel
theorem dX11_party_54 : decode cX11_party 54 = .ok (.getfield 30, 3) := by decide +kernel
theorem dX11_party_57 : decode cX11_party 57 = .ok (.iload_n 3, 1) := by decide +kernel
theorem dX11_party_58 : decode cX11_party 58 = .ok (.aload 6, 2) := by decide +kernel
theorem dX11_party_60 : decode cX11_party 60 = .ok (.invokevirtual 216, 3) := by decide +kernel
theorem dX11_party_63 : decode cX11_party 63 = .ok (.ireturn, 1) := by decide +kernel
theorem dX11_party_64 : decode cX11_party 64 = .ok (.aload_n 0, 1) := by decide +kernel
theorem dX11_party_65 : decode cX11_party 65 = .ok (.getfield 30, 3) := by decide +kernel
theorem dX11_party_68 : decode cX11_party 68 = .ok (.aload 6, 2) := by decide +kernel
theorem dX11_party_70 : decode cX11_party 70 = .ok (.invokevirtual 219, 3) := by decide +kernel
theorem dX11_party_73 : decode cX11_party 73 = .ok (.aload_n 0, 1) := by decide +kernel
theorem dX11_party_74 : decode cX11_party 74 = .ok (.getfield 30, 3) := by decide +kernel
theorem dX11_party_77 : decode cX11_party 77 = .ok (.getfield 222, 3) := by decide +kernel
theorem dX11_party_80 : decode cX11_party 80 = .ok (.iload_n 3, 1) := by decide +kernel
theorem dX11_party_81 : decode cX11_party 81 = .ok (.iaload, 1) := by decide +kernel
theorem dX11_party_82 : decode cX11_party 82 = .ok (.ireturn, 1) := by decide +kernel
theorem dX11_stop_0 : decode cX11_stop 0 = .ok (.aload_n 0, 1) := by decide +kernel
theorem dX11_stop_1 : decode cX11_stop 1 = .ok (.getfield 10, 3) := by decide +kernel
theorem dX11_stop_4 : decode cX11_stop 4 = .ok (.iload_n 1, 1) := by decide +kernel
theorem dX11_stop_5 : decode cX11_stop 5 = .ok (.invokevirtual 149, 3) := by decide +kernel
theorem dX11_stop_8 : decode cX11_stop 8 = .ok (.astore 4, 2) := by decide +kernel
theorem dX11_stop_10 : decode cX11_stop 10 = .ok (.aload_n 0, 1) := by decide +kernel
theorem dX11_stop_11 : decode cX11_stop 11 = .ok (.getfield 10, 3) := by decide +kernel
theorem dX11_stop_14 : decode cX11_stop 14 = .ok (.iload_n 2, 1) := by decide +kernel
theorem dX11_stop_15 : decode cX11_stop 15 = .ok (.invokevirtual 164, 3) := by decide +kernel
theorem dX11_stop_18 : decode cX11_stop 18 = .ok (.astore 5, 2) := by decide +kernel
theorem dX11_stop_20 : decode cX11_stop 20 = .ok (.aload_n 0, 1) := by decide +kernel
theorem dX11_stop_21 : decode cX11_stop 21 = .ok (.getfield 10, 3) := by decide +kernel
theorem dX11_stop_24 : decode cX11_stop 24 = .ok (.iload_n 3, 1) := by decide +kernel
theorem dX11_stop_25 : decode cX11_stop 25 = .ok (.invokevirtual 169, 3) := by decide +kernel
theorem dX11_stop_28 : decode cX11_stop 28 = .ok (.astore 6, 2) := by decide +kernel
theorem dX11_stop_30 : decode cX11_stop 30 = .ok (.aload 4, 2) := by decide +kernel
theorem dX11_stop_32 : decode cX11_stop 32 = .ok (.ifnull 13, 3) := by decide +kernel
theorem dX11_stop_35 : decode cX11_stop 35 = .ok (.aload 5, 2) := by decide +kernel
theorem dX11_stop_37 : decode cX11_stop 37 = .ok (.ifnull 8, 3) := by decide +kernel
theorem dX11_stop_40 : decode cX11_stop 40 = .ok (.aload 6, 2) := by decide +kernel
theorem dX11_stop_42 : decode cX11_stop 42 = .ok (.ifnonnull 5, 3) := by decide +kernel
theorem dX11_stop_45 : decode cX11_stop 45 = .ok (.iconst (-1), 1) := by decide +kernel
theorem dX11_stop_46 : decode cX11_stop 46 = .ok (.ireturn, 1) := by decide +kernel
theorem dX11_stop_47 : decode cX11_stop 47 = .ok (.aload_n 0, 1) := by decide +kernel
theorem dX11_stop_48 : decode cX11_stop 48 = .ok (.getfield 39, 3) := by decide +kernel
theorem dX11_stop_51 : decode cX11_stop 51 = .ok (.aload 4, 2) := by decide +kernel
theorem dX11_stop_53 : decode cX11_stop 53 = .ok (.invokevirtual 225, 3) := by decide +kernel
theorem dX11_stop_56 : decode cX11_stop 56 = .ok (.aload_n 0, 1) := by decide +kernel
theorem dX11_stop_57 : decode cX11_stop 57 = .ok (.getfield 39, 3) := by decide +kernel
theorem dX11_stop_60 : decode cX11_stop 60 = .ok (.aload 6, 2) := by decide +kernel
theorem dX11_stop_62 : decode cX11_stop 62 = .ok (.aload 5, 2) := by decide +kernel
theorem dX11_stop_64 : decode cX11_stop 64 = .ok (.aload 6, 2) := by decide +kernel
theorem dX11_stop_66 : decode cX11_stop 66 = .ok (.getfield 173, 3) := by decide +kernel
theorem dX11_stop_69 : decode cX11_stop 69 = .ok (.invokevirtual 226, 3) := by decide +kernel
theorem dX11_stop_72 : decode cX11_stop 72 = .ok (.ireturn, 1) := by decide +kernel
theorem dX11_state_0 : decode cX11_state 0 = .ok (.aload_n 0, 1) := by decide +kernel
theorem dX11_state_1 : decode cX11_state 1 = .ok (.getfield 10, 3) := by decide +kernel
theorem dX11_state_4 : decode cX11_state 4 = .ok (.iload_n 1, 1) := by decide +kernel
theorem dX11_state_5 : decode cX11_state 5 = .ok (.invokevirtual 149, 3) := by decide +kernel
theorem dX11_state_8 : decode cX11_state 8 = .ok (.astore 6, 2) := by decide +kernel
theorem dX11_state_10 : decode cX11_state 10 = .ok (.aload_n 0, 1) := by decide +kernel
theorem dX11_state_11 : decode cX11_state 11 = .ok (.getfield 10, 3) := by decide +kernel
theorem dX11_state_14 : decode cX11_state 14 = .ok (.iload_n 2, 1) := by decide +kernel
theorem dX11_state_15 : decode cX11_state 15 = .ok (.invokevirtual 164, 3) := by decide +kernel
theorem dX11_state_18 : decode cX11_state 18 = .ok (.astore 7, 2) := by decide +kernel
theorem dX11_state_20 : decode cX11_state 20 = .ok (.aload_n 0, 1) := by decide +kernel
theorem dX11_state_21 : decode cX11_state 21 = .ok (.getfield 10, 3) := by decide +kernel
theorem dX11_state_24 : decode cX11_state 24 = .ok (.iload_n 3, 1) := by decide +kernel
theorem dX11_state_25 : decode cX11_state 25 = .ok (.invokevirtual 169, 3) := by decide +kernel
theorem dX11_state_28 : decode cX11_state 28 = .ok (.astore 8, 2) := by decide +kernel
theorem dX11_state_30 : decode cX11_state 30 = .ok (.aload 6, 2) := by decide +kernel
theorem dX11_state_32 : decode cX11_state 32 = .ok (.ifnull 13, 3) := by decide +kernel
theorem dX11_state_35 : decode cX11_state 35 = .ok (.aload 7, 2) := by decide +kernel
theorem dX11_state_37 : decode cX11_state 37 = .ok (.ifnull 8, 3) := by decide +kernel
theorem dX11_state_40 : decode cX11_state 40 = .ok (.aload 8, 2) := by decide +kernel
theorem dX11_state_42 : decode cX11_state 42 = .ok (.ifnonnull 6, 3) := by decide +kernel
theorem dX11_state_45 : decode cX11_state 45 = .ok (.bipush (-2), 2) := by decide +kernel
theorem dX11_state_47 : decode cX11_state 47 = .ok (.ireturn, 1) := by decide +kernel
theorem dX11_state_48 : decode cX11_state 48 = .ok (.iload 4, 2) := by decide +kernel
theorem dX11_state_50 : decode cX11_state 50 = .ok (.ifCond .lt 13, 3) := by decide +kernel
theorem dX11_state_53 : decode cX11_state 53 = .ok (.iload 4, 2) := by decide +kernel
theorem dX11_state_55 : decode cX11_state 55 = .ok (.aload 8, 2) := by decide +kernel
theorem dX11_state_57 : decode cX11_state 57 = .ok (.getfield 173, 3) := by decide +kernel
theorem dX11_state_60 : decode cX11_state 60 = .ok (.if_icmp .le 6, 3) := by decide +kernel
theorem dX11_state_63 : decode cX11_state 63 = .ok (.bipush (-2), 2) := by decide +kernel
theorem dX11_state_65 : decode cX11_state 65 = .ok (.ireturn, 1) := by decide +kernel
theorem dX11_state_66 : decode cX11_state 66 = .ok (.aload_n 0, 1) := by decide +kernel
theorem dX11_state_67 : decode cX11_state 67 = .ok (.getfield 39, 3) := by decide +kernel
theorem dX11_state_70 : decode cX11_state 70 = .ok (.aload 6, 2) := by decide +kernel
theorem dX11_state_72 : decode cX11_state 72 = .ok (.invokevirtual 225, 3) := by decide +kernel
theorem dX11_state_75 : decode cX11_state 75 = .ok (.aload_n 0, 1) := by decide +kernel
theorem dX11_state_76 : decode cX11_state 76 = .ok (.getfield 39, 3) := by decide +kernel
theorem dX11_state_79 : decode cX11_state 79 = .ok (.aload 8, 2) := by decide +kernel
theorem dX11_state_81 : decode cX11_state 81 = .ok (.aload 7, 2) := by decide +kernel
theorem dX11_state_83 : decode cX11_state 83 = .ok (.iload 4, 2) := by decide +kernel
theorem dX11_state_85 : decode cX11_state 85 = .ok (.invokevirtual 226, 3) := by decide +kernel
theorem dX11_state_88 : decode cX11_state 88 = .ok (.iload 4, 2) := by decide +kernel
theorem dX11_state_90 : decode cX11_state 90 = .ok (.if_icmp .ge 6, 3) := by decide +kernel
theorem dX11_state_93 : decode cX11_state 93 = .ok (.bipush (-2), 2) := by decide +kernel
theorem dX11_state_95 : decode cX11_state 95 = .ok (.ireturn, 1) := by decide +kernel
theorem dX11_state_96 : decode cX11_state 96 = .ok (.aload_n 0, 1) := by decide +kernel
theorem dX11_state_97 : decode cX11_state 97 = .ok (.getfield 39, 3) := by decide +kernel
theorem dX11_state_100 : decode cX11_state 100 = .ok (.aload 7, 2) := by decide +kernel
theorem dX11_state_102 : decode cX11_state 102 = .ok (.iload 5, 2) := by decide +kernel
theorem dX11_state_104 : decode cX11_state 104 = .ok (.invokevirtual 230, 3) := by decide +kernel
theorem dX11_state_107 : decode cX11_state 107 = .ok (.ireturn, 1) := by decide +kernel
theorem dX11_stand_0 : decode cX11_stand 0 = .ok (.aload_n 0, 1) := by decide +kernel
theorem dX11_stand_1 : decode cX11_stand 1 = .ok (.getfield 10, 3) := by decide +kernel
theorem dX11_stand_4 : decode cX11_stand 4 = .ok (.iload_n 1, 1) := by decide +kernel
theorem dX11_stand_5 : decode cX11_stand 5 = .ok (.invokevirtual 149, 3) := by decide +kernel
theorem dX11_stand_8 : decode cX11_stand 8 = .ok (.astore 6, 2) := by decide +kernel
theorem dX11_stand_10 : decode cX11_stand 10 = .ok (.aload_n 0, 1) := by decide +kernel
theorem dX11_stand_11 : decode cX11_stand 11 = .ok (.getfield 10, 3) := by decide +kernel
theorem dX11_stand_14 : decode cX11_stand 14 = .ok (.iload_n 2, 1) := by decide +kernel
theorem dX11_stand_15 : decode cX11_stand 15 = .ok (.invokevirtual 164, 3) := by decide +kernel
theorem dX11_stand_18 : decode cX11_stand 18 = .ok (.astore 7, 2) := by decide +kernel
theorem dX11_stand_20 : decode cX11_stand 20 = .ok (.aload 6, 2) := by decide +kernel
theorem dX11_stand_22 : decode cX11_stand 22 = .ok (.ifnull 17, 3) := by decide +kernel
theorem dX11_stand_25 : decode cX11_stand 25 = .ok (.aload 7, 2) := by decide +kernel
theorem dX11_stand_27 : decode cX11_stand 27 = .ok (.ifnull 12, 3) := by decide +kernel
theorem dX11_stand_30 : decode cX11_stand 30 = .ok (.aload 6, 2) := by decide +kernel
theorem dX11_stand_32 : decode cX11_stand 32 = .ok (.iload_n 3, 1) := by decide +kernel
theorem dX11_stand_33 : decode cX11_stand 33 = .ok (.invokevirtual 199, 3) := by decide +kernel
theorem dX11_stand_36 : decode cX11_stand 36 = .ok (.ifCond .ne 5, 3) := by decide +kernel
theorem dX11_stand_39 : decode cX11_stand 39 = .ok (.iconst (-1), 1) := by decide +kernel
theorem dX11_stand_40 : decode cX11_stand 40 = .ok (.ireturn, 1) := by decide +kernel
theorem dX11_stand_41 : decode cX11_stand 41 = .ok (.aload_n 0, 1) := by decide +kernel
theorem dX11_stand_42 : decode cX11_stand 42 = .ok (.getfield 46, 3) := by decide +kernel
theorem dX11_stand_45 : decode cX11_stand 45 = .ok (.aload 6, 2) := by decide +kernel
theorem dX11_stand_47 : decode cX11_stand 47 = .ok (.aload 7, 2) := by decide +kernel
theorem dX11_stand_49 : decode cX11_stand 49 = .ok (.iload_n 3, 1) := by decide +kernel
theorem dX11_stand_50 : decode cX11_stand 50 = .ok (.iload 4, 2) := by decide +kernel
theorem dX11_stand_52 : decode cX11_stand 52 = .ok (.invokevirtual 233, 3) := by decide +kernel
theorem dX11_stand_55 : decode cX11_stand 55 = .ok (.iload 5, 2) := by decide +kernel
theorem dX11_stand_57 : decode cX11_stand 57 = .ok (.ifCond .eq 13, 3) := by decide +kernel
theorem dX11_stand_60 : decode cX11_stand 60 = .ok (.aload_n 0, 1) := by decide +kernel
theorem dX11_stand_61 : decode cX11_stand 61 = .ok (.getfield 46, 3) := by decide +kernel
theorem dX11_stand_64 : decode cX11_stand 64 = .ok (.getfield 237, 3) := by decide +kernel
theorem dX11_stand_67 : decode cX11_stand 67 = .ok (.goto 10, 3) := by decide +kernel
theorem dX11_stand_70 : decode cX11_stand 70 = .ok (.aload_n 0, 1) := by decide +kernel
theorem dX11_stand_71 : decode cX11_stand 71 = .ok (.getfield 46, 3) := by decide +kernel
theorem dX11_stand_74 : decode cX11_stand 74 = .ok (.getfield 240, 3) := by decide +kernel
theorem dX11_stand_77 : decode cX11_stand 77 = .ok (.ireturn, 1) := by decide +kernel
theorem dX11_together_0 : decode cX11_together 0 = .ok (.aload_n 0, 1) := by decide +kernel
theorem dX11_together_1 : decode cX11_together 1 = .ok (.getfield 10, 3) := by decide +kernel
theorem dX11_together_4 : decode cX11_together 4 = .ok (.iload_n 1, 1) := by decide +kernel
theorem dX11_together_5 : decode cX11_together 5 = .ok (.invokevirtual 149, 3) := by decide +kernel
theorem dX11_together_8 : decode cX11_together 8 = .ok (.astore 6, 2) := by decide +kernel
theorem dX11_together_10 : decode cX11_together 10 = .ok (.aload_n 0, 1) := by decide +kernel
theorem dX11_together_11 : decode cX11_together 11 = .ok (.getfield 10, 3) := by decide +kernel
theorem dX11_together_14 : decode cX11_together 14 = .ok (.iload_n 2, 1) := by decide +kernel
theorem dX11_together_15 : decode cX11_together 15 = .ok (.invokevirtual 164, 3) := by decide +kernel
theorem dX11_together_18 : decode cX11_together 18 = .ok (.astore 7, 2) := by decide +kernel
theorem dX11_together_20 : decode cX11_together 20 = .ok (.aload 6, 2) := by decide +kernel
theorem dX11_together_22 : decode cX11_together 22 = .ok (.ifnull 14, 3) := by decide +kernel
theorem dX11_together_25 : decode cX11_together 25 = .ok (.aload 7, 2) := by decide +kernel
theorem dX11_together_27 : decode cX11_together 27 = .ok (.ifnull 9, 3) := by decide +kernel
theorem dX11_together_30 : decode cX11_together 30 = .ok (.iload_n 3, 1) := by decide +kernel
theorem dX11_together_31 : decode cX11_together 31 = .ok (.iload 4, 2) := by decide +kernel
theorem dX11_together_33 : decode cX11_together 33 = .ok (.if_icmp .ne 5, 3) := by decide +kernel
theorem dX11_together_36 : decode cX11_together 36 = .ok (.iconst (-1), 1) := by decide +kernel
theorem dX11_together_37 : decode cX11_together 37 = .ok (.ireturn, 1) := by decide +kernel
theorem dX11_together_38 : decode cX11_together 38 = .ok (.aload 6, 2) := by decide +kernel
theorem dX11_together_40 : decode cX11_together 40 = .ok (.iload_n 3, 1) := by decide +kernel
theorem dX11_together_41 : decode cX11_together 41 = .ok (.invokevirtual 199, 3) := by decide +kernel
theorem dX11_together_44 : decode cX11_together 44 = .ok (.ifCond .eq 13, 3) := by decide +kernel
theorem dX11_together_47 : decode cX11_together 47 = .ok (.aload 6, 2) := by decide +kernel
theorem dX11_together_49 : decode cX11_together 49 = .ok (.iload 4, 2) := by decide +kernel
theorem dX11_together_51 : decode cX11_together 51 = .ok (.invokevirtual 199, 3) := by decide +kernel
theorem dX11_together_54 : decode cX11_together 54 = .ok (.ifCond .ne 5, 3) := by decide +kernel
theorem dX11_together_57 : decode cX11_together 57 = .ok (.iconst (-1), 1) := by decide +kernel
theorem dX11_together_58 : decode cX11_together 58 = .ok (.ireturn, 1) := by decide +kernel
theorem dX11_together_59 : decode cX11_together 59 = .ok (.aload_n 0, 1) := by decide +kernel
theorem dX11_together_60 : decode cX11_together 60 = .ok (.getfield 46, 3) := by decide +kernel
theorem dX11_together_63 : decode cX11_together 63 = .ok (.aload 6, 2) := by decide +kernel
theorem dX11_together_65 : decode cX11_together 65 = .ok (.aload 7, 2) := by decide +kernel
theorem dX11_together_67 : decode cX11_together 67 = .ok (.iload_n 3, 1) := by decide +kernel
theorem dX11_together_68 : decode cX11_together 68 = .ok (.iload 4, 2) := by decide +kernel
theorem dX11_together_70 : decode cX11_together 70 = .ok (.invokevirtual 243, 3) := by decide +kernel
theorem dX11_together_73 : decode cX11_together 73 = .ok (.iload 5, 2) := by decide +kernel
theorem dX11_together_75 : decode cX11_together 75 = .ok (.ifCond .eq 13, 3) := by decide +kernel
theorem dX11_together_78 : decode cX11_together 78 = .ok (.aload_n 0, 1) := by decide +kernel
theorem dX11_together_79 : decode cX11_together 79 = .ok (.getfield 46, 3) := by decide +kernel
theorem dX11_together_82 : decode cX11_together 82 = .ok (.getfield 237, 3) := by decide +kernel
theorem dX11_together_85 : decode cX11_together 85 = .ok (.goto 10, 3) := by decide +kernel
theorem dX11_together_88 : decode cX11_together 88 = .ok (.aload_n 0, 1) := by decide +kernel
theorem dX11_together_89 : decode cX11_together 89 = .ok (.getfield 46, 3) := by decide +kernel
theorem dX11_together_92 : decode cX11_together 92 = .ok (.getfield 240, 3) := by decide +kernel
theorem dX11_together_95 : decode cX11_together 95 = .ok (.ireturn, 1) := by decide +kernel
theorem dX11_turned_0 : decode cX11_turned 0 = .ok (.aload_n 0, 1) := by decide +kernel
theorem dX11_turned_1 : decode cX11_turned 1 = .ok (.getfield 10, 3) := by decide +kernel
theorem dX11_turned_4 : decode cX11_turned 4 = .ok (.iload_n 1, 1) := by decide +kernel
theorem dX11_turned_5 : decode cX11_turned 5 = .ok (.invokevirtual 149, 3) := by decide +kernel
theorem dX11_turned_8 : decode cX11_turned 8 = .ok (.astore 5, 2) := by decide +kernel
theorem dX11_turned_10 : decode cX11_turned 10 = .ok (.aload_n 0, 1) := by decide +kernel
theorem dX11_turned_11 : decode cX11_turned 11 = .ok (.getfield 10, 3) := by decide +kernel
theorem dX11_turned_14 : decode cX11_turned 14 = .ok (.iload_n 2, 1) := by decide +kernel
theorem dX11_turned_15 : decode cX11_turned 15 = .ok (.invokevirtual 164, 3) := by decide +kernel
theorem dX11_turned_18 : decode cX11_turned 18 = .ok (.astore 6, 2) := by decide +kernel
theorem dX11_turned_20 : decode cX11_turned 20 = .ok (.aload 5, 2) := by decide +kernel
theorem dX11_turned_22 : decode cX11_turned 22 = .ok (.ifnull 17, 3) := by decide +kernel
theorem dX11_turned_25 : decode cX11_turned 25 = .ok (.aload 6, 2) := by decide +kernel
theorem dX11_turned_27 : decode cX11_turned 27 = .ok (.ifnull 12, 3) := by decide +kernel
theorem dX11_turned_30 : decode cX11_turned 30 = .ok (.aload 5, 2) := by decide +kernel
theorem dX11_turned_32 : decode cX11_turned 32 = .ok (.iload_n 3, 1) := by decide +kernel
theorem dX11_turned_33 : decode cX11_turned 33 = .ok (.invokevirtual 185, 3) := by decide +kernel
theorem dX11_turned_36 : decode cX11_turned 36 = .ok (.ifCond .ne 5, 3) := by decide +kernel
theorem dX11_turned_39 : decode cX11_turned 39 = .ok (.iconst (-1), 1) := by decide +kernel
theorem dX11_turned_40 : decode cX11_turned 40 = .ok (.ireturn, 1) := by decide +kernel
theorem dX11_turned_41 : decode cX11_turned 41 = .ok (.aload_n 0, 1) := by decide +kernel
theorem dX11_turned_42 : decode cX11_turned 42 = .ok (.getfield 46, 3) := by decide +kernel
theorem dX11_turned_45 : decode cX11_turned 45 = .ok (.aload 5, 2) := by decide +kernel
theorem dX11_turned_47 : decode cX11_turned 47 = .ok (.aload 6, 2) := by decide +kernel
theorem dX11_turned_49 : decode cX11_turned 49 = .ok (.iload_n 3, 1) := by decide +kernel
theorem dX11_turned_50 : decode cX11_turned 50 = .ok (.invokevirtual 247, 3) := by decide +kernel
theorem dX11_turned_53 : decode cX11_turned 53 = .ok (.iload 4, 2) := by decide +kernel
theorem dX11_turned_55 : decode cX11_turned 55 = .ok (.ifCond .eq 13, 3) := by decide +kernel
theorem dX11_turned_58 : decode cX11_turned 58 = .ok (.aload_n 0, 1) := by decide +kernel
theorem dX11_turned_59 : decode cX11_turned 59 = .ok (.getfield 46, 3) := by decide +kernel
theorem dX11_turned_62 : decode cX11_turned 62 = .ok (.getfield 237, 3) := by decide +kernel
theorem dX11_turned_65 : decode cX11_turned 65 = .ok (.goto 10, 3) := by decide +kernel
theorem dX11_turned_68 : decode cX11_turned 68 = .ok (.aload_n 0, 1) := by decide +kernel
theorem dX11_turned_69 : decode cX11_turned 69 = .ok (.getfield 46, 3) := by decide +kernel
theorem dX11_turned_72 : decode cX11_turned 72 = .ok (.getfield 240, 3) := by decide +kernel
theorem dX11_turned_75 : decode cX11_turned 75 = .ok (.ireturn, 1) := by decide +kernel
theorem dX11_spoon_0 : decode cX11_spoon 0 = .ok (.aload_n 0, 1) := by decide +kernel
theorem dX11_spoon_1 : decode cX11_spoon 1 = .ok (.getfield 10, 3) := by decide +kernel
theorem dX11_spoon_4 : decode cX11_spoon 4 = .ok (.iload_n 1, 1) := by decide +kernel
theorem dX11_spoon_5 : decode cX11_spoon 5 = .ok (.invokevirtual 149, 3) := by decide +kernel
theorem dX11_spoon_8 : decode cX11_spoon 8 = .ok (.astore 5, 2) := by decide +kernel
theorem dX11_spoon_10 : decode cX11_spoon 10 = .ok (.aload_n 0, 1) := by decide +kernel
theorem dX11_spoon_11 : decode cX11_spoon 11 = .ok (.getfield 10, 3) := by decide +kernel
theorem dX11_spoon_14 : decode cX11_spoon 14 = .ok (.iload_n 2, 1) := by decide +kernel
theorem dX11_spoon_15 : decode cX11_spoon 15 = .ok (.invokevirtual 164, 3) := by decide +kernel
theorem dX11_spoon_18 : decode cX11_spoon 18 = .ok (.astore 6, 2) := by decide +kernel
theorem dX11_spoon_20 : decode cX11_spoon 20 = .ok (.aload 5, 2) := by decide +kernel
theorem dX11_spoon_22 : decode cX11_spoon 22 = .ok (.ifnull 15, 3) := by decide +kernel
theorem dX11_spoon_25 : decode cX11_spoon 25 = .ok (.aload 6, 2) := by decide +kernel
theorem dX11_spoon_27 : decode cX11_spoon 27 = .ok (.ifnull 10, 3) := by decide +kernel
theorem dX11_spoon_30 : decode cX11_spoon 30 = .ok (.iload_n 3, 1) := by decide +kernel
theorem dX11_spoon_31 : decode cX11_spoon 31 = .ok (.invokestatic 213, 3) := by decide +kernel
theorem dX11_spoon_34 : decode cX11_spoon 34 = .ok (.ifCond .ne 5, 3) := by decide +kernel
theorem dX11_spoon_37 : decode cX11_spoon 37 = .ok (.iconst (-1), 1) := by decide +kernel
theorem dX11_spoon_38 : decode cX11_spoon 38 = .ok (.ireturn, 1) := by decide +kernel
theorem dX11_spoon_39 : decode cX11_spoon 39 = .ok (.aload 5, 2) := by decide +kernel
theorem dX11_spoon_41 : decode cX11_spoon 41 = .ok (.getfield 251, 3) := by decide +kernel
theorem dX11_spoon_44 : decode cX11_spoon 44 = .ok (.bipush 8, 2) := by decide +kernel
theorem dX11_spoon_46 : decode cX11_spoon 46 = .ok (.if_icmp .lt 5, 3) := by decide +kernel
theorem dX11_spoon_49 : decode cX11_spoon 49 = .ok (.iconst (-1), 1) := by decide +kernel
theorem dX11_spoon_50 : decode cX11_spoon 50 = .ok (.ireturn, 1) := by decide +kernel
theorem dX11_spoon_51 : decode cX11_spoon 51 = .ok (.aload_n 0, 1) := by decide +kernel
theorem dX11_spoon_52 : decode cX11_spoon 52 = .ok (.getfield 46, 3) := by decide +kernel
theorem dX11_spoon_55 : decode cX11_spoon 55 = .ok (.aload 5, 2) := by decide +kernel
theorem dX11_spoon_57 : decode cX11_spoon 57 = .ok (.aload 6, 2) := by decide +kernel
theorem dX11_spoon_59 : decode cX11_spoon 59 = .ok (.iload_n 3, 1) := by decide +kernel
theorem dX11_spoon_60 : decode cX11_spoon 60 = .ok (.invokevirtual 254, 3) := by decide +kernel
theorem dX11_spoon_63 : decode cX11_spoon 63 = .ok (.aload_n 0, 1) := by decide +kernel
theorem dX11_spoon_64 : decode cX11_spoon 64 = .ok (.getfield 46, 3) := by decide +kernel
theorem dX11_spoon_67 : decode cX11_spoon 67 = .ok (.getfield 240, 3) := by decide +kernel
theorem dX11_spoon_70 : decode cX11_spoon 70 = .ok (.iconst (-1), 1) := by decide +kernel
theorem dX11_spoon_71 : decode cX11_spoon 71 = .ok (.if_icmp .ne 5, 3) := by decide +kernel
theorem dX11_spoon_74 : decode cX11_spoon 74 = .ok (.iconst (-1), 1) := by decide +kernel
theorem dX11_spoon_75 : decode cX11_spoon 75 = .ok (.ireturn, 1) := by decide +kernel
theorem dX11_spoon_76 : decode cX11_spoon 76 = .ok (.iload 4, 2) := by decide +kernel
theorem dX11_spoon_78 : decode cX11_spoon 78 = .ok (.ifCond .eq 13, 3) := by decide +kernel
theorem dX11_spoon_81 : decode cX11_spoon 81 = .ok (.aload_n 0, 1) := by decide +kernel
theorem dX11_spoon_82 : decode cX11_spoon 82 = .ok (.getfield 46, 3) := by decide +kernel
theorem dX11_spoon_85 : decode cX11_spoon 85 = .ok (.getfield 237, 3) := by decide +kernel
theorem dX11_spoon_88 : decode cX11_spoon 88 = .ok (.goto 10, 3) := by decide +kernel
theorem dX11_spoon_91 : decode cX11_spoon 91 = .ok (.aload_n 0, 1) := by decide +kernel
theorem dX11_spoon_92 : decode cX11_spoon 92 = .ok (.getfield 46, 3) := by decide +kernel
theorem dX11_spoon_95 : decode cX11_spoon 95 = .ok (.getfield 240, 3) := by decide +kernel
theorem dX11_spoon_98 : decode cX11_spoon 98 = .ok (.ireturn, 1) := by decide +kernel
theorem dX11_isGame_0 : decode cX11_isGame 0 = .ok (.aload_n 0, 1) := by decide +kernel
theorem dX11_isGame_1 : decode cX11_isGame 1 = .ok (.iconst 0, 1) := by decide +kernel
theorem dX11_isGame_2 : decode cX11_isGame 2 = .ok (.invokevirtual 344, 3) := by decide +kernel
theorem dX11_isGame_5 : decode cX11_isGame 5 = .ok (.iconst (-1), 1) := by decide +kernel
theorem dX11_isGame_6 : decode cX11_isGame 6 = .ok (.if_icmp .eq 16, 3) := by decide +kernel
theorem dX11_isGame_9 : decode cX11_isGame 9 = .ok (.aload_n 0, 1) := by decide +kernel
theorem dX11_isGame_10 : decode cX11_isGame 10 = .ok (.iconst 1, 1) := by decide +kernel
theorem dX11_isGame_11 : decode cX11_isGame 11 = .ok (.invokevirtual 344, 3) := by decide +kernel
theorem dX11_isGame_14 : decode cX11_isGame 14 = .ok (.iconst (-1), 1) := by decide +kernel
theorem dX11_isGame_15 : decode cX11_isGame 15 = .ok (.if_icmp .eq 7, 3) := by decide +kernel
theorem dX11_isGame_18 : decode cX11_isGame 18 = .ok (.iconst 1, 1) := by decide +kernel
theorem dX11_isGame_19 : decode cX11_isGame 19 = .ok (.goto 4, 3) := by decide +kernel
theorem dX11_isGame_22 : decode cX11_isGame 22 = .ok (.iconst 0, 1) := by decide +kernel
theorem dX11_isGame_23 : decode cX11_isGame 23 = .ok (.ireturn, 1) := by decide +kernel
theorem dX11_prize_0 : decode cX11_prize 0 = .ok (.aload_n 0, 1) := by decide +kernel
theorem dX11_prize_1 : decode cX11_prize 1 = .ok (.getfield 10, 3) := by decide +kernel
theorem dX11_prize_4 : decode cX11_prize 4 = .ok (.iload_n 1, 1) := by decide +kernel
theorem dX11_prize_5 : decode cX11_prize 5 = .ok (.invokevirtual 149, 3) := by decide +kernel
theorem dX11_prize_8 : decode cX11_prize 8 = .ok (.astore 5, 2) := by decide +kernel
theorem dX11_prize_10 : decode cX11_prize 10 = .ok (.aload_n 0, 1) := by decide +kernel
theorem dX11_prize_11 : decode cX11_prize 11 = .ok (.getfield 10, 3) := by decide +kernel
theorem dX11_prize_14 : decode cX11_prize 14 = .ok (.iload_n 2, 1) := by decide +kernel
theorem dX11_prize_15 : decode cX11_prize 15 = .ok (.invokevirtual 164, 3) := by decide +kernel
theorem dX11_prize_18 : decode cX11_prize 18 = .ok (.astore 6, 2) := by decide +kernel
theorem dX11_prize_20 : decode cX11_prize 20 = .ok (.aload 5, 2) := by decide +kernel
theorem dX11_prize_22 : decode cX11_prize 22 = .ok (.ifnull 16, 3) := by decide +kernel
theorem dX11_prize_25 : decode cX11_prize 25 = .ok (.aload 6, 2) := by decide +kernel
theorem dX11_prize_27 : decode cX11_prize 27 = .ok (.ifnull 11, 3) := by decide +kernel
theorem dX11_prize_30 : decode cX11_prize 30 = .ok (.aload 5, 2) := by decide +kernel
theorem dX11_prize_32 : decode cX11_prize 32 = .ok (.invokestatic 257, 3) := by decide +kernel
theorem dX11_prize_35 : decode cX11_prize 35 = .ok (.ifCond .ne 5, 3) := by decide +kernel
theorem dX11_prize_38 : decode cX11_prize 38 = .ok (.iconst (-1), 1) := by decide +kernel
theorem dX11_prize_39 : decode cX11_prize 39 = .ok (.ireturn, 1) := by decide +kernel
theorem dX11_prize_40 : decode cX11_prize 40 = .ok (.iload_n 3, 1) := by decide +kernel
theorem dX11_prize_41 : decode cX11_prize 41 = .ok (.ifCond .lt 20, 3) := by decide +kernel
theorem dX11_prize_44 : decode cX11_prize 44 = .ok (.iload_n 3, 1) := by decide +kernel
theorem dX11_prize_45 : decode cX11_prize 45 = .ok (.iconst 1, 1) := by decide +kernel
theorem dX11_prize_46 : decode cX11_prize 46 = .ok (.if_icmp .gt 15, 3) := by decide +kernel
theorem dX11_prize_49 : decode cX11_prize 49 = .ok (.iload 4, 2) := by decide +kernel
theorem dX11_prize_51 : decode cX11_prize 51 = .ok (.ifCond .lt 10, 3) := by decide +kernel
theorem dX11_prize_54 : decode cX11_prize 54 = .ok (.iload 4, 2) := by decide +kernel
theorem dX11_prize_56 : decode cX11_prize 56 = .ok (.bipush 64, 2) := by decide +kernel
theorem dX11_prize_58 : decode cX11_prize 58 = .ok (.if_icmp .lt 5, 3) := by decide +kernel
theorem dX11_prize_61 : decode cX11_prize 61 = .ok (.iconst (-1), 1) := by decide +kernel
theorem dX11_prize_62 : decode cX11_prize 62 = .ok (.ireturn, 1) := by decide +kernel
theorem dX11_prize_63 : decode cX11_prize 63 = .ok (.aload_n 0, 1) := by decide +kernel
theorem dX11_prize_64 : decode cX11_prize 64 = .ok (.getfield 46, 3) := by decide +kernel
theorem dX11_prize_67 : decode cX11_prize 67 = .ok (.aload 5, 2) := by decide +kernel
theorem dX11_prize_69 : decode cX11_prize 69 = .ok (.aload 6, 2) := by decide +kernel
theorem dX11_prize_71 : decode cX11_prize 71 = .ok (.iload_n 3, 1) := by decide +kernel
theorem dX11_prize_72 : decode cX11_prize 72 = .ok (.iload 4, 2) := by decide +kernel
theorem dX11_prize_74 : decode cX11_prize 74 = .ok (.invokevirtual 261, 3) := by decide +kernel
theorem dX11_prize_77 : decode cX11_prize 77 = .ok (.ireturn, 1) := by decide +kernel
theorem dX11_rest_0 : decode cX11_rest 0 = .ok (.aload_n 0, 1) := by decide +kernel
theorem dX11_rest_1 : decode cX11_rest 1 = .ok (.getfield 10, 3) := by decide +kernel
theorem dX11_rest_4 : decode cX11_rest 4 = .ok (.iload_n 1, 1) := by decide +kernel
theorem dX11_rest_5 : decode cX11_rest 5 = .ok (.invokevirtual 149, 3) := by decide +kernel
theorem dX11_rest_8 : decode cX11_rest 8 = .ok (.astore 4, 2) := by decide +kernel
theorem dX11_rest_10 : decode cX11_rest 10 = .ok (.aload_n 0, 1) := by decide +kernel
theorem dX11_rest_11 : decode cX11_rest 11 = .ok (.getfield 10, 3) := by decide +kernel
theorem dX11_rest_14 : decode cX11_rest 14 = .ok (.iload_n 2, 1) := by decide +kernel
theorem dX11_rest_15 : decode cX11_rest 15 = .ok (.invokevirtual 164, 3) := by decide +kernel
theorem dX11_rest_18 : decode cX11_rest 18 = .ok (.astore 5, 2) := by decide +kernel
theorem dX11_rest_20 : decode cX11_rest 20 = .ok (.aload 4, 2) := by decide +kernel
theorem dX11_rest_22 : decode cX11_rest 22 = .ok (.ifnull 16, 3) := by decide +kernel
theorem dX11_rest_25 : decode cX11_rest 25 = .ok (.aload 5, 2) := by decide +kernel
theorem dX11_rest_27 : decode cX11_rest 27 = .ok (.ifnull 11, 3) := by decide +kernel
theorem dX11_rest_30 : decode cX11_rest 30 = .ok (.aload 4, 2) := by decide +kernel
theorem dX11_rest_32 : decode cX11_rest 32 = .ok (.invokestatic 257, 3) := by decide +kernel
theorem dX11_rest_35 : decode cX11_rest 35 = .ok (.ifCond .ne 5, 3) := by decide +kernel
theorem dX11_rest_38 : decode cX11_rest 38 = .ok (.iconst (-1), 1) := by decide +kernel
theorem dX11_rest_39 : decode cX11_rest 39 = .ok (.ireturn, 1) := by decide +kernel
theorem dX11_rest_40 : decode cX11_rest 40 = .ok (.iload_n 3, 1) := by decide +kernel
theorem dX11_rest_41 : decode cX11_rest 41 = .ok (.iconst (-1), 1) := by decide +kernel
theorem dX11_rest_42 : decode cX11_rest 42 = .ok (.if_icmp .ge 5, 3) := by decide +kernel
theorem dX11_rest_45 : decode cX11_rest 45 = .ok (.iconst (-1), 1) := by decide +kernel
theorem dX11_rest_46 : decode cX11_rest 46 = .ok (.ireturn, 1) := by decide +kernel
theorem dX11_rest_47 : decode cX11_rest 47 = .ok (.aload_n 0, 1) := by decide +kernel
theorem dX11_rest_48 : decode cX11_rest 48 = .ok (.getfield 46, 3) := by decide +kernel
theorem dX11_rest_51 : decode cX11_rest 51 = .ok (.aload 4, 2) := by decide +kernel
theorem dX11_rest_53 : decode cX11_rest 53 = .ok (.aload 5, 2) := by decide +kernel
theorem dX11_rest_55 : decode cX11_rest 55 = .ok (.invokevirtual 265, 3) := by decide +kernel
theorem dX11_rest_58 : decode cX11_rest 58 = .ok (.aload_n 0, 1) := by decide +kernel
theorem dX11_rest_59 : decode cX11_rest 59 = .ok (.getfield 46, 3) := by decide +kernel
theorem dX11_rest_62 : decode cX11_rest 62 = .ok (.iload_n 3, 1) := by decide +kernel
theorem dX11_rest_63 : decode cX11_rest 63 = .ok (.invokevirtual 269, 3) := by decide +kernel
theorem dX11_rest_66 : decode cX11_rest 66 = .ok (.ireturn, 1) := by decide +kernel
theorem dX11_way_0 : decode cX11_way 0 = .ok (.aload_n 0, 1) := by decide +kernel
theorem dX11_way_1 : decode cX11_way 1 = .ok (.getfield 10, 3) := by decide +kernel
theorem dX11_way_4 : decode cX11_way 4 = .ok (.iload_n 1, 1) := by decide +kernel
theorem dX11_way_5 : decode cX11_way 5 = .ok (.invokevirtual 149, 3) := by decide +kernel
theorem dX11_way_8 : decode cX11_way 8 = .ok (.astore 4, 2) := by decide +kernel
theorem dX11_way_10 : decode cX11_way 10 = .ok (.aload 4, 2) := by decide +kernel
theorem dX11_way_12 : decode cX11_way 12 = .ok (.ifnull 21, 3) := by decide +kernel
theorem dX11_way_15 : decode cX11_way 15 = .ok (.aload 4, 2) := by decide +kernel
theorem dX11_way_17 : decode cX11_way 17 = .ok (.iload_n 2, 1) := by decide +kernel
theorem dX11_way_18 : decode cX11_way 18 = .ok (.invokevirtual 157, 3) := by decide +kernel
theorem dX11_way_21 : decode cX11_way 21 = .ok (.ifCond .eq 12, 3) := by decide +kernel
theorem dX11_way_24 : decode cX11_way 24 = .ok (.aload 4, 2) := by decide +kernel
theorem dX11_way_26 : decode cX11_way 26 = .ok (.iload_n 3, 1) := by decide +kernel
theorem dX11_way_27 : decode cX11_way 27 = .ok (.invokevirtual 157, 3) := by decide +kernel
theorem dX11_way_30 : decode cX11_way 30 = .ok (.ifCond .ne 5, 3) := by decide +kernel
theorem dX11_way_33 : decode cX11_way 33 = .ok (.iconst (-1), 1) := by decide +kernel
theorem dX11_way_34 : decode cX11_way 34 = .ok (.ireturn, 1) := by decide +kernel
theorem dX11_way_35 : decode cX11_way 35 = .ok (.aload 4, 2) := by decide +kernel
theorem dX11_way_37 : decode cX11_way 37 = .ok (.getfield 161, 3) := by decide +kernel
theorem dX11_way_40 : decode cX11_way 40 = .ok (.iload_n 2, 1) := by decide +kernel
theorem dX11_way_41 : decode cX11_way 41 = .ok (.iaload, 1) := by decide +kernel
theorem dX11_way_42 : decode cX11_way 42 = .ok (.iconst 1, 1) := by decide +kernel
theorem dX11_way_43 : decode cX11_way 43 = .ok (.if_icmp .eq 14, 3) := by decide +kernel
theorem dX11_way_46 : decode cX11_way 46 = .ok (.aload 4, 2) := by decide +kernel
theorem dX11_way_48 : decode cX11_way 48 = .ok (.getfield 161, 3) := by decide +kernel
theorem dX11_way_51 : decode cX11_way 51 = .ok (.iload_n 3, 1) := by decide +kernel
theorem dX11_way_52 : decode cX11_way 52 = .ok (.iaload, 1) := by decide +kernel
theorem dX11_way_53 : decode cX11_way 53 = .ok (.iconst 1, 1) := by decide +kernel
theorem dX11_way_54 : decode cX11_way 54 = .ok (.if_icmp .ne 5, 3) := by decide +kernel
theorem dX11_way_57 : decode cX11_way 57 = .ok (.iconst (-1), 1) := by decide +kernel
theorem dX11_way_58 : decode cX11_way 58 = .ok (.ireturn, 1) := by decide +kernel
theorem dX11_way_59 : decode cX11_way 59 = .ok (.aload_n 0, 1) := by decide +kernel
theorem dX11_way_60 : decode cX11_way 60 = .ok (.getfield 30, 3) := by decide +kernel
theorem dX11_way_63 : decode cX11_way 63 = .ok (.aload 4, 2) := by decide +kernel
theorem dX11_way_65 : decode cX11_way 65 = .ok (.invokevirtual 188, 3) := by decide +kernel
theorem dX11_way_68 : decode cX11_way 68 = .ok (.aload_n 0, 1) := by decide +kernel
theorem dX11_way_69 : decode cX11_way 69 = .ok (.getfield 53, 3) := by decide +kernel
theorem dX11_way_72 : decode cX11_way 72 = .ok (.iload_n 2, 1) := by decide +kernel
theorem dX11_way_73 : decode cX11_way 73 = .ok (.invokevirtual 272, 3) := by decide +kernel
theorem dX11_way_76 : decode cX11_way 76 = .ok (.aload_n 0, 1) := by decide +kernel
theorem dX11_way_77 : decode cX11_way 77 = .ok (.getfield 53, 3) := by decide +kernel
theorem dX11_way_80 : decode cX11_way 80 = .ok (.getfield 275, 3) := by decide +kernel
theorem dX11_way_83 : decode cX11_way 83 = .ok (.iload_n 3, 1) := by decide +kernel
theorem dX11_way_84 : decode cX11_way 84 = .ok (.iaload, 1) := by decide +kernel
theorem dX11_way_85 : decode cX11_way 85 = .ok (.ireturn, 1) := by decide +kernel
theorem dX11_round_0 : decode cX11_round 0 = .ok (.aload_n 0, 1) := by decide +kernel
theorem dX11_round_1 : decode cX11_round 1 = .ok (.getfield 10, 3) := by decide +kernel
theorem dX11_round_4 : decode cX11_round 4 = .ok (.iload_n 1, 1) := by decide +kernel
theorem dX11_round_5 : decode cX11_round 5 = .ok (.invokevirtual 149, 3) := by decide +kernel
theorem dX11_round_8 : decode cX11_round 8 = .ok (.astore 4, 2) := by decide +kernel
theorem dX11_round_10 : decode cX11_round 10 = .ok (.aload 4, 2) := by decide +kernel
theorem dX11_round_12 : decode cX11_round 12 = .ok (.ifnull 23, 3) := by decide +kernel
theorem dX11_round_15 : decode cX11_round 15 = .ok (.aload 4, 2) := by decide +kernel
theorem dX11_round_17 : decode cX11_round 17 = .ok (.iload_n 2, 1) := by decide +kernel
theorem dX11_round_18 : decode cX11_round 18 = .ok (.invokevirtual 157, 3) := by decide +kernel
theorem dX11_round_21 : decode cX11_round 21 = .ok (.ifCond .eq 14, 3) := by decide +kernel
theorem dX11_round_24 : decode cX11_round 24 = .ok (.aload 4, 2) := by decide +kernel
theorem dX11_round_26 : decode cX11_round 26 = .ok (.getfield 161, 3) := by decide +kernel
theorem dX11_round_29 : decode cX11_round 29 = .ok (.iload_n 2, 1) := by decide +kernel
theorem dX11_round_30 : decode cX11_round 30 = .ok (.iaload, 1) := by decide +kernel
theorem dX11_round_31 : decode cX11_round 31 = .ok (.iconst 1, 1) := by decide +kernel
theorem dX11_round_32 : decode cX11_round 32 = .ok (.if_icmp .ne 6, 3) := by decide +kernel
theorem dX11_round_35 : decode cX11_round 35 = .ok (.bipush (-2), 2) := by decide +kernel
theorem dX11_round_37 : decode cX11_round 37 = .ok (.ireturn, 1) := by decide +kernel
theorem dX11_round_38 : decode cX11_round 38 = .ok (.iload_n 3, 1) := by decide +kernel
theorem dX11_round_39 : decode cX11_round 39 = .ok (.iconst (-1), 1) := by decide +kernel
theorem dX11_round_40 : decode cX11_round 40 = .ok (.if_icmp .lt 9, 3) := by decide +kernel
theorem dX11_round_43 : decode cX11_round 43 = .ok (.iload_n 3, 1) := by decide +kernel
theorem dX11_round_44 : decode cX11_round 44 = .ok (.bipush 99, 2) := by decide +kernel
theorem dX11_round_46 : decode cX11_round 46 = .ok (.if_icmp .le 6, 3) := by decide +kernel
theorem dX11_round_49 : decode cX11_round 49 = .ok (.bipush (-2), 2) := by decide +kernel
theorem dX11_round_51 : decode cX11_round 51 = .ok (.ireturn, 1) := by decide +kernel
theorem dX11_round_52 : decode cX11_round 52 = .ok (.aload_n 0, 1) := by decide +kernel
theorem dX11_round_53 : decode cX11_round 53 = .ok (.getfield 30, 3) := by decide +kernel
theorem dX11_round_56 : decode cX11_round 56 = .ok (.aload 4, 2) := by decide +kernel
theorem dX11_round_58 : decode cX11_round 58 = .ok (.invokevirtual 188, 3) := by decide +kernel
theorem dX11_round_61 : decode cX11_round 61 = .ok (.aload_n 0, 1) := by decide +kernel
theorem dX11_round_62 : decode cX11_round 62 = .ok (.getfield 53, 3) := by decide +kernel
theorem dX11_round_65 : decode cX11_round 65 = .ok (.iload_n 2, 1) := by decide +kernel
theorem dX11_round_66 : decode cX11_round 66 = .ok (.invokevirtual 278, 3) := by decide +kernel
theorem dX11_round_69 : decode cX11_round 69 = .ok (.iload_n 3, 1) := by decide +kernel
theorem dX11_round_70 : decode cX11_round 70 = .ok (.iconst (-1), 1) := by decide +kernel
theorem dX11_round_71 : decode cX11_round 71 = .ok (.if_icmp .ne 13, 3) := by decide +kernel
theorem dX11_round_74 : decode cX11_round 74 = .ok (.aload_n 0, 1) := by decide +kernel
theorem dX11_round_75 : decode cX11_round 75 = .ok (.getfield 53, 3) := by decide +kernel
theorem dX11_round_78 : decode cX11_round 78 = .ok (.invokevirtual 281, 3) := by decide +kernel
theorem dX11_round_81 : decode cX11_round 81 = .ok (.goto 11, 3) := by decide +kernel
theorem dX11_round_84 : decode cX11_round 84 = .ok (.aload_n 0, 1) := by decide +kernel
theorem dX11_round_85 : decode cX11_round 85 = .ok (.getfield 53, 3) := by decide +kernel
theorem dX11_round_88 : decode cX11_round 88 = .ok (.iload_n 3, 1) := by decide +kernel
theorem dX11_round_89 : decode cX11_round 89 = .ok (.invokevirtual 285, 3) := by decide +kernel
theorem dX11_round_92 : decode cX11_round 92 = .ok (.ireturn, 1) := by decide +kernel
theorem dX11_sight_0 : decode cX11_sight 0 = .ok (.aload_n 0, 1) := by decide +kernel
theorem dX11_sight_1 : decode cX11_sight 1 = .ok (.getfield 10, 3) := by decide +kernel
theorem dX11_sight_4 : decode cX11_sight 4 = .ok (.iload_n 1, 1) := by decide +kernel
theorem dX11_sight_5 : decode cX11_sight 5 = .ok (.invokevirtual 288, 3) := by decide +kernel
theorem dX11_sight_8 : decode cX11_sight 8 = .ok (.astore_n 3, 1) := by decide +kernel
theorem dX11_sight_9 : decode cX11_sight 9 = .ok (.aload_n 3, 1) := by decide +kernel
theorem dX11_sight_10 : decode cX11_sight 10 = .ok (.ifnonnull 6, 3) := by decide +kernel
theorem dX11_sight_13 : decode cX11_sight 13 = .ok (.bipush (-2), 2) := by decide +kernel
theorem dX11_sight_15 : decode cX11_sight 15 = .ok (.ireturn, 1) := by decide +kernel
theorem dX11_sight_16 : decode cX11_sight 16 = .ok (.iload_n 2, 1) := by decide +kernel
theorem dX11_sight_17 : decode cX11_sight 17 = .ok (.ifCond .ne 8, 3) := by decide +kernel
theorem dX11_sight_20 : decode cX11_sight 20 = .ok (.aload_n 3, 1) := by decide +kernel
theorem dX11_sight_21 : decode cX11_sight 21 = .ok (.getfield 292, 3) := by decide +kernel
theorem dX11_sight_24 : decode cX11_sight 24 = .ok (.ireturn, 1) := by decide +kernel
theorem dX11_sight_25 : decode cX11_sight 25 = .ok (.iload_n 2, 1) := by decide +kernel
theorem dX11_sight_26 : decode cX11_sight 26 = .ok (.bipush 10, 2) := by decide +kernel
theorem dX11_sight_28 : decode cX11_sight 28 = .ok (.if_icmp .lt 9, 3) := by decide +kernel
theorem dX11_sight_31 : decode cX11_sight 31 = .ok (.iload_n 2, 1) := by decide +kernel
theorem dX11_sight_32 : decode cX11_sight 32 = .ok (.bipush 18, 2) := by decide +kernel
theorem dX11_sight_34 : decode cX11_sight 34 = .ok (.if_icmp .lt 6, 3) := by decide +kernel
theorem dX11_sight_37 : decode cX11_sight 37 = .ok (.bipush (-2), 2) := by decide +kernel
theorem dX11_sight_39 : decode cX11_sight 39 = .ok (.ireturn, 1) := by decide +kernel
theorem dX11_sight_40 : decode cX11_sight 40 = .ok (.aload_n 3, 1) := by decide +kernel
theorem dX11_sight_41 : decode cX11_sight 41 = .ok (.getfield 295, 3) := by decide +kernel
theorem dX11_sight_44 : decode cX11_sight 44 = .ok (.iload_n 2, 1) := by decide +kernel
theorem dX11_sight_45 : decode cX11_sight 45 = .ok (.bipush 10, 2) := by decide +kernel
theorem dX11_sight_47 : decode cX11_sight 47 = .ok (.isub, 1) := by decide +kernel
theorem dX11_sight_48 : decode cX11_sight 48 = .ok (.iaload, 1) := by decide +kernel
theorem dX11_sight_49 : decode cX11_sight 49 = .ok (.ireturn, 1) := by decide +kernel
theorem dX11_fits_0 : decode cX11_fits 0 = .ok (.aload_n 0, 1) := by decide +kernel
theorem dX11_fits_1 : decode cX11_fits 1 = .ok (.getfield 10, 3) := by decide +kernel
theorem dX11_fits_4 : decode cX11_fits 4 = .ok (.iload_n 1, 1) := by decide +kernel
theorem dX11_fits_5 : decode cX11_fits 5 = .ok (.invokevirtual 149, 3) := by decide +kernel
theorem dX11_fits_8 : decode cX11_fits 8 = .ok (.astore 5, 2) := by decide +kernel
theorem dX11_fits_10 : decode cX11_fits 10 = .ok (.aload_n 0, 1) := by decide +kernel
theorem dX11_fits_11 : decode cX11_fits 11 = .ok (.getfield 10, 3) := by decide +kernel
theorem dX11_fits_14 : decode cX11_fits 14 = .ok (.iload_n 2, 1) := by decide +kernel
theorem dX11_fits_15 : decode cX11_fits 15 = .ok (.invokevirtual 164, 3) := by decide +kernel
theorem dX11_fits_18 : decode cX11_fits 18 = .ok (.astore 6, 2) := by decide +kernel
theorem dX11_fits_20 : decode cX11_fits 20 = .ok (.aload_n 0, 1) := by decide +kernel
theorem dX11_fits_21 : decode cX11_fits 21 = .ok (.getfield 10, 3) := by decide +kernel
theorem dX11_fits_24 : decode cX11_fits 24 = .ok (.iload_n 3, 1) := by decide +kernel
theorem dX11_fits_25 : decode cX11_fits 25 = .ok (.invokevirtual 288, 3) := by decide +kernel
theorem dX11_fits_28 : decode cX11_fits 28 = .ok (.astore 7, 2) := by decide +kernel
theorem dX11_fits_30 : decode cX11_fits 30 = .ok (.aload 5, 2) := by decide +kernel
theorem dX11_fits_32 : decode cX11_fits 32 = .ok (.ifnull 13, 3) := by decide +kernel
theorem dX11_fits_35 : decode cX11_fits 35 = .ok (.aload 6, 2) := by decide +kernel
theorem dX11_fits_37 : decode cX11_fits 37 = .ok (.ifnull 8, 3) := by decide +kernel
theorem dX11_fits_40 : decode cX11_fits 40 = .ok (.aload 7, 2) := by decide +kernel
theorem dX11_fits_42 : decode cX11_fits 42 = .ok (.ifnonnull 6, 3) := by decide +kernel
theorem dX11_fits_45 : decode cX11_fits 45 = .ok (.bipush (-2), 2) := by decide +kernel
theorem dX11_fits_47 : decode cX11_fits 47 = .ok (.ireturn, 1) := by decide +kernel
theorem dX11_fits_48 : decode cX11_fits 48 = .ok (.iload 4, 2) := by decide +kernel
theorem dX11_fits_50 : decode cX11_fits 50 = .ok (.ifCond .lt 16, 3) := by decide +kernel
theorem dX11_fits_53 : decode cX11_fits 53 = .ok (.iload 4, 2) := by decide +kernel
theorem dX11_fits_55 : decode cX11_fits 55 = .ok (.iconst 4, 1) := by decide +kernel
theorem dX11_fits_56 : decode cX11_fits 56 = .ok (.if_icmp .le 13, 3) := by decide +kernel
theorem dX11_fits_59 : decode cX11_fits 59 = .ok (.iload 4, 2) := by decide +kernel
theorem dX11_fits_61 : decode cX11_fits 61 = .ok (.bipush 10, 2) := by decide +kernel
theorem dX11_fits_63 : decode cX11_fits 63 = .ok (.if_icmp .ge 6, 3) := by decide +kernel
theorem dX11_fits_66 : decode cX11_fits 66 = .ok (.bipush (-2), 2) := by decide +kernel
theorem dX11_fits_68 : decode cX11_fits 68 = .ok (.ireturn, 1) := by decide +kernel
theorem dX11_fits_69 : decode cX11_fits 69 = .ok (.aload_n 0, 1) := by decide +kernel
theorem dX11_fits_70 : decode cX11_fits 70 = .ok (.getfield 60, 3) := by decide +kernel
theorem dX11_fits_73 : decode cX11_fits 73 = .ok (.aload 5, 2) := by decide +kernel
theorem dX11_fits_75 : decode cX11_fits 75 = .ok (.aload 6, 2) := by decide +kernel
theorem dX11_fits_77 : decode cX11_fits 77 = .ok (.aload 7, 2) := by decide +kernel
theorem dX11_fits_79 : decode cX11_fits 79 = .ok (.iload 4, 2) := by decide +kernel
theorem dX11_fits_81 : decode cX11_fits 81 = .ok (.bipush 10, 2) := by decide +kernel
theorem dX11_fits_83 : decode cX11_fits 83 = .ok (.isub, 1) := by decide +kernel
theorem dX11_fits_84 : decode cX11_fits 84 = .ok (.invokevirtual 298, 3) := by decide +kernel
theorem dX11_fits_87 : decode cX11_fits 87 = .ok (.aload_n 0, 1) := by decide +kernel
theorem dX11_fits_88 : decode cX11_fits 88 = .ok (.getfield 60, 3) := by decide +kernel
theorem dX11_fits_91 : decode cX11_fits 91 = .ok (.iload 4, 2) := by decide +kernel
theorem dX11_fits_93 : decode cX11_fits 93 = .ok (.invokevirtual 302, 3) := by decide +kernel
theorem dX11_fits_96 : decode cX11_fits 96 = .ok (.ireturn, 1) := by decide +kernel
theorem dX11_commonDivisor_0 : decode cX11_commonDivisor 0 = .ok (.iload_n 0, 1) := by decide +kernel
theorem dX11_commonDivisor_1 : decode cX11_commonDivisor 1 = .ok (.istore_n 2, 1) := by decide +kernel
theorem dX11_commonDivisor_2 : decode cX11_commonDivisor 2 = .ok (.iload_n 1, 1) := by decide +kernel
theorem dX11_commonDivisor_3 : decode cX11_commonDivisor 3 = .ok (.istore_n 3, 1) := by decide +kernel
theorem dX11_commonDivisor_4 : decode cX11_commonDivisor 4 = .ok (.iconst 0, 1) := by decide +kernel
theorem dX11_commonDivisor_5 : decode cX11_commonDivisor 5 = .ok (.istore 4, 2) := by decide +kernel
theorem dX11_commonDivisor_7 : decode cX11_commonDivisor 7 = .ok (.iload 4, 2) := by decide +kernel
theorem dX11_commonDivisor_9 : decode cX11_commonDivisor 9 = .ok (.bipush 64, 2) := by decide +kernel
theorem dX11_commonDivisor_11 : decode cX11_commonDivisor 11 = .ok (.if_icmp .ge 23, 3) := by decide +kernel
theorem dX11_commonDivisor_14 : decode cX11_commonDivisor 14 = .ok (.iload_n 3, 1) := by decide +kernel
theorem dX11_commonDivisor_15 : decode cX11_commonDivisor 15 = .ok (.ifCond .eq 19, 3) := by decide +kernel
theorem dX11_commonDivisor_18 : decode cX11_commonDivisor 18 = .ok (.iload_n 2, 1) := by decide +kernel
theorem dX11_commonDivisor_19 : decode cX11_commonDivisor 19 = .ok (.iload_n 3, 1) := by decide +kernel
theorem dX11_commonDivisor_20 : decode cX11_commonDivisor 20 = .ok (.irem, 1) := by decide +kernel
theorem dX11_commonDivisor_21 : decode cX11_commonDivisor 21 = .ok (.istore 5, 2) := by decide +kernel
theorem dX11_commonDivisor_23 : decode cX11_commonDivisor 23 = .ok (.iload_n 3, 1) := by decide +kernel
theorem dX11_commonDivisor_24 : decode cX11_commonDivisor 24 = .ok (.istore_n 2, 1) := by decide +kernel
theorem dX11_commonDivisor_25 : decode cX11_commonDivisor 25 = .ok (.iload 5, 2) := by decide +kernel
theorem dX11_commonDivisor_27 : decode cX11_commonDivisor 27 = .ok (.istore_n 3, 1) := by decide +kernel
theorem dX11_commonDivisor_28 : decode cX11_commonDivisor 28 = .ok (.iinc 4 1, 3) := by decide +kernel
theorem dX11_commonDivisor_31 : decode cX11_commonDivisor 31 = .ok (.goto (-24), 3) := by decide +kernel
theorem dX11_commonDivisor_34 : decode cX11_commonDivisor 34 = .ok (.iload_n 2, 1) := by decide +kernel
theorem dX11_commonDivisor_35 : decode cX11_commonDivisor 35 = .ok (.ireturn, 1) := by decide +kernel
theorem dX11_wind_0 : decode cX11_wind 0 = .ok (.aload_n 0, 1) := by decide +kernel
theorem dX11_wind_1 : decode cX11_wind 1 = .ok (.getfield 10, 3) := by decide +kernel
theorem dX11_wind_4 : decode cX11_wind 4 = .ok (.iload_n 1, 1) := by decide +kernel
theorem dX11_wind_5 : decode cX11_wind 5 = .ok (.invokevirtual 149, 3) := by decide +kernel
theorem dX11_wind_8 : decode cX11_wind 8 = .ok (.astore 5, 2) := by decide +kernel
theorem dX11_wind_10 : decode cX11_wind 10 = .ok (.aload_n 0, 1) := by decide +kernel
theorem dX11_wind_11 : decode cX11_wind 11 = .ok (.getfield 10, 3) := by decide +kernel
theorem dX11_wind_14 : decode cX11_wind 14 = .ok (.iload_n 2, 1) := by decide +kernel
theorem dX11_wind_15 : decode cX11_wind 15 = .ok (.invokevirtual 164, 3) := by decide +kernel
theorem dX11_wind_18 : decode cX11_wind 18 = .ok (.astore 6, 2) := by decide +kernel
theorem dX11_wind_20 : decode cX11_wind 20 = .ok (.aload 5, 2) := by decide +kernel
theorem dX11_wind_22 : decode cX11_wind 22 = .ok (.ifnull 19, 3) := by decide +kernel
theorem dX11_wind_25 : decode cX11_wind 25 = .ok (.aload 6, 2) := by decide +kernel
theorem dX11_wind_27 : decode cX11_wind 27 = .ok (.ifnull 14, 3) := by decide +kernel
theorem dX11_wind_30 : decode cX11_wind 30 = .ok (.iload_n 3, 1) := by decide +kernel
theorem dX11_wind_31 : decode cX11_wind 31 = .ok (.iconst 1, 1) := by decide +kernel
theorem dX11_wind_32 : decode cX11_wind 32 = .ok (.if_icmp .lt 9, 3) := by decide +kernel
theorem dX11_wind_35 : decode cX11_wind 35 = .ok (.iload_n 3, 1) := by decide +kernel
theorem dX11_wind_36 : decode cX11_wind 36 = .ok (.bipush 9, 2) := by decide +kernel
theorem dX11_wind_38 : decode cX11_wind 38 = .ok (.if_icmp .le 5, 3) := by decide +kernel
theorem dX11_wind_41 : decode cX11_wind 41 = .ok (.iconst (-1), 1) := by decide +kernel
theorem dX11_wind_42 : decode cX11_wind 42 = .ok (.ireturn, 1) := by decide +kernel
theorem dX11_wind_43 : decode cX11_wind 43 = .ok (.aload_n 0, 1) := by decide +kernel
theorem dX11_wind_44 : decode cX11_wind 44 = .ok (.getfield 30, 3) := by decide +kernel
theorem dX11_wind_47 : decode cX11_wind 47 = .ok (.aload 5, 2) := by decide +kernel
theorem dX11_wind_49 : decode cX11_wind 49 = .ok (.invokevirtual 188, 3) := by decide +kernel
theorem dX11_wind_52 : decode cX11_wind 52 = .ok (.aload_n 0, 1) := by decide +kernel
theorem dX11_wind_53 : decode cX11_wind 53 = .ok (.getfield 30, 3) := by decide +kernel
theorem dX11_wind_56 : decode cX11_wind 56 = .ok (.iconst 0, 1) := by decide +kernel
theorem dX11_wind_57 : decode cX11_wind 57 = .ok (.invokevirtual 303, 3) := by decide +kernel
theorem dX11_wind_60 : decode cX11_wind 60 = .ok (.pop, 1) := by decide +kernel
theorem dX11_wind_61 : decode cX11_wind 61 = .ok (.iconst 0, 1) := by decide +kernel
theorem dX11_wind_62 : decode cX11_wind 62 = .ok (.istore 7, 2) := by decide +kernel
theorem dX11_wind_64 : decode cX11_wind 64 = .ok (.iconst 0, 1) := by decide +kernel
theorem dX11_wind_65 : decode cX11_wind 65 = .ok (.istore 8, 2) := by decide +kernel
theorem dX11_wind_67 : decode cX11_wind 67 = .ok (.iload 8, 2) := by decide +kernel
theorem dX11_wind_69 : decode cX11_wind 69 = .ok (.aload 5, 2) := by decide +kernel
theorem dX11_wind_71 : decode cX11_wind 71 = .ok (.getfield 251, 3) := by decide +kernel
theorem dX11_wind_74 : decode cX11_wind 74 = .ok (.if_icmp .ge 48, 3) := by decide +kernel
theorem dX11_wind_77 : decode cX11_wind 77 = .ok (.aload 5, 2) := by decide +kernel
theorem dX11_wind_79 : decode cX11_wind 79 = .ok (.getfield 306, 3) := by decide +kernel
theorem dX11_wind_82 : decode cX11_wind 82 = .ok (.iload 8, 2) := by decide +kernel
theorem dX11_wind_84 : decode cX11_wind 84 = .ok (.iaload, 1) := by decide +kernel
theorem dX11_wind_85 : decode cX11_wind 85 = .ok (.ifCond .ne 9, 3) := by decide +kernel
theorem dX11_wind_88 : decode cX11_wind 88 = .ok (.iload_n 3, 1) := by decide +kernel
theorem dX11_wind_89 : decode cX11_wind 89 = .ok (.iconst 1, 1) := by decide +kernel
theorem dX11_wind_90 : decode cX11_wind 90 = .ok (.isub, 1) := by decide +kernel
theorem dX11_wind_91 : decode cX11_wind 91 = .ok (.goto 4, 3) := by decide +kernel
theorem dX11_wind_94 : decode cX11_wind 94 = .ok (.iload_n 3, 1) := by decide +kernel
theorem dX11_wind_95 : decode cX11_wind 95 = .ok (.istore 9, 2) := by decide +kernel
theorem dX11_wind_97 : decode cX11_wind 97 = .ok (.iload 7, 2) := by decide +kernel
theorem dX11_wind_99 : decode cX11_wind 99 = .ok (.aload_n 0, 1) := by decide +kernel
theorem dX11_wind_100 : decode cX11_wind 100 = .ok (.getfield 30, 3) := by decide +kernel
theorem dX11_wind_103 : decode cX11_wind 103 = .ok (.iload 8, 2) := by decide +kernel
theorem dX11_wind_105 : decode cX11_wind 105 = .ok (.aload 6, 2) := by decide +kernel
theorem dX11_wind_107 : decode cX11_wind 107 = .ok (.invokevirtual 209, 3) := by decide +kernel
theorem dX11_wind_110 : decode cX11_wind 110 = .ok (.iload 9, 2) := by decide +kernel
theorem dX11_wind_112 : decode cX11_wind 112 = .ok (.imul, 1) := by decide +kernel
theorem dX11_wind_113 : decode cX11_wind 113 = .ok (.iadd, 1) := by decide +kernel
theorem dX11_wind_114 : decode cX11_wind 114 = .ok (.istore 7, 2) := by decide +kernel
theorem dX11_wind_116 : decode cX11_wind 116 = .ok (.iinc 8 1, 3) := by decide +kernel
theorem dX11_wind_119 : decode cX11_wind 119 = .ok (.goto (-52), 3) := by decide +kernel
theorem dX11_wind_122 : decode cX11_wind 122 = .ok (.iload 7, 2) := by decide +kernel
theorem dX11_wind_124 : decode cX11_wind 124 = .ok (.iload_n 3, 1) := by decide +kernel
theorem dX11_wind_125 : decode cX11_wind 125 = .ok (.invokestatic 307, 3) := by decide +kernel
theorem dX11_wind_128 : decode cX11_wind 128 = .ok (.istore 8, 2) := by decide +kernel
theorem dX11_wind_130 : decode cX11_wind 130 = .ok (.iload 8, 2) := by decide +kernel
theorem dX11_wind_132 : decode cX11_wind 132 = .ok (.iconst 1, 1) := by decide +kernel
theorem dX11_wind_133 : decode cX11_wind 133 = .ok (.if_icmp .ge 5, 3) := by decide +kernel
theorem dX11_wind_136 : decode cX11_wind 136 = .ok (.iconst (-1), 1) := by decide +kernel
theorem dX11_wind_137 : decode cX11_wind 137 = .ok (.ireturn, 1) := by decide +kernel
theorem dX11_wind_138 : decode cX11_wind 138 = .ok (.iload 4, 2) := by decide +kernel
theorem dX11_wind_140 : decode cX11_wind 140 = .ok (.ifCond .eq 10, 3) := by decide +kernel
theorem dX11_wind_143 : decode cX11_wind 143 = .ok (.iload_n 3, 1) := by decide +kernel
theorem dX11_wind_144 : decode cX11_wind 144 = .ok (.iload 8, 2) := by decide +kernel
theorem dX11_wind_146 : decode cX11_wind 146 = .ok (.idiv, 1) := by decide +kernel
theorem dX11_wind_147 : decode cX11_wind 147 = .ok (.goto 8, 3) := by decide +kernel
theorem dX11_wind_150 : decode cX11_wind 150 = .ok (.iload 7, 2) := by decide +kernel
theorem dX11_wind_152 : decode cX11_wind 152 = .ok (.iload 8, 2) := by decide +kernel
theorem dX11_wind_154 : decode cX11_wind 154 = .ok (.idiv, 1) := by decide +kernel
theorem dX11_wind_155 : decode cX11_wind 155 = .ok (.ireturn, 1) := by decide +kernel
theorem dX11_clan_0 : decode cX11_clan 0 = .ok (.aload_n 0, 1) := by decide +kernel
theorem dX11_clan_1 : decode cX11_clan 1 = .ok (.getfield 10, 3) := by decide +kernel
theorem dX11_clan_4 : decode cX11_clan 4 = .ok (.iload_n 1, 1) := by decide +kernel
theorem dX11_clan_5 : decode cX11_clan 5 = .ok (.invokevirtual 149, 3) := by decide +kernel
theorem dX11_clan_8 : decode cX11_clan 8 = .ok (.astore_n 3, 1) := by decide +kernel
theorem dX11_clan_9 : decode cX11_clan 9 = .ok (.aload_n 3, 1) := by decide +kernel
theorem dX11_clan_10 : decode cX11_clan 10 = .ok (.ifnull 11, 3) := by decide +kernel
theorem dX11_clan_13 : decode cX11_clan 13 = .ok (.aload_n 3, 1) := by decide +kernel
theorem dX11_clan_14 : decode cX11_clan 14 = .ok (.iload_n 2, 1) := by decide +kernel
theorem dX11_clan_15 : decode cX11_clan 15 = .ok (.invokevirtual 185, 3) := by decide +kernel
theorem dX11_clan_18 : decode cX11_clan 18 = .ok (.ifCond .ne 5, 3) := by decide +kernel
theorem dX11_clan_21 : decode cX11_clan 21 = .ok (.iconst (-1), 1) := by decide +kernel
theorem dX11_clan_22 : decode cX11_clan 22 = .ok (.ireturn, 1) := by decide +kernel
theorem dX11_clan_23 : decode cX11_clan 23 = .ok (.aload_n 0, 1) := by decide +kernel
theorem dX11_clan_24 : decode cX11_clan 24 = .ok (.getfield 30, 3) := by decide +kernel
theorem dX11_clan_27 : decode cX11_clan 27 = .ok (.aload_n 3, 1) := by decide +kernel
theorem dX11_clan_28 : decode cX11_clan 28 = .ok (.invokevirtual 188, 3) := by decide +kernel
theorem dX11_clan_31 : decode cX11_clan 31 = .ok (.aload_n 0, 1) := by decide +kernel
theorem dX11_clan_32 : decode cX11_clan 32 = .ok (.getfield 30, 3) := by decide +kernel
theorem dX11_clan_35 : decode cX11_clan 35 = .ok (.iload_n 2, 1) := by decide +kernel
theorem dX11_clan_36 : decode cX11_clan 36 = .ok (.invokevirtual 310, 3) := by decide +kernel
theorem dX11_clan_39 : decode cX11_clan 39 = .ok (.ireturn, 1) := by decide +kernel
theorem dX11_puddle_0 : decode cX11_puddle 0 = .ok (.aload_n 0, 1) := by decide +kernel
theorem dX11_puddle_1 : decode cX11_puddle 1 = .ok (.getfield 10, 3) := by decide +kernel
theorem dX11_puddle_4 : decode cX11_puddle 4 = .ok (.iload_n 1, 1) := by decide +kernel
theorem dX11_puddle_5 : decode cX11_puddle 5 = .ok (.invokevirtual 149, 3) := by decide +kernel
theorem dX11_puddle_8 : decode cX11_puddle 8 = .ok (.astore 4, 2) := by decide +kernel
theorem dX11_puddle_10 : decode cX11_puddle 10 = .ok (.aload_n 0, 1) := by decide +kernel
theorem dX11_puddle_11 : decode cX11_puddle 11 = .ok (.getfield 10, 3) := by decide +kernel
theorem dX11_puddle_14 : decode cX11_puddle 14 = .ok (.iload_n 2, 1) := by decide +kernel
theorem dX11_puddle_15 : decode cX11_puddle 15 = .ok (.invokevirtual 164, 3) := by decide +kernel
theorem dX11_puddle_18 : decode cX11_puddle 18 = .ok (.astore 5, 2) := by decide +kernel
theorem dX11_puddle_20 : decode cX11_puddle 20 = .ok (.aload 4, 2) := by decide +kernel
theorem dX11_puddle_22 : decode cX11_puddle 22 = .ok (.ifnull 16, 3) := by decide +kernel
theorem dX11_puddle_25 : decode cX11_puddle 25 = .ok (.aload 5, 2) := by decide +kernel
theorem dX11_puddle_27 : decode cX11_puddle 27 = .ok (.ifnull 11, 3) := by decide +kernel
theorem dX11_puddle_30 : decode cX11_puddle 30 = .ok (.aload 4, 2) := by decide +kernel
theorem dX11_puddle_32 : decode cX11_puddle 32 = .ok (.getfield 251, 3) := by decide +kernel
theorem dX11_puddle_35 : decode cX11_puddle 35 = .ok (.ifCond .ne 5, 3) := by decide +kernel
theorem dX11_puddle_38 : decode cX11_puddle 38 = .ok (.iconst (-1), 1) := by decide +kernel
theorem dX11_puddle_39 : decode cX11_puddle 39 = .ok (.ireturn, 1) := by decide +kernel
theorem dX11_puddle_40 : decode cX11_puddle 40 = .ok (.aload_n 0, 1) := by decide +kernel
theorem dX11_puddle_41 : decode cX11_puddle 41 = .ok (.getfield 30, 3) := by decide +kernel
theorem dX11_puddle_44 : decode cX11_puddle 44 = .ok (.aload 4, 2) := by decide +kernel
theorem dX11_puddle_46 : decode cX11_puddle 46 = .ok (.invokevirtual 188, 3) := by decide +kernel
theorem dX11_puddle_49 : decode cX11_puddle 49 = .ok (.aload_n 0, 1) := by decide +kernel
theorem dX11_puddle_50 : decode cX11_puddle 50 = .ok (.getfield 46, 3) := by decide +kernel
theorem dX11_puddle_53 : decode cX11_puddle 53 = .ok (.aload 4, 2) := by decide +kernel
theorem dX11_puddle_55 : decode cX11_puddle 55 = .ok (.aload 5, 2) := by decide +kernel
theorem dX11_puddle_57 : decode cX11_puddle 57 = .ok (.invokevirtual 313, 3) := by decide +kernel
theorem dX11_puddle_60 : decode cX11_puddle 60 = .ok (.iload_n 3, 1) := by decide +kernel
theorem dX11_puddle_61 : decode cX11_puddle 61 = .ok (.ifCond .eq 13, 3) := by decide +kernel
theorem dX11_puddle_64 : decode cX11_puddle 64 = .ok (.aload_n 0, 1) := by decide +kernel
theorem dX11_puddle_65 : decode cX11_puddle 65 = .ok (.getfield 46, 3) := by decide +kernel
theorem dX11_puddle_68 : decode cX11_puddle 68 = .ok (.getfield 237, 3) := by decide +kernel
theorem dX11_puddle_71 : decode cX11_puddle 71 = .ok (.goto 10, 3) := by decide +kernel
theorem dX11_puddle_74 : decode cX11_puddle 74 = .ok (.aload_n 0, 1) := by decide +kernel
theorem dX11_puddle_75 : decode cX11_puddle 75 = .ok (.getfield 46, 3) := by decide +kernel
theorem dX11_puddle_78 : decode cX11_puddle 78 = .ok (.getfield 240, 3) := by decide +kernel
theorem dX11_puddle_81 : decode cX11_puddle 81 = .ok (.ireturn, 1) := by decide +kernel
theorem dX11_drawn_0 : decode cX11_drawn 0 = .ok (.aload_n 0, 1) := by decide +kernel
theorem dX11_drawn_1 : decode cX11_drawn 1 = .ok (.getfield 10, 3) := by decide +kernel
theorem dX11_drawn_4 : decode cX11_drawn 4 = .ok (.iload_n 1, 1) := by decide +kernel
theorem dX11_drawn_5 : decode cX11_drawn 5 = .ok (.invokevirtual 149, 3) := by decide +kernel
theorem dX11_drawn_8 : decode cX11_drawn 8 = .ok (.astore 6, 2) := by decide +kernel
theorem dX11_drawn_10 : decode cX11_drawn 10 = .ok (.aload_n 0, 1) := by decide +kernel
theorem dX11_drawn_11 : decode cX11_drawn 11 = .ok (.getfield 10, 3) := by decide +kernel
theorem dX11_drawn_14 : decode cX11_drawn 14 = .ok (.iload_n 2, 1) := by decide +kernel
theorem dX11_drawn_15 : decode cX11_drawn 15 = .ok (.invokevirtual 164, 3) := by decide +kernel
theorem dX11_drawn_18 : decode cX11_drawn 18 = .ok (.astore 7, 2) := by decide +kernel
theorem dX11_drawn_20 : decode cX11_drawn 20 = .ok (.aload 6, 2) := by decide +kernel
theorem dX11_drawn_22 : decode cX11_drawn 22 = .ok (.ifnull 20, 3) := by decide +kernel
theorem dX11_drawn_25 : decode cX11_drawn 25 = .ok (.aload 7, 2) := by decide +kernel
theorem dX11_drawn_27 : decode cX11_drawn 27 = .ok (.ifnull 15, 3) := by decide +kernel
theorem dX11_drawn_30 : decode cX11_drawn 30 = .ok (.iload 4, 2) := by decide +kernel
theorem dX11_drawn_32 : decode cX11_drawn 32 = .ok (.ifCond .lt 10, 3) := by decide +kernel
theorem dX11_drawn_35 : decode cX11_drawn 35 = .ok (.iload 4, 2) := by decide +kernel
theorem dX11_drawn_37 : decode cX11_drawn 37 = .ok (.bipush 40, 2) := by decide +kernel
theorem dX11_drawn_39 : decode cX11_drawn 39 = .ok (.if_icmp .le 6, 3) := by decide +kernel
theorem dX11_drawn_42 : decode cX11_drawn 42 = .ok (.bipush (-2), 2) := by decide +kernel
theorem dX11_drawn_44 : decode cX11_drawn 44 = .ok (.ireturn, 1) := by decide +kernel
theorem dX11_drawn_45 : decode cX11_drawn 45 = .ok (.iload 5, 2) := by decide +kernel
theorem dX11_drawn_47 : decode cX11_drawn 47 = .ok (.bipush 50, 2) := by decide +kernel
theorem dX11_drawn_49 : decode cX11_drawn 49 = .ok (.if_icmp .lt 13, 3) := by decide +kernel
theorem dX11_drawn_52 : decode cX11_drawn 52 = .ok (.iload 5, 2) := by decide +kernel
theorem dX11_drawn_54 : decode cX11_drawn 54 = .ok (.bipush 60, 2) := by decide +kernel
theorem dX11_drawn_56 : decode cX11_drawn 56 = .ok (.if_icmp .ge 6, 3) := by decide +kernel
theorem dX11_drawn_59 : decode cX11_drawn 59 = .ok (.bipush (-2), 2) := by decide +kernel
theorem dX11_drawn_61 : decode cX11_drawn 61 = .ok (.ireturn, 1) := by decide +kernel
theorem dX11_drawn_62 : decode cX11_drawn 62 = .ok (.aload_n 0, 1) := by decide +kernel
theorem dX11_drawn_63 : decode cX11_drawn 63 = .ok (.getfield 39, 3) := by decide +kernel
theorem dX11_drawn_66 : decode cX11_drawn 66 = .ok (.aload 6, 2) := by decide +kernel
theorem dX11_drawn_68 : decode cX11_drawn 68 = .ok (.invokevirtual 225, 3) := by decide +kernel
theorem dX11_drawn_71 : decode cX11_drawn 71 = .ok (.aload_n 0, 1) := by decide +kernel
theorem dX11_drawn_72 : decode cX11_drawn 72 = .ok (.getfield 39, 3) := by decide +kernel
theorem dX11_drawn_75 : decode cX11_drawn 75 = .ok (.aload 7, 2) := by decide +kernel
theorem dX11_drawn_77 : decode cX11_drawn 77 = .ok (.iload_n 3, 1) := by decide +kernel
theorem dX11_drawn_78 : decode cX11_drawn 78 = .ok (.iload 4, 2) := by decide +kernel
theorem dX11_drawn_80 : decode cX11_drawn 80 = .ok (.invokevirtual 316, 3) := by decide +kernel
theorem dX11_drawn_83 : decode cX11_drawn 83 = .ok (.aload_n 0, 1) := by decide +kernel
theorem dX11_drawn_84 : decode cX11_drawn 84 = .ok (.getfield 39, 3) := by decide +kernel
theorem dX11_drawn_87 : decode cX11_drawn 87 = .ok (.aload 7, 2) := by decide +kernel
theorem dX11_drawn_89 : decode cX11_drawn 89 = .ok (.iload 5, 2) := by decide +kernel
theorem dX11_drawn_91 : decode cX11_drawn 91 = .ok (.invokevirtual 230, 3) := by decide +kernel
theorem dX11_drawn_94 : decode cX11_drawn 94 = .ok (.ireturn, 1) := by decide +kernel
theorem dX11_alone_0 : decode cX11_alone 0 = .ok (.aload_n 0, 1) := by decide +kernel
theorem dX11_alone_1 : decode cX11_alone 1 = .ok (.getfield 10, 3) := by decide +kernel
theorem dX11_alone_4 : decode cX11_alone 4 = .ok (.iload_n 1, 1) := by decide +kernel
theorem dX11_alone_5 : decode cX11_alone 5 = .ok (.invokevirtual 149, 3) := by decide +kernel
theorem dX11_alone_8 : decode cX11_alone 8 = .ok (.astore_n 3, 1) := by decide +kernel
theorem dX11_alone_9 : decode cX11_alone 9 = .ok (.aload_n 3, 1) := by decide +kernel
theorem dX11_alone_10 : decode cX11_alone 10 = .ok (.ifnonnull 6, 3) := by decide +kernel
theorem dX11_alone_13 : decode cX11_alone 13 = .ok (.bipush (-2), 2) := by decide +kernel
theorem dX11_alone_15 : decode cX11_alone 15 = .ok (.ireturn, 1) := by decide +kernel
theorem dX11_alone_16 : decode cX11_alone 16 = .ok (.aload_n 0, 1) := by decide +kernel
theorem dX11_alone_17 : decode cX11_alone 17 = .ok (.getfield 30, 3) := by decide +kernel
theorem dX11_alone_20 : decode cX11_alone 20 = .ok (.aload_n 3, 1) := by decide +kernel
theorem dX11_alone_21 : decode cX11_alone 21 = .ok (.invokevirtual 188, 3) := by decide +kernel
theorem dX11_alone_24 : decode cX11_alone 24 = .ok (.aload_n 0, 1) := by decide +kernel
theorem dX11_alone_25 : decode cX11_alone 25 = .ok (.getfield 30, 3) := by decide +kernel
theorem dX11_alone_28 : decode cX11_alone 28 = .ok (.bipush 8, 2) := by decide +kernel
theorem dX11_alone_30 : decode cX11_alone 30 = .ok (.invokevirtual 303, 3) := by decide +kernel
theorem dX11_alone_33 : decode cX11_alone 33 = .ok (.istore 4, 2) := by decide +kernel
theorem dX11_alone_35 : decode cX11_alone 35 = .ok (.iconst 0, 1) := by decide +kernel
theorem dX11_alone_36 : decode cX11_alone 36 = .ok (.istore 5, 2) := by decide +kernel
theorem dX11_alone_38 : decode cX11_alone 38 = .ok (.iconst 0, 1) := by decide +kernel
theorem dX11_alone_39 : decode cX11_alone 39 = .ok (.istore 6, 2) := by decide +kernel
theorem dX11_alone_41 : decode cX11_alone 41 = .ok (.iconst 0, 1) := by decide +kernel
theorem dX11_alone_42 : decode cX11_alone 42 = .ok (.istore 7, 2) := by decide +kernel
theorem dX11_alone_44 : decode cX11_alone 44 = .ok (.iload 7, 2) := by decide +kernel
theorem dX11_alone_46 : decode cX11_alone 46 = .ok (.aload_n 3, 1) := by decide +kernel
theorem dX11_alone_47 : decode cX11_alone 47 = .ok (.getfield 251, 3) := by decide +kernel
theorem dX11_alone_50 : decode cX11_alone 50 = .ok (.if_icmp .ge 46, 3) := by decide +kernel
theorem dX11_alone_53 : decode cX11_alone 53 = .ok (.iload 5, 2) := by decide +kernel
theorem dX11_alone_55 : decode cX11_alone 55 = .ok (.aload_n 0, 1) := by decide +kernel
theorem dX11_alone_56 : decode cX11_alone 56 = .ok (.getfield 30, 3) := by decide +kernel
theorem dX11_alone_59 : decode cX11_alone 59 = .ok (.getfield 320, 3) := by decide +kernel
theorem dX11_alone_62 : decode cX11_alone 62 = .ok (.iload 7, 2) := by decide +kernel
theorem dX11_alone_64 : decode cX11_alone 64 = .ok (.iaload, 1) := by decide +kernel
theorem dX11_alone_65 : decode cX11_alone 65 = .ok (.ior, 1) := by decide +kernel
theorem dX11_alone_66 : decode cX11_alone 66 = .ok (.istore 5, 2) := by decide +kernel
theorem dX11_alone_68 : decode cX11_alone 68 = .ok (.aload_n 0, 1) := by decide +kernel
theorem dX11_alone_69 : decode cX11_alone 69 = .ok (.getfield 30, 3) := by decide +kernel
theorem dX11_alone_72 : decode cX11_alone 72 = .ok (.getfield 320, 3) := by decide +kernel
theorem dX11_alone_75 : decode cX11_alone 75 = .ok (.iload 7, 2) := by decide +kernel
theorem dX11_alone_77 : decode cX11_alone 77 = .ok (.iaload, 1) := by decide +kernel
theorem dX11_alone_78 : decode cX11_alone 78 = .ok (.ifCond .ne 12, 3) := by decide +kernel
theorem dX11_alone_81 : decode cX11_alone 81 = .ok (.iload 6, 2) := by decide +kernel
theorem dX11_alone_83 : decode cX11_alone 83 = .ok (.iconst 1, 1) := by decide +kernel
theorem dX11_alone_84 : decode cX11_alone 84 = .ok (.iload 7, 2) := by decide +kernel
theorem dX11_alone_86 : decode cX11_alone 86 = .ok (.ishl, 1) := by decide +kernel
theorem dX11_alone_87 : decode cX11_alone 87 = .ok (.ior, 1) := by decide +kernel
theorem dX11_alone_88 : decode cX11_alone 88 = .ok (.istore 6, 2) := by decide +kernel
theorem dX11_alone_90 : decode cX11_alone 90 = .ok (.iinc 7 1, 3) := by decide +kernel
theorem dX11_alone_93 : decode cX11_alone 93 = .ok (.goto (-49), 3) := by decide +kernel
theorem dX11_alone_96 : decode cX11_alone 96 = .ok (.iload_n 2, 1) := by decide +kernel
theorem dX11_alone_97 : decode cX11_alone 97 = .ok (.ifCond .ne 17, 3) := by decide +kernel
theorem dX11_alone_100 : decode cX11_alone 100 = .ok (.iconst 1, 1) := by decide +kernel
theorem dX11_alone_101 : decode cX11_alone 101 = .ok (.aload_n 3, 1) := by decide +kernel
theorem dX11_alone_102 : decode cX11_alone 102 = .ok (.getfield 323, 3) := by decide +kernel
theorem dX11_alone_105 : decode cX11_alone 105 = .ok (.ishl, 1) := by decide +kernel
theorem dX11_alone_106 : decode cX11_alone 106 = .ok (.iconst 1, 1) := by decide +kernel
theorem dX11_alone_107 : decode cX11_alone 107 = .ok (.isub, 1) := by decide +kernel
theorem dX11_alone_108 : decode cX11_alone 108 = .ok (.iload 5, 2) := by decide +kernel
theorem dX11_alone_110 : decode cX11_alone 110 = .ok (.iconst (-1), 1) := by decide +kernel
theorem dX11_alone_111 : decode cX11_alone 111 = .ok (.ixor, 1) := by decide +kernel
theorem dX11_alone_112 : decode cX11_alone 112 = .ok (.iand, 1) := by decide +kernel
theorem dX11_alone_113 : decode cX11_alone 113 = .ok (.ireturn, 1) := by decide +kernel
theorem dX11_alone_114 : decode cX11_alone 114 = .ok (.iload_n 2, 1) := by decide +kernel
theorem dX11_alone_115 : decode cX11_alone 115 = .ok (.iconst 1, 1) := by decide +kernel
theorem dX11_alone_116 : decode cX11_alone 116 = .ok (.if_icmp .ne 6, 3) := by decide +kernel
theorem dX11_alone_119 : decode cX11_alone 119 = .ok (.iload 6, 2) := by decide +kernel
theorem dX11_alone_121 : decode cX11_alone 121 = .ok (.ireturn, 1) := by decide +kernel
theorem dX11_alone_122 : decode cX11_alone 122 = .ok (.iload_n 2, 1) := by decide +kernel
theorem dX11_alone_123 : decode cX11_alone 123 = .ok (.iconst 2, 1) := by decide +kernel
theorem dX11_alone_124 : decode cX11_alone 124 = .ok (.if_icmp .ne 11, 3) := by decide +kernel
theorem dX11_alone_127 : decode cX11_alone 127 = .ok (.aload_n 0, 1) := by decide +kernel
theorem dX11_alone_128 : decode cX11_alone 128 = .ok (.getfield 30, 3) := by decide +kernel
theorem dX11_alone_131 : decode cX11_alone 131 = .ok (.invokevirtual 326, 3) := by decide +kernel
theorem dX11_alone_134 : decode cX11_alone 134 = .ok (.ireturn, 1) := by decide +kernel
theorem dX11_alone_135 : decode cX11_alone 135 = .ok (.iload_n 2, 1) := by decide +kernel
theorem dX11_alone_136 : decode cX11_alone 136 = .ok (.iconst 3, 1) := by decide +kernel
theorem dX11_alone_137 : decode cX11_alone 137 = .ok (.if_icmp .eq 6, 3) := by decide +kernel
theorem dX11_alone_140 : decode cX11_alone 140 = .ok (.bipush (-2), 2) := by decide +kernel
theorem dX11_alone_142 : decode cX11_alone 142 = .ok (.ireturn, 1) := by decide +kernel
theorem dX11_alone_143 : decode cX11_alone 143 = .ok (.iload 5, 2) := by decide +kernel
theorem dX11_alone_145 : decode cX11_alone 145 = .ok (.ifCond .ne 7, 3) := by decide +kernel
theorem dX11_alone_148 : decode cX11_alone 148 = .ok (.iconst (-1), 1) := by decide +kernel
theorem dX11_alone_149 : decode cX11_alone 149 = .ok (.goto 5, 3) := by decide +kernel
theorem dX11_alone_152 : decode cX11_alone 152 = .ok (.iload 4, 2) := by decide +kernel
theorem dX11_alone_154 : decode cX11_alone 154 = .ok (.ireturn, 1) := by decide +kernel
theorem dX11_barred_0 : decode cX11_barred 0 = .ok (.aload_n 0, 1) := by decide +kernel
theorem dX11_barred_1 : decode cX11_barred 1 = .ok (.getfield 10, 3) := by decide +kernel
theorem dX11_barred_4 : decode cX11_barred 4 = .ok (.iload_n 1, 1) := by decide +kernel
theorem dX11_barred_5 : decode cX11_barred 5 = .ok (.invokevirtual 149, 3) := by decide +kernel
theorem dX11_barred_8 : decode cX11_barred 8 = .ok (.astore 4, 2) := by decide +kernel
theorem dX11_barred_10 : decode cX11_barred 10 = .ok (.aload_n 0, 1) := by decide +kernel
theorem dX11_barred_11 : decode cX11_barred 11 = .ok (.getfield 10, 3) := by decide +kernel
theorem dX11_barred_14 : decode cX11_barred 14 = .ok (.iload_n 2, 1) := by decide +kernel
theorem dX11_barred_15 : decode cX11_barred 15 = .ok (.invokevirtual 164, 3) := by decide +kernel
theorem dX11_barred_18 : decode cX11_barred 18 = .ok (.astore 5, 2) := by decide +kernel
theorem dX11_barred_20 : decode cX11_barred 20 = .ok (.aload 4, 2) := by decide +kernel
theorem dX11_barred_22 : decode cX11_barred 22 = .ok (.ifnull 8, 3) := by decide +kernel
theorem dX11_barred_25 : decode cX11_barred 25 = .ok (.aload 5, 2) := by decide +kernel
theorem dX11_barred_27 : decode cX11_barred 27 = .ok (.ifnonnull 5, 3) := by decide +kernel
theorem dX11_barred_30 : decode cX11_barred 30 = .ok (.iconst (-1), 1) := by decide +kernel
theorem dX11_barred_31 : decode cX11_barred 31 = .ok (.ireturn, 1) := by decide +kernel
theorem dX11_barred_32 : decode cX11_barred 32 = .ok (.aload_n 0, 1) := by decide +kernel
theorem dX11_barred_33 : decode cX11_barred 33 = .ok (.getfield 46, 3) := by decide +kernel
theorem dX11_barred_36 : decode cX11_barred 36 = .ok (.aload 4, 2) := by decide +kernel
theorem dX11_barred_38 : decode cX11_barred 38 = .ok (.aload 5, 2) := by decide +kernel
theorem dX11_barred_40 : decode cX11_barred 40 = .ok (.invokevirtual 329, 3) := by decide +kernel
theorem dX11_barred_43 : decode cX11_barred 43 = .ok (.aload_n 0, 1) := by decide +kernel
theorem dX11_barred_44 : decode cX11_barred 44 = .ok (.getfield 46, 3) := by decide +kernel
theorem dX11_barred_47 : decode cX11_barred 47 = .ok (.getfield 240, 3) := by decide +kernel
theorem dX11_barred_50 : decode cX11_barred 50 = .ok (.iconst (-1), 1) := by decide +kernel
theorem dX11_barred_51 : decode cX11_barred 51 = .ok (.if_icmp .ne 5, 3) := by decide +kernel
theorem dX11_barred_54 : decode cX11_barred 54 = .ok (.iconst (-1), 1) := by decide +kernel
theorem dX11_barred_55 : decode cX11_barred 55 = .ok (.ireturn, 1) := by decide +kernel
theorem dX11_barred_56 : decode cX11_barred 56 = .ok (.iload_n 3, 1) := by decide +kernel
theorem dX11_barred_57 : decode cX11_barred 57 = .ok (.ifCond .eq 13, 3) := by decide +kernel
theorem dX11_barred_60 : decode cX11_barred 60 = .ok (.aload_n 0, 1) := by decide +kernel
theorem dX11_barred_61 : decode cX11_barred 61 = .ok (.getfield 46, 3) := by decide +kernel
theorem dX11_barred_64 : decode cX11_barred 64 = .ok (.getfield 237, 3) := by decide +kernel
theorem dX11_barred_67 : decode cX11_barred 67 = .ok (.goto 10, 3) := by decide +kernel
theorem dX11_barred_70 : decode cX11_barred 70 = .ok (.aload_n 0, 1) := by decide +kernel
theorem dX11_barred_71 : decode cX11_barred 71 = .ok (.getfield 46, 3) := by decide +kernel
theorem dX11_barred_74 : decode cX11_barred 74 = .ok (.getfield 240, 3) := by decide +kernel
theorem dX11_barred_77 : decode cX11_barred 77 = .ok (.ireturn, 1) := by decide +kernel
theorem dX11_known_0 : decode cX11_known 0 = .ok (.aload_n 0, 1) := by decide +kernel
theorem dX11_known_1 : decode cX11_known 1 = .ok (.getfield 10, 3) := by decide +kernel
theorem dX11_known_4 : decode cX11_known 4 = .ok (.iload_n 1, 1) := by decide +kernel
theorem dX11_known_5 : decode cX11_known 5 = .ok (.invokevirtual 149, 3) := by decide +kernel
theorem dX11_known_8 : decode cX11_known 8 = .ok (.astore 4, 2) := by decide +kernel
theorem dX11_known_10 : decode cX11_known 10 = .ok (.aload_n 0, 1) := by decide +kernel
theorem dX11_known_11 : decode cX11_known 11 = .ok (.getfield 10, 3) := by decide +kernel
theorem dX11_known_14 : decode cX11_known 14 = .ok (.iload_n 2, 1) := by decide +kernel
theorem dX11_known_15 : decode cX11_known 15 = .ok (.invokevirtual 164, 3) := by decide +kernel
theorem dX11_known_18 : decode cX11_known 18 = .ok (.astore 5, 2) := by decide +kernel
theorem dX11_known_20 : decode cX11_known 20 = .ok (.aload 4, 2) := by decide +kernel
theorem dX11_known_22 : decode cX11_known 22 = .ok (.ifnull 8, 3) := by decide +kernel
theorem dX11_known_25 : decode cX11_known 25 = .ok (.aload 5, 2) := by decide +kernel
theorem dX11_known_27 : decode cX11_known 27 = .ok (.ifnonnull 5, 3) := by decide +kernel
theorem dX11_known_30 : decode cX11_known 30 = .ok (.iconst (-1), 1) := by decide +kernel
theorem dX11_known_31 : decode cX11_known 31 = .ok (.ireturn, 1) := by decide +kernel
theorem dX11_known_32 : decode cX11_known 32 = .ok (.iload_n 3, 1) := by decide +kernel
theorem dX11_known_33 : decode cX11_known 33 = .ok (.iconst (-1), 1) := by decide +kernel
theorem dX11_known_34 : decode cX11_known 34 = .ok (.if_icmp .eq 14, 3) := by decide +kernel
theorem dX11_known_37 : decode cX11_known 37 = .ok (.aload 4, 2) := by decide +kernel
theorem dX11_known_39 : decode cX11_known 39 = .ok (.iload_n 3, 1) := by decide +kernel
theorem dX11_known_40 : decode cX11_known 40 = .ok (.invokevirtual 199, 3) := by decide +kernel
theorem dX11_known_43 : decode cX11_known 43 = .ok (.ifCond .ne 5, 3) := by decide +kernel
theorem dX11_known_46 : decode cX11_known 46 = .ok (.iconst (-1), 1) := by decide +kernel
theorem dX11_known_47 : decode cX11_known 47 = .ok (.ireturn, 1) := by decide +kernel
theorem dX11_known_48 : decode cX11_known 48 = .ok (.aload_n 0, 1) := by decide +kernel
theorem dX11_known_49 : decode cX11_known 49 = .ok (.getfield 30, 3) := by decide +kernel
theorem dX11_known_52 : decode cX11_known 52 = .ok (.aload 4, 2) := by decide +kernel
theorem dX11_known_54 : decode cX11_known 54 = .ok (.invokevirtual 188, 3) := by decide +kernel
theorem dX11_known_57 : decode cX11_known 57 = .ok (.aload_n 0, 1) := by decide +kernel
theorem dX11_known_58 : decode cX11_known 58 = .ok (.getfield 30, 3) := by decide +kernel
theorem dX11_known_61 : decode cX11_known 61 = .ok (.aload 5, 2) := by decide +kernel
theorem dX11_known_63 : decode cX11_known 63 = .ok (.getfield 332, 3) := by decide +kernel
theorem dX11_known_66 : decode cX11_known 66 = .ok (.invokevirtual 303, 3) := by decide +kernel
theorem dX11_known_69 : decode cX11_known 69 = .ok (.pop, 1) := by decide +kernel
theorem dX11_known_70 : decode cX11_known 70 = .ok (.iload_n 3, 1) := by decide +kernel
theorem dX11_known_71 : decode cX11_known 71 = .ok (.iconst (-1), 1) := by decide +kernel
theorem dX11_known_72 : decode cX11_known 72 = .ok (.if_icmp .eq 12, 3) := by decide +kernel
theorem dX11_known_75 : decode cX11_known 75 = .ok (.aload_n 0, 1) := by decide +kernel
theorem dX11_known_76 : decode cX11_known 76 = .ok (.getfield 30, 3) := by decide +kernel
theorem dX11_known_79 : decode cX11_known 79 = .ok (.iload_n 3, 1) := by decide +kernel
theorem dX11_known_80 : decode cX11_known 80 = .ok (.invokevirtual 335, 3) := by decide +kernel
theorem dX11_known_83 : decode cX11_known 83 = .ok (.ireturn, 1) := by decide +kernel
theorem dX11_known_84 : decode cX11_known 84 = .ok (.aload_n 0, 1) := by decide +kernel
theorem dX11_known_85 : decode cX11_known 85 = .ok (.getfield 46, 3) := by decide +kernel
theorem dX11_known_88 : decode cX11_known 88 = .ok (.aload 4, 2) := by decide +kernel
theorem dX11_known_90 : decode cX11_known 90 = .ok (.invokevirtual 338, 3) := by decide +kernel
theorem dX11_known_93 : decode cX11_known 93 = .ok (.aload_n 0, 1) := by decide +kernel
theorem dX11_known_94 : decode cX11_known 94 = .ok (.getfield 46, 3) := by decide +kernel
theorem dX11_known_97 : decode cX11_known 97 = .ok (.getfield 240, 3) := by decide +kernel
theorem dX11_known_100 : decode cX11_known 100 = .ok (.ireturn, 1) := by decide +kernel
theorem dX11_count_0 : decode cX11_count 0 = .ok (.iload_n 1, 1) := by decide +kernel
theorem dX11_count_1 : decode cX11_count 1 = .ok (.ifCond .lt 8, 3) := by decide +kernel
theorem dX11_count_4 : decode cX11_count 4 = .ok (.iload_n 1, 1) := by decide +kernel
theorem dX11_count_5 : decode cX11_count 5 = .ok (.iconst 4, 1) := by decide +kernel
theorem dX11_count_6 : decode cX11_count 6 = .ok (.if_icmp .lt 8, 3) := by decide +kernel
theorem dX11_count_9 : decode cX11_count 9 = .ok (.bipush (-2), 2) := by decide +kernel
theorem dX11_count_11 : decode cX11_count 11 = .ok (.goto 12, 3) := by decide +kernel
theorem dX11_count_14 : decode cX11_count 14 = .ok (.aload_n 0, 1) := by decide +kernel
theorem dX11_count_15 : decode cX11_count 15 = .ok (.getfield 10, 3) := by decide +kernel
theorem dX11_count_18 : decode cX11_count 18 = .ok (.getfield 78, 3) := by decide +kernel
theorem dX11_count_21 : decode cX11_count 21 = .ok (.iload_n 1, 1) := by decide +kernel
theorem dX11_count_22 : decode cX11_count 22 = .ok (.iaload, 1) := by decide +kernel
theorem dX11_count_23 : decode cX11_count 23 = .ok (.ireturn, 1) := by decide +kernel
section
variable {p : Program} {l : Launch} {e : Env} {s : State} {m : MethodId} {args : Array Value} {below : List Frame} {meth : Method} {c : Code} {G : GG} {K : SK}
set_option maxHeartbeats 4000000 in
set_option maxRecDepth 100000 in
theorem tX11_feed (l : Launch) (G : GG) {K : SK} (hL : Lay K) (M : MM) (x1 : Int32) (x2 : Int32) (x3 : Int32) (x4 : Int32) (x5 : Int32) (pp : (Int32 × MM)) (hf : fX11_feed M x1 x2 x3 x4 x5 = some pp) : Ct l yX11_feed cX11_feed 6 (some .int) 1 0 0 G K M [.ref (G.1 + 0), .int x1, .int x2, .int x3, .int x4, .int x5] (some (.int pp.1)) K pp.2 := by
  refine z_enter (lv := [(0, .ref (G.1 + 0)), (1, .int x1), (2, .int x2), (3, .int x3), (4, .int x4), (5, .int x5)]) (by decide +kernel) (Nat.le_of_ble_eq_true rfl) rfl ?_
  intro p e s m args below meth c C hnm hs0
  replace C : CX p s m args meth c cX11_feed 6 (some .int) RX11 G := C
  unfold fX11_feed at hf
  refine z_aload_n C 0 0 dX11_feed_0 rfl rfl ?_
  refine z_getR C ok_X11 (lay_c0 hL) 0 (1) (by decide) rfl (lay_r0_0 hL) q_fl_X11_10 dX11_feed_1 ?_
  refine z_getI C ok_X9 (lay_c1 hL) 6 (by decide) rfl q_fl_X11_64 dX11_feed_4 ?_
  refine z_bipush C 20 dX11_feed_7 (by decide) ?_
  refine z_iadd C dX11_feed_9 ?_
  refine z_sipush C 600 dX11_feed_10 (by decide) ?_
  refine z_icmp_le C 18 dX11_feed_13 (by decide) (fun c1 => ?_) (fun c1 => ?_)
  · replace hf := ite_t c1 hf
    refine z_aload_n C 0 0 dX11_feed_18 rfl rfl ?_
    refine z_getR C ok_X11 (lay_c0 hL) 0 (1) (by decide) rfl (lay_r0_0 hL) q_fl_X11_10 dX11_feed_19 ?_
    refine z_iload_n C 1 1 dX11_feed_22 rfl rfl ?_
    replace hf := bd_out hf
    obtain ⟨p2, e3, hf⟩ := hf
    refine z_cV0 C [] (tX9_addBytes l G hL M x1 _ e3) lk_X9_addBytes ok_X9 (lay_c1 hL) q_ml_X11_68 rfl ⟨Nat.le_of_ble_eq_true rfl, Nat.le_of_ble_eq_true rfl⟩ rfl (Nat.le_of_ble_eq_true rfl) ⟨Nat.le_refl _, Nat.le_refl _⟩ dX11_feed_23 ?_
    refine z_aload_n C 0 0 dX11_feed_26 rfl rfl ?_
    refine z_getR C ok_X11 (lay_c0 hL) 0 (1) (by decide) rfl (lay_r0_0 hL) q_fl_X11_10 dX11_feed_27 ?_
    refine z_iload_n C 2 2 dX11_feed_30 rfl rfl ?_
    replace hf := bd_out hf
    obtain ⟨p4, e5, hf⟩ := hf
    refine z_cV0 C [] (tX9_addBytes l G hL p2 x2 _ e5) lk_X9_addBytes ok_X9 (lay_c1 hL) q_ml_X11_68 rfl ⟨Nat.le_of_ble_eq_true rfl, Nat.le_of_ble_eq_true rfl⟩ rfl (Nat.le_of_ble_eq_true rfl) ⟨Nat.le_refl _, Nat.le_refl _⟩ dX11_feed_31 ?_
    refine z_aload_n C 0 0 dX11_feed_34 rfl rfl ?_
    refine z_getR C ok_X11 (lay_c0 hL) 0 (1) (by decide) rfl (lay_r0_0 hL) q_fl_X11_10 dX11_feed_35 ?_
    refine z_iload_n C 3 3 dX11_feed_38 rfl rfl ?_
    replace hf := bd_out hf
    obtain ⟨p6, e7, hf⟩ := hf
    refine z_cV0 C [] (tX9_addBytes l G hL p4 x3 _ e7) lk_X9_addBytes ok_X9 (lay_c1 hL) q_ml_X11_68 rfl ⟨Nat.le_of_ble_eq_true rfl, Nat.le_of_ble_eq_true rfl⟩ rfl (Nat.le_of_ble_eq_true rfl) ⟨Nat.le_refl _, Nat.le_refl _⟩ dX11_feed_39 ?_
    refine z_aload_n C 0 0 dX11_feed_42 rfl rfl ?_
    refine z_getR C ok_X11 (lay_c0 hL) 0 (1) (by decide) rfl (lay_r0_0 hL) q_fl_X11_10 dX11_feed_43 ?_
    refine z_iload C 4 dX11_feed_46 rfl ?_
    replace hf := bd_out hf
    obtain ⟨p8, e9, hf⟩ := hf
    refine z_cV0 C [] (tX9_addBytes l G hL p6 x4 _ e9) lk_X9_addBytes ok_X9 (lay_c1 hL) q_ml_X11_68 rfl ⟨Nat.le_of_ble_eq_true rfl, Nat.le_of_ble_eq_true rfl⟩ rfl (Nat.le_of_ble_eq_true rfl) ⟨Nat.le_refl _, Nat.le_refl _⟩ dX11_feed_48 ?_
    refine z_aload_n C 0 0 dX11_feed_51 rfl rfl ?_
    refine z_getR C ok_X11 (lay_c0 hL) 0 (1) (by decide) rfl (lay_r0_0 hL) q_fl_X11_10 dX11_feed_52 ?_
    refine z_iload C 5 dX11_feed_55 rfl ?_
    replace hf := bd_out hf
    obtain ⟨p10, e11, hf⟩ := hf
    refine z_cV0 C [] (tX9_addBytes l G hL p8 x5 _ e11) lk_X9_addBytes ok_X9 (lay_c1 hL) q_ml_X11_68 rfl ⟨Nat.le_of_ble_eq_true rfl, Nat.le_of_ble_eq_true rfl⟩ rfl (Nat.le_of_ble_eq_true rfl) ⟨Nat.le_refl _, Nat.le_refl _⟩ dX11_feed_57 ?_
    refine z_aload_n C 0 0 dX11_feed_60 rfl rfl ?_
    refine z_getR C ok_X11 (lay_c0 hL) 0 (1) (by decide) rfl (lay_r0_0 hL) q_fl_X11_10 dX11_feed_61 ?_
    refine z_getI C ok_X9 (lay_c1 hL) 6 (by decide) rfl q_fl_X11_64 dX11_feed_64 ?_
    cases hf
    exact z_iret C rfl dX11_feed_67
  · replace hf := ite_f c1 hf
    refine z_iconst C (-1) dX11_feed_16 (by decide) ?_
    cases hf
    exact z_iret C rfl dX11_feed_17
set_option maxHeartbeats 4000000 in
set_option maxRecDepth 100000 in
theorem tX11_end (l : Launch) (G : GG) {K : SK} (hL : Lay K) (M : MM) (x1 : Int32) (pp : (Int32 × MM)) (hf : fX11_end M x1 = some pp) : Ct l yX11_end cX11_end 2 (some .int) 0 0 0 G K M [.ref (G.1 + 0), .int x1] (some (.int pp.1)) K pp.2 := by
  refine z_enter (lv := [(0, .ref (G.1 + 0)), (1, .int x1)]) (by decide +kernel) (Nat.le_of_ble_eq_true rfl) rfl ?_
  intro p e s m args below meth c C hnm hs0
  replace C : CX p s m args meth c cX11_end 2 (some .int) RX11 G := C
  unfold fX11_end at hf
  refine z_iload_n C 1 1 dX11_end_0 rfl rfl ?_
  refine z_if_lt C 15 dX11_end_1 (by decide) (fun c1 => ?_) (fun c1 => ?_)
  · replace hf := ite_t c1 hf
    refine z_iconst C (-1) dX11_end_15 (by decide) ?_
    cases hf
    exact z_iret C rfl dX11_end_16
  · replace hf := ite_f c1 hf
    refine z_iload_n C 1 1 dX11_end_4 rfl rfl ?_
    refine z_aload_n C 0 0 dX11_end_5 rfl rfl ?_
    refine z_getR C ok_X11 (lay_c0 hL) 0 (1) (by decide) rfl (lay_r0_0 hL) q_fl_X11_10 dX11_end_6 ?_
    refine z_getI C ok_X9 (lay_c1 hL) 6 (by decide) rfl q_fl_X11_64 dX11_end_9 ?_
    refine z_icmp_le C 17 dX11_end_12 (by decide) (fun c2 => ?_) (fun c2 => ?_)
    · replace hf := ite_t c2 hf
      refine z_aload_n C 0 0 dX11_end_17 rfl rfl ?_
      refine z_getR C ok_X11 (lay_c0 hL) 0 (1) (by decide) rfl (lay_r0_0 hL) q_fl_X11_10 dX11_end_18 ?_
      refine z_iload_n C 1 1 dX11_end_21 rfl rfl ?_
      refine z_putI C ok_X9 (lay_c1 hL) 6 (by decide) rfl rfl rfl rfl q_fl_X11_64 dX11_end_22 ?_
      refine z_M (fun M3 e4 => ?_)
      replace hf := bnd_out e4 hf
      refine z_iload_n C 1 1 dX11_end_25 rfl rfl ?_
      cases hf
      exact z_iret C rfl dX11_end_26
    · replace hf := ite_f c2 hf
      refine z_iconst C (-1) dX11_end_15 (by decide) ?_
      cases hf
      exact z_iret C rfl dX11_end_16
set_option maxHeartbeats 4000000 in
set_option maxRecDepth 100000 in
theorem wX11_keepDraft_j71 (C : CX p s m args meth c cX11_keepDraft 3 none RX11 G) (hs0 : s.heap.size = G.1 + K.1) (hL : Lay K)   (pp : MM)  (M10 : MM) (y11 : Int32) (y12 : Int32) (hf : fX11_keepDraft_j71 M10 y11 y12 = some pp) : Z p l e (rmo 2 0 0) s m args below meth c 3 G (MQ below (QC G none K pp) args s 0 0 (AG G)) K 0 0 M10 71 [(0, .ref (G.1 + 0)), (1, .int y11), (2, .int y12)] [] := by
  unfold fX11_keepDraft_j71 at hf
  refine z_iload_n C 1 1 dX11_keepDraft_71 rfl rfl ?_
  refine z_iconst C 3 dX11_keepDraft_72 (by decide) ?_
  refine z_icmp_ne C 95 dX11_keepDraft_73 (by decide) (fun c13 => ?_) (fun c13 => ?_)
  · replace hf := ite_f c13 hf
    cases hf
    exact z_vret C rfl dX11_keepDraft_95
  · replace hf := ite_t c13 hf
    refine z_aload_n C 0 0 dX11_keepDraft_76 rfl rfl ?_
    refine z_getR C ok_X11 (lay_c0 hL) 0 (1) (by decide) rfl (lay_r0_0 hL) q_fl_X11_10 dX11_keepDraft_77 ?_
    refine z_getR C ok_X9 (lay_c1 hL) 4 (6) (by decide) rfl (lay_r1_4 hL) q_fl_X11_136 dX11_keepDraft_80 ?_
    refine z_iload_n C 2 2 dX11_keepDraft_83 rfl rfl ?_
    replace hf := gd_out hf
    obtain ⟨g14, hf⟩ := hf
    refine z_aaldR C 7 RX8 (lay_c6 hL) (by decide) rfl (inb_in g14) (Td_sights (lay_Td1 hL) (inb_in g14)).1 dX11_keepDraft_84 ?_
    refine z_aload_n C 0 0 dX11_keepDraft_85 rfl rfl ?_
    refine z_getR C ok_X11 (lay_c0 hL) 2 (41) (by decide) rfl (lay_r0_2 hL) q_fl_X11_23 dX11_keepDraft_86 ?_
    refine z_getR C ok_X7 (lay_c41 hL) 3 (56) (by decide) rfl (lay_r41_3 hL) q_fl_X11_140 dX11_keepDraft_89 ?_
    replace hf := bd_out hf
    obtain ⟨p15, e16, hf⟩ := hf
    refine z_cV0 C [] (tX8_copyFrom l G hL M10 (1 + (20 + 16 * ix y12)) (Td_sights (lay_Td1 hL) (inb_in g14)).2 56 (lay_Sg56 hL) _ e16) lk_X8_copyFrom ok_X8 (Sg_o (Td_sights (lay_Td1 hL) (inb_in g14)).2) q_ml_X11_144 rfl ⟨Nat.le_of_ble_eq_true rfl, Nat.le_of_ble_eq_true rfl⟩ rfl (Nat.le_of_ble_eq_true rfl) ⟨Nat.le_refl _, Nat.le_refl _⟩ dX11_keepDraft_92 ?_
    cases hf
    exact z_vret C rfl dX11_keepDraft_95
set_option maxHeartbeats 4000000 in
set_option maxRecDepth 100000 in
theorem wX11_keepDraft_j47 (C : CX p s m args meth c cX11_keepDraft 3 none RX11 G) (hs0 : s.heap.size = G.1 + K.1) (hL : Lay K)   (pp : MM)  (M6 : MM) (y7 : Int32) (y8 : Int32) (hf : fX11_keepDraft_j47 M6 y7 y8 = some pp) : Z p l e (rmo 2 0 0) s m args below meth c 3 G (MQ below (QC G none K pp) args s 0 0 (AG G)) K 0 0 M6 47 [(0, .ref (G.1 + 0)), (1, .int y7), (2, .int y8)] [] := by
  unfold fX11_keepDraft_j47 at hf
  refine z_iload_n C 1 1 dX11_keepDraft_47 rfl rfl ?_
  refine z_iconst C 2 dX11_keepDraft_48 (by decide) ?_
  refine z_icmp_ne C 71 dX11_keepDraft_49 (by decide) (fun c9 => ?_) (fun c9 => ?_)
  · replace hf := ite_f c9 hf
    exact wX11_keepDraft_j71 C hs0 hL pp M6 y7 y8 hf
  · replace hf := ite_t c9 hf
    refine z_aload_n C 0 0 dX11_keepDraft_52 rfl rfl ?_
    refine z_getR C ok_X11 (lay_c0 hL) 0 (1) (by decide) rfl (lay_r0_0 hL) q_fl_X11_10 dX11_keepDraft_53 ?_
    refine z_getR C ok_X9 (lay_c1 hL) 3 (5) (by decide) rfl (lay_r1_3 hL) q_fl_X11_123 dX11_keepDraft_56 ?_
    refine z_iload_n C 2 2 dX11_keepDraft_59 rfl rfl ?_
    replace hf := gd_out hf
    obtain ⟨g17, hf⟩ := hf
    refine z_aaldR C 6 RX2 (lay_c5 hL) (by decide) rfl (inb_in g17) (Td_evenings (lay_Td1 hL) (inb_in g17)).1 dX11_keepDraft_60 ?_
    refine z_aload_n C 0 0 dX11_keepDraft_61 rfl rfl ?_
    refine z_getR C ok_X11 (lay_c0 hL) 2 (41) (by decide) rfl (lay_r0_2 hL) q_fl_X11_23 dX11_keepDraft_62 ?_
    refine z_getR C ok_X7 (lay_c41 hL) 2 (52) (by decide) rfl (lay_r41_2 hL) q_fl_X11_127 dX11_keepDraft_65 ?_
    replace hf := bd_out hf
    obtain ⟨p18, e19, hf⟩ := hf
    refine z_cV0 C [] (tX2_copyFrom l G hL M6 (1 + (16 + 16 * ix y8)) (Td_evenings (lay_Td1 hL) (inb_in g17)).2 52 (lay_Ev52 hL) _ e19) lk_X2_copyFrom ok_X2 (Ev_o (Td_evenings (lay_Td1 hL) (inb_in g17)).2) q_ml_X11_131 rfl ⟨Nat.le_of_ble_eq_true rfl, Nat.le_of_ble_eq_true rfl⟩ rfl (Nat.le_of_ble_eq_true rfl) ⟨Nat.le_refl _, Nat.le_refl _⟩ dX11_keepDraft_68 ?_
    exact wX11_keepDraft_j71 C hs0 hL pp p18 y7 y8 hf
set_option maxHeartbeats 4000000 in
set_option maxRecDepth 100000 in
theorem wX11_keepDraft_j23 (C : CX p s m args meth c cX11_keepDraft 3 none RX11 G) (hs0 : s.heap.size = G.1 + K.1) (hL : Lay K)   (pp : MM)  (M2 : MM) (y3 : Int32) (y4 : Int32) (hf : fX11_keepDraft_j23 M2 y3 y4 = some pp) : Z p l e (rmo 2 0 0) s m args below meth c 3 G (MQ below (QC G none K pp) args s 0 0 (AG G)) K 0 0 M2 23 [(0, .ref (G.1 + 0)), (1, .int y3), (2, .int y4)] [] := by
  unfold fX11_keepDraft_j23 at hf
  refine z_iload_n C 1 1 dX11_keepDraft_23 rfl rfl ?_
  refine z_iconst C 1 dX11_keepDraft_24 (by decide) ?_
  refine z_icmp_ne C 47 dX11_keepDraft_25 (by decide) (fun c5 => ?_) (fun c5 => ?_)
  · replace hf := ite_f c5 hf
    exact wX11_keepDraft_j47 C hs0 hL pp M2 y3 y4 hf
  · replace hf := ite_t c5 hf
    refine z_aload_n C 0 0 dX11_keepDraft_28 rfl rfl ?_
    refine z_getR C ok_X11 (lay_c0 hL) 0 (1) (by decide) rfl (lay_r0_0 hL) q_fl_X11_10 dX11_keepDraft_29 ?_
    refine z_getR C ok_X9 (lay_c1 hL) 2 (4) (by decide) rfl (lay_r1_2 hL) q_fl_X11_110 dX11_keepDraft_32 ?_
    refine z_iload_n C 2 2 dX11_keepDraft_35 rfl rfl ?_
    replace hf := gd_out hf
    obtain ⟨g20, hf⟩ := hf
    refine z_aaldR C 5 RX4 (lay_c4 hL) (by decide) rfl (inb_in g20) (Td_laws (lay_Td1 hL) (inb_in g20)).1 dX11_keepDraft_36 ?_
    refine z_aload_n C 0 0 dX11_keepDraft_37 rfl rfl ?_
    refine z_getR C ok_X11 (lay_c0 hL) 2 (41) (by decide) rfl (lay_r0_2 hL) q_fl_X11_23 dX11_keepDraft_38 ?_
    refine z_getR C ok_X7 (lay_c41 hL) 1 (51) (by decide) rfl (lay_r41_1 hL) q_fl_X11_114 dX11_keepDraft_41 ?_
    replace hf := bd_out hf
    obtain ⟨p21, e22, hf⟩ := hf
    refine z_cV0 C [] (tX4_copyFrom l G hL M2 (1 + (15 + 16 * ix y4)) (Td_laws (lay_Td1 hL) (inb_in g20)).2 51 (lay_Lw51 hL) _ e22) lk_X4_copyFrom ok_X4 (Lw_o (Td_laws (lay_Td1 hL) (inb_in g20)).2) q_ml_X11_118 rfl ⟨Nat.le_of_ble_eq_true rfl, Nat.le_of_ble_eq_true rfl⟩ rfl (Nat.le_of_ble_eq_true rfl) ⟨Nat.le_refl _, Nat.le_refl _⟩ dX11_keepDraft_44 ?_
    exact wX11_keepDraft_j47 C hs0 hL pp p21 y3 y4 hf
set_option maxHeartbeats 4000000 in
set_option maxRecDepth 100000 in
theorem tX11_keepDraft (l : Launch) (G : GG) {K : SK} (hL : Lay K) (M : MM) (x1 : Int32) (x2 : Int32) (pp : MM) (hf : fX11_keepDraft M x1 x2 = some pp) : Ct l yX11_keepDraft cX11_keepDraft 3 none 2 0 0 G K M [.ref (G.1 + 0), .int x1, .int x2] none K pp := by
  refine z_enter (lv := [(0, .ref (G.1 + 0)), (1, .int x1), (2, .int x2)]) (by decide +kernel) (Nat.le_of_ble_eq_true rfl) rfl ?_
  intro p e s m args below meth c C hnm hs0
  replace C : CX p s m args meth c cX11_keepDraft 3 none RX11 G := C
  unfold fX11_keepDraft at hf
  refine z_iload_n C 1 1 dX11_keepDraft_0 rfl rfl ?_
  refine z_if_ne C 23 dX11_keepDraft_1 (by decide) (fun c1 => ?_) (fun c1 => ?_)
  · replace hf := ite_f c1 hf
    exact wX11_keepDraft_j23 C hs0 hL pp M x1 x2 hf
  · replace hf := ite_t c1 hf
    refine z_aload_n C 0 0 dX11_keepDraft_4 rfl rfl ?_
    refine z_getR C ok_X11 (lay_c0 hL) 0 (1) (by decide) rfl (lay_r0_0 hL) q_fl_X11_10 dX11_keepDraft_5 ?_
    refine z_getR C ok_X9 (lay_c1 hL) 1 (3) (by decide) rfl (lay_r1_1 hL) q_fl_X11_96 dX11_keepDraft_8 ?_
    refine z_iload_n C 2 2 dX11_keepDraft_11 rfl rfl ?_
    replace hf := gd_out hf
    obtain ⟨g23, hf⟩ := hf
    refine z_aaldR C 4 RX5 (lay_c3 hL) (by decide) rfl (inb_in g23) (Td_parishes (lay_Td1 hL) (inb_in g23)).1 dX11_keepDraft_12 ?_
    refine z_aload_n C 0 0 dX11_keepDraft_13 rfl rfl ?_
    refine z_getR C ok_X11 (lay_c0 hL) 2 (41) (by decide) rfl (lay_r0_2 hL) q_fl_X11_23 dX11_keepDraft_14 ?_
    refine z_getR C ok_X7 (lay_c41 hL) 0 (42) (by decide) rfl (lay_r41_0 hL) q_fl_X11_100 dX11_keepDraft_17 ?_
    replace hf := bd_out hf
    obtain ⟨p24, e25, hf⟩ := hf
    refine z_cV0 C [] (tX5_copyFrom l G hL M (1 + (6 + 16 * ix x2)) (Td_parishes (lay_Td1 hL) (inb_in g23)).2 42 (lay_Par42 hL) _ e25) lk_X5_copyFrom ok_X5 (Par_o (Td_parishes (lay_Td1 hL) (inb_in g23)).2) q_ml_X11_104 rfl ⟨Nat.le_of_ble_eq_true rfl, Nat.le_of_ble_eq_true rfl⟩ rfl (Nat.le_of_ble_eq_true rfl) ⟨Nat.le_refl _, Nat.le_refl _⟩ dX11_keepDraft_20 ?_
    exact wX11_keepDraft_j23 C hs0 hL pp p24 x1 x2 hf
set_option maxHeartbeats 4000000 in
set_option maxRecDepth 100000 in
theorem wX11_text_j186 (C : CX p s m args meth c cX11_text 7 (some .int) RX11 G) (hs0 : s.heap.size = G.1 + K.1) (hL : Lay K)   (pp : (Int32 × MM))  (M18 : MM) (y19 : Int32) (y20 : Int32) (hf : fX11_text_j186 M18 y19 y20 = some pp) : Z p l e (rmo 8 0 0) s m args below meth c 7 G (MQ below (QC G (some (.int pp.1)) K pp.2) args s 0 0 (AG G)) K 0 0 M18 186 [(0, .ref (G.1 + 0)), (1, .int y19), (6, .int y20)] [] := by
  unfold fX11_text_j186 at hf
  refine z_aload_n C 0 0 dX11_text_186 rfl rfl ?_
  refine z_iload_n C 1 1 dX11_text_187 rfl rfl ?_
  refine z_iload C 2 dX11_text_188 rfl ?_
  replace hf := bd_out hf
  obtain ⟨p21, e22, hf⟩ := hf
  refine z_cV0 C [] (tX11_keepDraft l G hL M18 y19 y20 _ e22) lk_X11_keepDraft ok_X11 (lay_c0 hL) q_ml_X11_92 rfl ⟨Nat.le_of_ble_eq_true rfl, Nat.le_of_ble_eq_true rfl⟩ rfl (Nat.le_of_ble_eq_true rfl) ⟨Nat.le_refl _, Nat.le_refl _⟩ dX11_text_190 ?_
  refine z_iload C 2 dX11_text_193 rfl ?_
  cases hf
  exact z_iret C rfl dX11_text_195
set_option maxHeartbeats 4000000 in
set_option maxRecDepth 100000 in
theorem wX11_text_j166 (C : CX p s m args meth c cX11_text 7 (some .int) RX11 G) (hs0 : s.heap.size = G.1 + K.1) (hL : Lay K)   (pp : (Int32 × MM))  (M12 : MM) (y13 : Int32) (y14 : Int32) (y15 : Int32) (y16 : Int32) (hf : fX11_text_j166 M12 y13 y14 y15 y16 = some pp) : Z p l e (rmo 8 0 0) s m args below meth c 7 G (MQ below (QC G (some (.int pp.1)) K pp.2) args s 0 0 (AG G)) K 0 0 M12 166 [(0, .ref (G.1 + 0)), (1, .int y13), (4, .int y14), (5, .int y15)] [.int y16] := by
  unfold fX11_text_j166 at hf
  refine z_istore C [(6, .int y16), (0, .ref (G.1 + 0)), (1, .int y13), (4, .int y14), (5, .int y15)] dX11_text_166 (by decide) rfl rfl ?_
  refine z_iload C 4 dX11_text_168 rfl ?_
  refine z_if_eq C 186 dX11_text_170 (by decide) (fun c17 => ?_) (fun c17 => ?_)
  · replace hf := ite_t c17 hf
    refine z_lv (lv2 := [(0, .ref (G.1 + 0)), (1, .int y13), (6, .int y16)]) [1, 2, 0] rfl ?_
    exact wX11_text_j186 C hs0 hL pp M12 y13 y16 hf
  · replace hf := ite_f c17 hf
    refine z_aload_n C 1 0 dX11_text_173 rfl rfl ?_
    refine z_getR C ok_X11 (lay_c0 hL) 0 (1) (by decide) rfl (lay_r0_0 hL) q_fl_X11_10 dX11_text_174 ?_
    refine z_getR C ok_X9 (lay_c1 hL) 0 (2) (by decide) rfl (lay_r1_0 hL) q_fl_X11_78 dX11_text_177 ?_
    refine z_iload_n C 2 1 dX11_text_180 rfl rfl ?_
    refine z_iload C 3 dX11_text_181 rfl ?_
    refine z_iconst C 1 dX11_text_183 (by decide) ?_
    refine z_iadd C dX11_text_184 ?_
    replace hf := gd_out hf
    obtain ⟨g23, hf⟩ := hf
    refine z_iast C (lay_c2 hL) (inb_in g23) dX11_text_185 ?_
    refine z_M (fun M24 e25 => ?_)
    replace hf := bnd_out e25 hf
    refine z_lv (lv2 := [(0, .ref (G.1 + 0)), (1, .int y13), (6, .int y16)]) [1, 2, 0] rfl ?_
    exact wX11_text_j186 C hs0 hL pp M24 y13 y16 hf
set_option maxHeartbeats 4000000 in
set_option maxRecDepth 100000 in
theorem wX11_text_j115 (C : CX p s m args meth c cX11_text 7 (some .int) RX11 G) (hs0 : s.heap.size = G.1 + K.1) (hL : Lay K)   (pp : (Int32 × MM))  (M1 : MM) (y2 : Int32) (y3 : Int32) (y4 : Int32) (y5 : Int32) (hf : fX11_text_j115 M1 y2 y3 y4 y5 = some pp) : Z p l e (rmo 8 0 0) s m args below meth c 7 G (MQ below (QC G (some (.int pp.1)) K pp.2) args s 0 0 (AG G)) K 0 0 M1 115 [(0, .ref (G.1 + 0)), (1, .int y2), (2, .int y3), (4, .int y4), (5, .int y5)] [] := by
  unfold fX11_text_j115 at hf
  refine z_aload_n C 0 0 dX11_text_115 rfl rfl ?_
  refine z_getR C ok_X11 (lay_c0 hL) 0 (1) (by decide) rfl (lay_r0_0 hL) q_fl_X11_10 dX11_text_116 ?_
  refine z_aload_n C 0 0 dX11_text_119 rfl rfl ?_
  refine z_getR C ok_X11 (lay_c0 hL) 2 (41) (by decide) rfl (lay_r0_2 hL) q_fl_X11_23 dX11_text_120 ?_
  refine z_getI C ok_X7 (lay_c41 hL) 4 (by decide) rfl q_fl_X11_90 dX11_text_123 ?_
  refine z_putI C ok_X9 (lay_c1 hL) 7 (by decide) rfl rfl rfl rfl q_fl_X11_72 dX11_text_126 ?_
  refine z_M (fun M6 e7 => ?_)
  replace hf := bnd_out e7 hf
  refine z_aload_n C 0 0 dX11_text_129 rfl rfl ?_
  refine z_getR C ok_X11 (lay_c0 hL) 0 (1) (by decide) rfl (lay_r0_0 hL) q_fl_X11_10 dX11_text_130 ?_
  refine z_aload_n C 0 0 dX11_text_133 rfl rfl ?_
  refine z_getR C ok_X11 (lay_c0 hL) 2 (41) (by decide) rfl (lay_r0_2 hL) q_fl_X11_23 dX11_text_134 ?_
  refine z_getI C ok_X7 (lay_c41 hL) 5 (by decide) rfl q_fl_X11_91 dX11_text_137 ?_
  refine z_putI C ok_X9 (lay_c1 hL) 8 (by decide) rfl rfl rfl rfl q_fl_X11_75 dX11_text_140 ?_
  refine z_M (fun M8 e9 => ?_)
  replace hf := bnd_out e9 hf
  refine z_aload_n C 0 0 dX11_text_143 rfl rfl ?_
  refine z_getR C ok_X11 (lay_c0 hL) 2 (41) (by decide) rfl (lay_r0_2 hL) q_fl_X11_23 dX11_text_144 ?_
  refine z_getI C ok_X7 (lay_c41 hL) 4 (by decide) rfl q_fl_X11_90 dX11_text_147 ?_
  refine z_if_eq C 155 dX11_text_150 (by decide) (fun c10 => ?_) (fun c10 => ?_)
  · replace hf := ite_t c10 hf
    refine z_iload C 4 dX11_text_155 rfl ?_
    refine z_if_eq C 165 dX11_text_157 (by decide) (fun c11 => ?_) (fun c11 => ?_)
    · replace hf := ite_t c11 hf
      refine z_iload_n C 2 2 dX11_text_165 rfl rfl ?_
      refine z_lv (lv2 := [(0, .ref (G.1 + 0)), (1, .int y2), (4, .int y4), (5, .int y5)]) [0, 1, 3, 4] rfl ?_
      exact wX11_text_j166 C hs0 hL pp M8 y2 y4 y5 y3 hf
    · replace hf := ite_f c11 hf
      refine z_iload C 3 dX11_text_160 rfl ?_
      refine z_goto C 166 dX11_text_162 (by decide) ?_
      refine z_lv (lv2 := [(0, .ref (G.1 + 0)), (1, .int y2), (4, .int y4), (5, .int y5)]) [0, 1, 3, 4] rfl ?_
      exact wX11_text_j166 C hs0 hL pp M8 y2 y4 y5 y4 hf
  · replace hf := ite_f c10 hf
    refine z_iconst C (-1) dX11_text_153 (by decide) ?_
    cases hf
    exact z_iret C rfl dX11_text_154
set_option maxHeartbeats 4000000 in
set_option maxRecDepth 100000 in
theorem wX11_text_j99 (C : CX p s m args meth c cX11_text 7 (some .int) RX11 G) (hs0 : s.heap.size = G.1 + K.1) (hL : Lay K)   (pp : (Int32 × (MM × Bool)))  (M29 : MM) (y30 : Int32) (y31 : Int32) (y32 : Int32) (y33 : Int32) (y34 : Int32) (hf : fX11_text_j99 M29 y30 y31 y32 y33 y34 = some pp) : Z p l e (rmo 8 0 0) s m args below meth c 7 G (MQ below (QC G (some (.int pp.1)) (if pp.2.2 = true then kSet K 41 6 39 else K) pp.2.1) args s 0 0 (AG G)) K 0 0 M29 99 [(0, .ref (G.1 + 0)), (1, .int y30), (2, .int y31), (3, .int y32), (4, .int y33), (5, .int y34)] [] := by
  unfold fX11_text_j99 at hf
  refine z_aload_n C 0 0 dX11_text_99 rfl rfl ?_
  refine z_getR C ok_X11 (lay_c0 hL) 2 (41) (by decide) rfl (lay_r0_2 hL) q_fl_X11_23 dX11_text_100 ?_
  refine z_aload_n C 0 0 dX11_text_103 rfl rfl ?_
  refine z_getR C ok_X11 (lay_c0 hL) 0 (1) (by decide) rfl (lay_r0_0 hL) q_fl_X11_10 dX11_text_104 ?_
  refine z_getR C ok_X9 (lay_c1 hL) 5 (39) (by decide) rfl (lay_r1_5 hL) q_fl_X11_82 dX11_text_107 ?_
  refine z_iload_n C 3 3 dX11_text_110 rfl rfl ?_
  refine z_iload_n C 1 1 dX11_text_111 rfl rfl ?_
  replace hf := bd_out hf
  obtain ⟨p35, e36, hf⟩ := hf
  refine z_callV C [] (tX7_read l G hL M29 y32 y30 _ e36) lk_X7_read ok_X7 (lay_c41 hL) q_ml_X11_86 rfl ⟨Nat.le_of_ble_eq_true rfl, Nat.le_of_ble_eq_true rfl⟩ rfl (Nat.le_of_ble_eq_true rfl) ⟨Nat.le_refl _, Nat.le_refl _⟩ dX11_text_112 ?_
  replace hf := bd_out hf
  obtain ⟨q37, e38, hf⟩ := hf
  cases hf
  refine z_lv (lv2 := [(0, .ref (G.1 + 0)), (1, .int y30), (2, .int y31), (4, .int y33), (5, .int y34)]) [0, 1, 2, 4, 5] rfl ?_
  exact wX11_text_j115 C (K := kSet K 41 6 39) hs0 (lay_set hL) q37 p35 y30 y31 y33 y34 e38
set_option maxHeartbeats 4000000 in
set_option maxRecDepth 100000 in
theorem wX11_text_j81 (C : CX p s m args meth c cX11_text 7 (some .int) RX11 G) (hs0 : s.heap.size = G.1 + K.1) (hL : Lay K)   (pp : (Int32 × (MM × Bool)))  (M22 : MM) (y23 : Int32) (y24 : Int32) (y25 : Int32) (y26 : Int32) (y27 : Int32) (hf : fX11_text_j81 M22 y23 y24 y25 y26 y27 = some pp) : Z p l e (rmo 8 0 0) s m args below meth c 7 G (MQ below (QC G (some (.int pp.1)) (if pp.2.2 = true then kSet K 41 6 39 else K) pp.2.1) args s 0 0 (AG G)) K 0 0 M22 81 [(0, .ref (G.1 + 0)), (1, .int y23), (2, .int y24), (3, .int y25), (4, .int y26), (5, .int y27)] [] := by
  unfold fX11_text_j81 at hf
  refine z_iload C 5 dX11_text_81 rfl ?_
  refine z_if_ne C 99 dX11_text_83 (by decide) (fun c28 => ?_) (fun c28 => ?_)
  · replace hf := ite_f c28 hf
    exact wX11_text_j99 C hs0 hL pp M22 y23 y24 y25 y26 y27 hf
  · replace hf := ite_t c28 hf
    refine z_iload_n C 2 2 dX11_text_86 rfl rfl ?_
    refine z_if_lt C 96 dX11_text_87 (by decide) (fun c39 => ?_) (fun c39 => ?_)
    · replace hf := ite_t c39 hf
      refine z_bipush C (-2) dX11_text_96 (by decide) ?_
      cases hf
      exact z_iret C rfl dX11_text_98
    · replace hf := ite_f c39 hf
      refine z_iload_n C 2 2 dX11_text_90 rfl rfl ?_
      refine z_iload C 4 dX11_text_91 rfl ?_
      refine z_icmp_lt C 99 dX11_text_93 (by decide) (fun c40 => ?_) (fun c40 => ?_)
      · replace hf := ite_t c40 hf
        exact wX11_text_j99 C hs0 hL pp M22 y23 y24 y25 y26 y27 hf
      · replace hf := ite_f c40 hf
        refine z_bipush C (-2) dX11_text_96 (by decide) ?_
        cases hf
        exact z_iret C rfl dX11_text_98
set_option maxHeartbeats 4000000 in
set_option maxRecDepth 100000 in
theorem wX11_text_j65 (C : CX p s m args meth c cX11_text 7 (some .int) RX11 G) (hs0 : s.heap.size = G.1 + K.1) (hL : Lay K)   (pp : (Int32 × (MM × Bool)))  (M15 : MM) (y16 : Int32) (y17 : Int32) (y18 : Int32) (y19 : Int32) (y20 : Int32) (hf : fX11_text_j65 M15 y16 y17 y18 y19 y20 = some pp) : Z p l e (rmo 8 0 0) s m args below meth c 7 G (MQ below (QC G (some (.int pp.1)) (if pp.2.2 = true then kSet K 41 6 39 else K) pp.2.1) args s 0 0 (AG G)) K 0 0 M15 65 [(0, .ref (G.1 + 0)), (1, .int y16), (2, .int y17), (3, .int y18), (4, .int y19)] [.int y20] := by
  unfold fX11_text_j65 at hf
  refine z_istore C [(5, .int y20), (0, .ref (G.1 + 0)), (1, .int y16), (2, .int y17), (3, .int y18), (4, .int y19)] dX11_text_65 (by decide) rfl rfl ?_
  refine z_iload C 0 dX11_text_67 rfl ?_
  refine z_if_eq C 81 dX11_text_69 (by decide) (fun c21 => ?_) (fun c21 => ?_)
  · replace hf := ite_t c21 hf
    refine z_lv (lv2 := [(0, .ref (G.1 + 0)), (1, .int y16), (2, .int y17), (3, .int y18), (4, .int y19), (5, .int y20)]) [1, 2, 3, 4, 5, 0] rfl ?_
    exact wX11_text_j81 C hs0 hL pp M15 y16 y17 y18 y19 y20 hf
  · replace hf := ite_f c21 hf
    refine z_iload C 5 dX11_text_72 rfl ?_
    refine z_iconst C 2 dX11_text_74 (by decide) ?_
    refine z_icmp_lt C 81 dX11_text_75 (by decide) (fun c41 => ?_) (fun c41 => ?_)
    · replace hf := ite_t c41 hf
      refine z_lv (lv2 := [(0, .ref (G.1 + 0)), (1, .int y16), (2, .int y17), (3, .int y18), (4, .int y19), (5, .int y20)]) [1, 2, 3, 4, 5, 0] rfl ?_
      exact wX11_text_j81 C hs0 hL pp M15 y16 y17 y18 y19 y20 hf
    · replace hf := ite_f c41 hf
      refine z_bipush C (-2) dX11_text_78 (by decide) ?_
      cases hf
      exact z_iret C rfl dX11_text_80
set_option maxHeartbeats 4000000 in
set_option maxRecDepth 100000 in
theorem tX11_text (l : Launch) (G : GG) {K : SK} (hL : Lay K) (M : MM) (x1 : Int32) (x2 : Int32) (pp : (Int32 × (MM × Bool))) (hf : fX11_text M x1 x2 = some pp) : Ct l yX11_text cX11_text 7 (some .int) 8 0 0 G K M [.ref (G.1 + 0), .int x1, .int x2] (some (.int pp.1)) (if pp.2.2 = true then kSet K 41 6 39 else K) pp.2.1 := by
  refine z_enter (lv := [(0, .ref (G.1 + 0)), (1, .int x1), (2, .int x2)]) (by decide +kernel) (Nat.le_of_ble_eq_true rfl) rfl ?_
  intro p e s m args below meth c C hnm hs0
  replace C : CX p s m args meth c cX11_text 7 (some .int) RX11 G := C
  unfold fX11_text at hf
  refine z_aload_n C 0 0 dX11_text_0 rfl rfl ?_
  refine z_getR C ok_X11 (lay_c0 hL) 0 (1) (by decide) rfl (lay_r0_0 hL) q_fl_X11_10 dX11_text_1 ?_
  refine z_getI C ok_X9 (lay_c1 hL) 6 (by decide) rfl q_fl_X11_64 dX11_text_4 ?_
  refine z_topi (fun v1 e2 => ?_)
  replace hf := bnd_out e2 hf
  refine z_istore_n C [(3, .int v1), (0, .ref (G.1 + 0)), (1, .int x1), (2, .int x2)] dX11_text_7 rfl (by decide) rfl rfl ?_
  refine z_aload_n C 1 0 dX11_text_8 rfl rfl ?_
  refine z_getR C ok_X11 (lay_c0 hL) 0 (1) (by decide) rfl (lay_r0_0 hL) q_fl_X11_10 dX11_text_9 ?_
  refine z_iconst C 0 dX11_text_12 (by decide) ?_
  refine z_putI C ok_X9 (lay_c1 hL) 6 (by decide) rfl rfl rfl rfl q_fl_X11_64 dX11_text_13 ?_
  refine z_M (fun M3 e4 => ?_)
  replace hf := bnd_out e4 hf
  refine z_aload_n C 1 0 dX11_text_16 rfl rfl ?_
  refine z_getR C ok_X11 (lay_c0 hL) 0 (1) (by decide) rfl (lay_r0_0 hL) q_fl_X11_10 dX11_text_17 ?_
  refine z_iconst C 0 dX11_text_20 (by decide) ?_
  refine z_putI C ok_X9 (lay_c1 hL) 7 (by decide) rfl rfl rfl rfl q_fl_X11_72 dX11_text_21 ?_
  refine z_M (fun M5 e6 => ?_)
  replace hf := bnd_out e6 hf
  refine z_aload_n C 1 0 dX11_text_24 rfl rfl ?_
  refine z_getR C ok_X11 (lay_c0 hL) 0 (1) (by decide) rfl (lay_r0_0 hL) q_fl_X11_10 dX11_text_25 ?_
  refine z_iconst C (-1) dX11_text_28 (by decide) ?_
  refine z_putI C ok_X9 (lay_c1 hL) 8 (by decide) rfl rfl rfl rfl q_fl_X11_75 dX11_text_29 ?_
  refine z_M (fun M7 e8 => ?_)
  replace hf := bnd_out e8 hf
  refine z_iload_n C 2 1 dX11_text_32 rfl rfl ?_
  refine z_if_lt C 41 dX11_text_33 (by decide) (fun c9 => ?_) (fun c9 => ?_)
  · replace hf := ite_t c9 hf
    refine z_bipush C (-2) dX11_text_41 (by decide) ?_
    cases hf
    exact z_iret C rfl dX11_text_43
  · replace hf := ite_f c9 hf
    refine z_iload_n C 2 1 dX11_text_36 rfl rfl ?_
    refine z_iconst C 4 dX11_text_37 (by decide) ?_
    refine z_icmp_lt C 44 dX11_text_38 (by decide) (fun c10 => ?_) (fun c10 => ?_)
    · replace hf := ite_t c10 hf
      refine z_aload_n C 1 0 dX11_text_44 rfl rfl ?_
      refine z_getR C ok_X11 (lay_c0 hL) 0 (1) (by decide) rfl (lay_r0_0 hL) q_fl_X11_10 dX11_text_45 ?_
      refine z_getR C ok_X9 (lay_c1 hL) 0 (2) (by decide) rfl (lay_r1_0 hL) q_fl_X11_78 dX11_text_48 ?_
      refine z_iload_n C 2 1 dX11_text_51 rfl rfl ?_
      replace hf := gd_out hf
      obtain ⟨g11, hf⟩ := hf
      refine z_iald C (lay_c2 hL) (inb_in g11) dX11_text_52 ?_
      refine z_topi (fun v12 e13 => ?_)
      replace hf := bnd_out e13 hf
      refine z_istore C [(4, .int v12), (3, .int v1), (0, .ref (G.1 + 0)), (1, .int x1), (2, .int x2)] dX11_text_53 (by decide) rfl rfl ?_
      refine z_iload_n C 4 2 dX11_text_55 rfl rfl ?_
      refine z_iconst C (-1) dX11_text_56 (by decide) ?_
      refine z_icmp_ne C 64 dX11_text_57 (by decide) (fun c14 => ?_) (fun c14 => ?_)
      · replace hf := ite_f c14 hf
        refine z_iconst C 0 dX11_text_64 (by decide) ?_
        refine z_lv (lv2 := [(0, .ref (G.1 + 0)), (1, .int x1), (2, .int x2), (3, .int v1), (4, .int v12)]) [2, 3, 4, 1, 0] rfl ?_
        exact wX11_text_j65 C hs0 hL pp M7 x1 x2 v1 v12 0 hf
      · replace hf := ite_t c14 hf
        refine z_iconst C 1 dX11_text_60 (by decide) ?_
        refine z_goto C 65 dX11_text_61 (by decide) ?_
        refine z_lv (lv2 := [(0, .ref (G.1 + 0)), (1, .int x1), (2, .int x2), (3, .int v1), (4, .int v12)]) [2, 3, 4, 1, 0] rfl ?_
        exact wX11_text_j65 C hs0 hL pp M7 x1 x2 v1 v12 1 hf
    · replace hf := ite_f c10 hf
      refine z_bipush C (-2) dX11_text_41 (by decide) ?_
      cases hf
      exact z_iret C rfl dX11_text_43
set_option maxHeartbeats 4000000 in
set_option maxRecDepth 100000 in
theorem tX11_fault (l : Launch) (G : GG) {K : SK} (hL : Lay K) (M : MM) (x1 : Int32) : Ct l yX11_fault cX11_fault 2 (some .int) 0 0 0 G K M [.ref (G.1 + 0), .int x1] (some (.int (fX11_fault M x1))) K M := by
  generalize hf : fX11_fault M x1 = pp
  refine z_enter (lv := [(0, .ref (G.1 + 0)), (1, .int x1)]) (by decide +kernel) (Nat.le_of_ble_eq_true rfl) rfl ?_
  intro p e s m args below meth c C hnm hs0
  replace C : CX p s m args meth c cX11_fault 2 (some .int) RX11 G := C
  unfold fX11_fault at hf
  refine z_iload_n C 1 1 dX11_fault_0 rfl rfl ?_
  refine z_if_ne C 12 dX11_fault_1 (by decide) (fun c1 => ?_) (fun c1 => ?_)
  · replace hf := ite_f c1 hf
    refine z_iload_n C 1 1 dX11_fault_12 rfl rfl ?_
    refine z_iconst C 1 dX11_fault_13 (by decide) ?_
    refine z_icmp_ne C 27 dX11_fault_14 (by decide) (fun c2 => ?_) (fun c2 => ?_)
    · replace hf := ite_f c2 hf
      refine z_iconst C (-1) dX11_fault_27 (by decide) ?_
      cases hf
      exact z_iret C rfl dX11_fault_28
    · replace hf := ite_t c2 hf
      refine z_aload_n C 0 0 dX11_fault_17 rfl rfl ?_
      refine z_getR C ok_X11 (lay_c0 hL) 0 (1) (by decide) rfl (lay_r0_0 hL) q_fl_X11_10 dX11_fault_18 ?_
      refine z_getI C ok_X9 (lay_c1 hL) 8 (by decide) rfl q_fl_X11_75 dX11_fault_21 ?_
      refine z_goto C 28 dX11_fault_24 (by decide) ?_
      cases hf
      exact z_iret C rfl dX11_fault_28
  · replace hf := ite_t c1 hf
    refine z_aload_n C 0 0 dX11_fault_4 rfl rfl ?_
    refine z_getR C ok_X11 (lay_c0 hL) 0 (1) (by decide) rfl (lay_r0_0 hL) q_fl_X11_10 dX11_fault_5 ?_
    refine z_getI C ok_X9 (lay_c1 hL) 7 (by decide) rfl q_fl_X11_72 dX11_fault_8 ?_
    cases hf
    exact z_iret C rfl dX11_fault_11
set_option maxHeartbeats 4000000 in
set_option maxRecDepth 100000 in
theorem tX11_parish (l : Launch) (G : GG) {K : SK} (hL : Lay K) (M : MM) (x1 : Int32) (x2 : Int32) (pp : Int32) (hf : fX11_parish M x1 x2 = some pp) : Ct l yX11_parish cX11_parish 4 (some .int) 2 0 0 G K M [.ref (G.1 + 0), .int x1, .int x2] (some (.int pp)) K M := by
  refine z_enter (lv := [(0, .ref (G.1 + 0)), (1, .int x1), (2, .int x2)]) (by decide +kernel) (Nat.le_of_ble_eq_true rfl) rfl ?_
  intro p e s m args below meth c C hnm hs0
  replace C : CX p s m args meth c cX11_parish 4 (some .int) RX11 G := C
  unfold fX11_parish at hf
  refine z_aload_n C 0 0 dX11_parish_0 rfl rfl ?_
  refine z_getR C ok_X11 (lay_c0 hL) 0 (1) (by decide) rfl (lay_r0_0 hL) q_fl_X11_10 dX11_parish_1 ?_
  refine z_iload_n C 1 1 dX11_parish_4 rfl rfl ?_
  replace hf := bd_out hf
  obtain ⟨p1, e2, hf⟩ := hf
  refine z_cV1 C [] (tX9_parishAt l G hL M x1 _ e2) lk_X9_parishAt ok_X9 (lay_c1 hL) q_ml_X11_149 rfl ⟨Nat.le_of_ble_eq_true rfl, Nat.le_of_ble_eq_true rfl⟩ rfl (Nat.le_of_ble_eq_true rfl) ⟨Nat.le_refl _, Nat.le_refl _⟩ dX11_parish_5 ?_
  refine z_qstore_n C [(3, rfv G p1), (0, .ref (G.1 + 0)), (1, .int x1), (2, .int x2)] dX11_parish_8 rfl (by decide) rfl rfl ?_
  refine z_qload_n C 0 3 dX11_parish_9 rfl rfl ?_
  refine z_ifnonnullR C 17 dX11_parish_10 (by decide) (fun c3 => ?_) (fun c3 => ?_)
  · obtain ⟨a4, rfl⟩ := Option.ne_none_iff_exists'.mp c3
    have h5 := (okf_parishAt hL e2) a4 rfl
    refine z_aload_n C 0 3 dX11_parish_17 rfl rfl ?_
    refine z_iload_n C 3 2 dX11_parish_18 rfl rfl ?_
    replace hf := bd_out hf
    obtain ⟨p6, e7, hf⟩ := hf
    refine z_cV1 C [] (tX5_tell l G hL M a4 h5 x2 _ e7) lk_X5_tell ok_X5 (Par_o h5) q_ml_X11_153 rfl ⟨Nat.le_of_ble_eq_true rfl, Nat.le_of_ble_eq_true rfl⟩ rfl (Nat.le_of_ble_eq_true rfl) ⟨Nat.le_refl _, Nat.le_refl _⟩ dX11_parish_19 ?_
    cases hf
    exact z_iret C rfl dX11_parish_22
  · subst c3
    refine z_iconst C (-1) dX11_parish_13 (by decide) ?_
    refine z_goto C 22 dX11_parish_14 (by decide) ?_
    cases hf
    exact z_iret C rfl dX11_parish_22
set_option maxHeartbeats 4000000 in
set_option maxRecDepth 100000 in
theorem tX11_square (l : Launch) (G : GG) {K : SK} (hL : Lay K) (M : MM) (x1 : Int32) (x2 : Int32) (pp : Int32) (hf : fX11_square M x1 x2 = some pp) : Ct l yX11_square cX11_square 4 (some .int) 2 0 0 G K M [.ref (G.1 + 0), .int x1, .int x2] (some (.int pp)) K M := by
  refine z_enter (lv := [(0, .ref (G.1 + 0)), (1, .int x1), (2, .int x2)]) (by decide +kernel) (Nat.le_of_ble_eq_true rfl) rfl ?_
  intro p e s m args below meth c C hnm hs0
  replace C : CX p s m args meth c cX11_square 4 (some .int) RX11 G := C
  unfold fX11_square at hf
  refine z_aload_n C 0 0 dX11_square_0 rfl rfl ?_
  refine z_getR C ok_X11 (lay_c0 hL) 0 (1) (by decide) rfl (lay_r0_0 hL) q_fl_X11_10 dX11_square_1 ?_
  refine z_iload_n C 1 1 dX11_square_4 rfl rfl ?_
  replace hf := bd_out hf
  obtain ⟨p1, e2, hf⟩ := hf
  refine z_cV1 C [] (tX9_parishAt l G hL M x1 _ e2) lk_X9_parishAt ok_X9 (lay_c1 hL) q_ml_X11_149 rfl ⟨Nat.le_of_ble_eq_true rfl, Nat.le_of_ble_eq_true rfl⟩ rfl (Nat.le_of_ble_eq_true rfl) ⟨Nat.le_refl _, Nat.le_refl _⟩ dX11_square_5 ?_
  refine z_qstore_n C [(3, rfv G p1), (0, .ref (G.1 + 0)), (1, .int x1), (2, .int x2)] dX11_square_8 rfl (by decide) rfl rfl ?_
  refine z_qload_n C 0 3 dX11_square_9 rfl rfl ?_
  refine z_ifnullR C 21 dX11_square_10 (by decide) (fun c3 => ?_) (fun c3 => ?_)
  · subst c3
    refine z_iconst C (-1) dX11_square_21 (by decide) ?_
    cases hf
    exact z_iret C rfl dX11_square_22
  · obtain ⟨a4, rfl⟩ := Option.ne_none_iff_exists'.mp c3
    have h5 := (okf_parishAt hL e2) a4 rfl
    refine z_aload_n C 0 3 dX11_square_13 rfl rfl ?_
    refine z_iload_n C 3 2 dX11_square_14 rfl rfl ?_
    refine z_cV1 C [] (tX5_hasSquare l G hL M a4 h5 x2) lk_X5_hasSquare ok_X5 (Par_o h5) q_ml_X11_157 rfl ⟨Nat.le_of_ble_eq_true rfl, Nat.le_of_ble_eq_true rfl⟩ rfl (Nat.le_of_ble_eq_true rfl) ⟨Nat.le_refl _, Nat.le_refl _⟩ dX11_square_15 ?_
    refine z_if_ne C 23 dX11_square_18 (by decide) (fun c6 => ?_) (fun c6 => ?_)
    · replace hf := ite_f c6 hf
      refine z_aload_n C 0 3 dX11_square_23 rfl rfl ?_
      refine z_getR C ok_X5 (Par_o h5) 11 (a4 + 8) (by decide) rfl (Par_r11 h5) q_fl_X11_161 dX11_square_24 ?_
      refine z_iload_n C 3 2 dX11_square_27 rfl rfl ?_
      replace hf := gd_out hf
      obtain ⟨g7, hf⟩ := hf
      refine z_iald C (Par_c8 h5) (inb_in g7) dX11_square_28 ?_
      cases hf
      exact z_iret C rfl dX11_square_29
    · replace hf := ite_t c6 hf
      refine z_iconst C (-1) dX11_square_21 (by decide) ?_
      cases hf
      exact z_iret C rfl dX11_square_22
set_option maxHeartbeats 4000000 in
set_option maxRecDepth 100000 in
theorem tX11_law (l : Launch) (G : GG) {K : SK} (hL : Lay K) (M : MM) (x1 : Int32) (x2 : Int32) (pp : Int32) (hf : fX11_law M x1 x2 = some pp) : Ct l yX11_law cX11_law 4 (some .int) 2 0 0 G K M [.ref (G.1 + 0), .int x1, .int x2] (some (.int pp)) K M := by
  refine z_enter (lv := [(0, .ref (G.1 + 0)), (1, .int x1), (2, .int x2)]) (by decide +kernel) (Nat.le_of_ble_eq_true rfl) rfl ?_
  intro p e s m args below meth c C hnm hs0
  replace C : CX p s m args meth c cX11_law 4 (some .int) RX11 G := C
  unfold fX11_law at hf
  refine z_aload_n C 0 0 dX11_law_0 rfl rfl ?_
  refine z_getR C ok_X11 (lay_c0 hL) 0 (1) (by decide) rfl (lay_r0_0 hL) q_fl_X11_10 dX11_law_1 ?_
  refine z_iload_n C 1 1 dX11_law_4 rfl rfl ?_
  replace hf := bd_out hf
  obtain ⟨p1, e2, hf⟩ := hf
  refine z_cV1 C [] (tX9_lawAt l G hL M x1 _ e2) lk_X9_lawAt ok_X9 (lay_c1 hL) q_ml_X11_164 rfl ⟨Nat.le_of_ble_eq_true rfl, Nat.le_of_ble_eq_true rfl⟩ rfl (Nat.le_of_ble_eq_true rfl) ⟨Nat.le_refl _, Nat.le_refl _⟩ dX11_law_5 ?_
  refine z_qstore_n C [(3, rfv G p1), (0, .ref (G.1 + 0)), (1, .int x1), (2, .int x2)] dX11_law_8 rfl (by decide) rfl rfl ?_
  refine z_qload_n C 0 3 dX11_law_9 rfl rfl ?_
  refine z_ifnonnullR C 17 dX11_law_10 (by decide) (fun c3 => ?_) (fun c3 => ?_)
  · obtain ⟨a4, rfl⟩ := Option.ne_none_iff_exists'.mp c3
    have h5 := (okf_lawAt hL e2) a4 rfl
    refine z_aload_n C 0 3 dX11_law_17 rfl rfl ?_
    refine z_iload_n C 3 2 dX11_law_18 rfl rfl ?_
    refine z_cV1 C [] (tX4_tell l G hL M a4 h5 x2) lk_X4_tell ok_X4 (Lw_o h5) q_ml_X11_168 rfl ⟨Nat.le_of_ble_eq_true rfl, Nat.le_of_ble_eq_true rfl⟩ rfl (Nat.le_of_ble_eq_true rfl) ⟨Nat.le_refl _, Nat.le_refl _⟩ dX11_law_19 ?_
    cases hf
    exact z_iret C rfl dX11_law_22
  · subst c3
    refine z_iconst C (-1) dX11_law_13 (by decide) ?_
    refine z_goto C 22 dX11_law_14 (by decide) ?_
    cases hf
    exact z_iret C rfl dX11_law_22
set_option maxHeartbeats 4000000 in
set_option maxRecDepth 100000 in
theorem tX11_deed (l : Launch) (G : GG) {K : SK} (hL : Lay K) (M : MM) (x1 : Int32) (x2 : Int32) (x3 : Int32) (pp : Int32) (hf : fX11_deed M x1 x2 x3 = some pp) : Ct l yX11_deed cX11_deed 5 (some .int) 2 0 0 G K M [.ref (G.1 + 0), .int x1, .int x2, .int x3] (some (.int pp)) K M := by
  refine z_enter (lv := [(0, .ref (G.1 + 0)), (1, .int x1), (2, .int x2), (3, .int x3)]) (by decide +kernel) (Nat.le_of_ble_eq_true rfl) rfl ?_
  intro p e s m args below meth c C hnm hs0
  replace C : CX p s m args meth c cX11_deed 5 (some .int) RX11 G := C
  unfold fX11_deed at hf
  refine z_aload_n C 0 0 dX11_deed_0 rfl rfl ?_
  refine z_getR C ok_X11 (lay_c0 hL) 0 (1) (by decide) rfl (lay_r0_0 hL) q_fl_X11_10 dX11_deed_1 ?_
  refine z_iload_n C 1 1 dX11_deed_4 rfl rfl ?_
  replace hf := bd_out hf
  obtain ⟨p1, e2, hf⟩ := hf
  refine z_cV1 C [] (tX9_eveningAt l G hL M x1 _ e2) lk_X9_eveningAt ok_X9 (lay_c1 hL) q_ml_X11_169 rfl ⟨Nat.le_of_ble_eq_true rfl, Nat.le_of_ble_eq_true rfl⟩ rfl (Nat.le_of_ble_eq_true rfl) ⟨Nat.le_refl _, Nat.le_refl _⟩ dX11_deed_5 ?_
  refine z_qstore C [(4, rfv G p1), (0, .ref (G.1 + 0)), (1, .int x1), (2, .int x2), (3, .int x3)] dX11_deed_8 (by decide) rfl rfl ?_
  refine z_qload C 0 dX11_deed_10 rfl ?_
  refine z_ifnonnullR C 18 dX11_deed_12 (by decide) (fun c3 => ?_) (fun c3 => ?_)
  · obtain ⟨a4, rfl⟩ := Option.ne_none_iff_exists'.mp c3
    have h5 := (okf_eveningAt hL e2) a4 rfl
    refine z_iload_n C 3 2 dX11_deed_18 rfl rfl ?_
    refine z_iconst C (-1) dX11_deed_19 (by decide) ?_
    refine z_icmp_ne C 38 dX11_deed_20 (by decide) (fun c6 => ?_) (fun c6 => ?_)
    · replace hf := ite_f c6 hf
      refine z_iload_n C 3 2 dX11_deed_38 rfl rfl ?_
      refine z_if_lt C 51 dX11_deed_39 (by decide) (fun c7 => ?_) (fun c7 => ?_)
      · replace hf := ite_t c7 hf
        refine z_bipush C (-2) dX11_deed_51 (by decide) ?_
        cases hf
        exact z_iret C rfl dX11_deed_53
      · replace hf := ite_f c7 hf
        refine z_iload_n C 3 2 dX11_deed_42 rfl rfl ?_
        refine z_aload C 0 dX11_deed_43 rfl ?_
        refine z_getI C ok_X2 (Ev_o h5) 0 (by decide) rfl q_fl_X11_173 dX11_deed_45 ?_
        refine z_icmp_lt C 54 dX11_deed_48 (by decide) (fun c8 => ?_) (fun c8 => ?_)
        · replace hf := ite_t c8 hf
          refine z_iload_n C 4 3 dX11_deed_54 rfl rfl ?_
          refine z_if_ne C 66 dX11_deed_55 (by decide) (fun c9 => ?_) (fun c9 => ?_)
          · replace hf := ite_f c9 hf
            refine z_iload_n C 4 3 dX11_deed_66 rfl rfl ?_
            refine z_iconst C 1 dX11_deed_67 (by decide) ?_
            refine z_icmp_ne C 79 dX11_deed_68 (by decide) (fun c10 => ?_) (fun c10 => ?_)
            · replace hf := ite_f c10 hf
              refine z_iload_n C 4 3 dX11_deed_79 rfl rfl ?_
              refine z_iconst C 2 dX11_deed_80 (by decide) ?_
              refine z_icmp_ne C 94 dX11_deed_81 (by decide) (fun c11 => ?_) (fun c11 => ?_)
              · replace hf := ite_f c11 hf
                refine z_bipush C (-2) dX11_deed_94 (by decide) ?_
                cases hf
                exact z_iret C rfl dX11_deed_96
              · replace hf := ite_t c11 hf
                refine z_aload C 0 dX11_deed_84 rfl ?_
                refine z_getR C ok_X2 (Ev_o h5) 3 (a4 + 3) (by decide) rfl (Ev_r3 h5) q_fl_X11_182 dX11_deed_86 ?_
                refine z_iload_n C 3 2 dX11_deed_89 rfl rfl ?_
                replace hf := gd_out hf
                obtain ⟨g12, hf⟩ := hf
                refine z_iald C (Ev_c3 h5) (inb_in g12) dX11_deed_90 ?_
                refine z_goto C 96 dX11_deed_91 (by decide) ?_
                cases hf
                exact z_iret C rfl dX11_deed_96
            · replace hf := ite_t c10 hf
              refine z_aload C 0 dX11_deed_71 rfl ?_
              refine z_getR C ok_X2 (Ev_o h5) 2 (a4 + 2) (by decide) rfl (Ev_r2 h5) q_fl_X11_179 dX11_deed_73 ?_
              refine z_iload_n C 3 2 dX11_deed_76 rfl rfl ?_
              replace hf := gd_out hf
              obtain ⟨g13, hf⟩ := hf
              refine z_iald C (Ev_c2 h5) (inb_in g13) dX11_deed_77 ?_
              cases hf
              exact z_iret C rfl dX11_deed_78
          · replace hf := ite_t c9 hf
            refine z_aload C 0 dX11_deed_58 rfl ?_
            refine z_getR C ok_X2 (Ev_o h5) 1 (a4 + 1) (by decide) rfl (Ev_r1 h5) q_fl_X11_176 dX11_deed_60 ?_
            refine z_iload_n C 3 2 dX11_deed_63 rfl rfl ?_
            replace hf := gd_out hf
            obtain ⟨g14, hf⟩ := hf
            refine z_iald C (Ev_c1 h5) (inb_in g14) dX11_deed_64 ?_
            cases hf
            exact z_iret C rfl dX11_deed_65
        · replace hf := ite_f c8 hf
          refine z_bipush C (-2) dX11_deed_51 (by decide) ?_
          cases hf
          exact z_iret C rfl dX11_deed_53
    · replace hf := ite_t c6 hf
      refine z_iload_n C 4 3 dX11_deed_23 rfl rfl ?_
      refine z_if_ne C 35 dX11_deed_24 (by decide) (fun c15 => ?_) (fun c15 => ?_)
      · replace hf := ite_f c15 hf
        refine z_bipush C (-2) dX11_deed_35 (by decide) ?_
        cases hf
        exact z_iret C rfl dX11_deed_37
      · replace hf := ite_t c15 hf
        refine z_aload C 0 dX11_deed_27 rfl ?_
        refine z_getI C ok_X2 (Ev_o h5) 0 (by decide) rfl q_fl_X11_173 dX11_deed_29 ?_
        refine z_goto C 37 dX11_deed_32 (by decide) ?_
        cases hf
        exact z_iret C rfl dX11_deed_37
  · subst c3
    refine z_bipush C (-2) dX11_deed_15 (by decide) ?_
    cases hf
    exact z_iret C rfl dX11_deed_17
set_option maxHeartbeats 4000000 in
set_option maxRecDepth 100000 in
theorem tX11_looks (l : Launch) (G : GG) {K : SK} (hL : Lay K) (M : MM) (x1 : Int32) (x2 : Int32) (x3 : Int32) (pp : (Int32 × MM)) (hf : fX11_looks M x1 x2 x3 = some pp) : Ct l yX11_looks cX11_looks 6 (some .int) 4 0 0 G K M [.ref (G.1 + 0), .int x1, .int x2, .int x3] (some (.int pp.1)) K pp.2 := by
  refine z_enter (lv := [(0, .ref (G.1 + 0)), (1, .int x1), (2, .int x2), (3, .int x3)]) (by decide +kernel) (Nat.le_of_ble_eq_true rfl) rfl ?_
  intro p e s m args below meth c C hnm hs0
  replace C : CX p s m args meth c cX11_looks 6 (some .int) RX11 G := C
  unfold fX11_looks at hf
  refine z_aload_n C 0 0 dX11_looks_0 rfl rfl ?_
  refine z_getR C ok_X11 (lay_c0 hL) 0 (1) (by decide) rfl (lay_r0_0 hL) q_fl_X11_10 dX11_looks_1 ?_
  refine z_iload_n C 1 1 dX11_looks_4 rfl rfl ?_
  replace hf := bd_out hf
  obtain ⟨p1, e2, hf⟩ := hf
  refine z_cV1 C [] (tX9_parishAt l G hL M x1 _ e2) lk_X9_parishAt ok_X9 (lay_c1 hL) q_ml_X11_149 rfl ⟨Nat.le_of_ble_eq_true rfl, Nat.le_of_ble_eq_true rfl⟩ rfl (Nat.le_of_ble_eq_true rfl) ⟨Nat.le_refl _, Nat.le_refl _⟩ dX11_looks_5 ?_
  refine z_qstore C [(4, rfv G p1), (0, .ref (G.1 + 0)), (1, .int x1), (2, .int x2), (3, .int x3)] dX11_looks_8 (by decide) rfl rfl ?_
  refine z_qload C 0 dX11_looks_10 rfl ?_
  refine z_ifnullR C 24 dX11_looks_12 (by decide) (fun c3 => ?_) (fun c3 => ?_)
  · subst c3
    refine z_bipush C (-2) dX11_looks_24 (by decide) ?_
    cases hf
    exact z_iret C rfl dX11_looks_26
  · obtain ⟨a4, rfl⟩ := Option.ne_none_iff_exists'.mp c3
    have h5 := (okf_parishAt hL e2) a4 rfl
    refine z_aload C 0 dX11_looks_15 rfl ?_
    refine z_iload_n C 3 2 dX11_looks_17 rfl rfl ?_
    refine z_cV1 C [] (tX5_hasShine l G hL M a4 h5 x2) lk_X5_hasShine ok_X5 (Par_o h5) q_ml_X11_185 rfl ⟨Nat.le_of_ble_eq_true rfl, Nat.le_of_ble_eq_true rfl⟩ rfl (Nat.le_of_ble_eq_true rfl) ⟨Nat.le_refl _, Nat.le_refl _⟩ dX11_looks_18 ?_
    refine z_if_ne C 27 dX11_looks_21 (by decide) (fun c6 => ?_) (fun c6 => ?_)
    · replace hf := ite_f c6 hf
      refine z_iload_n C 4 3 dX11_looks_27 rfl rfl ?_
      refine z_if_lt C 37 dX11_looks_28 (by decide) (fun c7 => ?_) (fun c7 => ?_)
      · replace hf := ite_t c7 hf
        refine z_bipush C (-2) dX11_looks_37 (by decide) ?_
        cases hf
        exact z_iret C rfl dX11_looks_39
      · replace hf := ite_f c7 hf
        refine z_iload_n C 4 3 dX11_looks_31 rfl rfl ?_
        refine z_bipush C 8 dX11_looks_32 (by decide) ?_
        refine z_icmp_lt C 40 dX11_looks_34 (by decide) (fun c8 => ?_) (fun c8 => ?_)
        · replace hf := ite_t c8 hf
          refine z_aload_n C 1 0 dX11_looks_40 rfl rfl ?_
          refine z_getR C ok_X11 (lay_c0 hL) 3 (60) (by decide) rfl (lay_r0_3 hL) q_fl_X11_30 dX11_looks_41 ?_
          refine z_aload C 0 dX11_looks_44 rfl ?_
          replace hf := bd_out hf
          obtain ⟨p9, e10, hf⟩ := hf
          refine z_cV0 C [] (tX0_begin l G hL M a4 h5 _ e10) lk_X0_begin ok_X0 (lay_c60 hL) q_ml_X11_188 rfl ⟨Nat.le_of_ble_eq_true rfl, Nat.le_of_ble_eq_true rfl⟩ rfl (Nat.le_of_ble_eq_true rfl) ⟨Nat.le_refl _, Nat.le_refl _⟩ dX11_looks_46 ?_
          refine z_aload_n C 1 0 dX11_looks_49 rfl rfl ?_
          refine z_getR C ok_X11 (lay_c0 hL) 3 (60) (by decide) rfl (lay_r0_3 hL) q_fl_X11_30 dX11_looks_50 ?_
          refine z_iload_n C 3 2 dX11_looks_53 rfl rfl ?_
          refine z_iload_n C 4 3 dX11_looks_54 rfl rfl ?_
          replace hf := bd_out hf
          obtain ⟨p11, e12, hf⟩ := hf
          refine z_cV1 C [] (tX0_opens l G hL p9 x2 x3 _ e12) lk_X0_opens ok_X0 (lay_c60 hL) q_ml_X11_191 rfl ⟨Nat.le_of_ble_eq_true rfl, Nat.le_of_ble_eq_true rfl⟩ rfl (Nat.le_of_ble_eq_true rfl) ⟨Nat.le_refl _, Nat.le_refl _⟩ dX11_looks_55 ?_
          refine z_if_ne C 63 dX11_looks_58 (by decide) (fun c13 => ?_) (fun c13 => ?_)
          · replace hf := ite_f c13 hf
            refine z_aload_n C 1 0 dX11_looks_63 rfl rfl ?_
            refine z_getR C ok_X11 (lay_c0 hL) 3 (60) (by decide) rfl (lay_r0_3 hL) q_fl_X11_30 dX11_looks_64 ?_
            refine z_iload_n C 3 2 dX11_looks_67 rfl rfl ?_
            refine z_iload_n C 4 3 dX11_looks_68 rfl rfl ?_
            replace hf := bd_out hf
            obtain ⟨p14, e15, hf⟩ := hf
            refine z_cV1 C [] (tX0_meets l G hL p9 x2 x3 _ e15) lk_X0_meets ok_X0 (lay_c60 hL) q_ml_X11_195 rfl ⟨Nat.le_of_ble_eq_true rfl, Nat.le_of_ble_eq_true rfl⟩ rfl (Nat.le_of_ble_eq_true rfl) ⟨Nat.le_refl _, Nat.le_refl _⟩ dX11_looks_69 ?_
            refine z_istore C [(5, .int p14.1), (4, .ref (G.1 + a4)), (0, .ref (G.1 + 0)), (1, .int x1), (2, .int x2), (3, .int x3)] dX11_looks_72 (by decide) rfl rfl ?_
            refine z_iload C 0 dX11_looks_74 rfl ?_
            refine z_bipush C 20 dX11_looks_76 (by decide) ?_
            refine z_icmp_lt C 90 dX11_looks_78 (by decide) (fun c16 => ?_) (fun c16 => ?_)
            · replace hf := ite_t c16 hf
              refine z_iload C 0 dX11_looks_90 rfl ?_
              refine z_bipush C 10 dX11_looks_92 (by decide) ?_
              refine z_icmp_lt C 105 dX11_looks_94 (by decide) (fun c17 => ?_) (fun c17 => ?_)
              · replace hf := ite_t c17 hf
                refine z_iconst C (-1) dX11_looks_105 (by decide) ?_
                cases hf
                exact z_iret C rfl dX11_looks_106
              · replace hf := ite_f c17 hf
                refine z_iload C 0 dX11_looks_97 rfl ?_
                refine z_bipush C 10 dX11_looks_99 (by decide) ?_
                refine z_isub C dX11_looks_101 ?_
                refine z_goto C 106 dX11_looks_102 (by decide) ?_
                cases hf
                exact z_iret C rfl dX11_looks_106
            · replace hf := ite_f c16 hf
              refine z_bipush C 10 dX11_looks_81 (by decide) ?_
              refine z_iload C 0 dX11_looks_83 rfl ?_
              refine z_iadd C dX11_looks_85 ?_
              refine z_bipush C 20 dX11_looks_86 (by decide) ?_
              refine z_isub C dX11_looks_88 ?_
              cases hf
              exact z_iret C rfl dX11_looks_89
          · replace hf := ite_t c13 hf
            refine z_iconst C (-1) dX11_looks_61 (by decide) ?_
            cases hf
            exact z_iret C rfl dX11_looks_62
        · replace hf := ite_f c8 hf
          refine z_bipush C (-2) dX11_looks_37 (by decide) ?_
          cases hf
          exact z_iret C rfl dX11_looks_39
    · replace hf := ite_t c6 hf
      refine z_bipush C (-2) dX11_looks_24 (by decide) ?_
      cases hf
      exact z_iret C rfl dX11_looks_26
set_option maxHeartbeats 4000000 in
set_option maxRecDepth 100000 in
theorem tX11_degree (l : Launch) (G : GG) {K : SK} (hL : Lay K) (M : MM) (x1 : Int32) (x2 : Int32) (x3 : Int32) (pp : (Int32 × MM)) (hf : fX11_degree M x1 x2 x3 = some pp) : Ct l yX11_degree cX11_degree 5 (some .int) 4 0 0 G K M [.ref (G.1 + 0), .int x1, .int x2, .int x3] (some (.int pp.1)) K pp.2 := by
  refine z_enter (lv := [(0, .ref (G.1 + 0)), (1, .int x1), (2, .int x2), (3, .int x3)]) (by decide +kernel) (Nat.le_of_ble_eq_true rfl) rfl ?_
  intro p e s m args below meth c C hnm hs0
  replace C : CX p s m args meth c cX11_degree 5 (some .int) RX11 G := C
  unfold fX11_degree at hf
  refine z_aload_n C 0 0 dX11_degree_0 rfl rfl ?_
  refine z_getR C ok_X11 (lay_c0 hL) 0 (1) (by decide) rfl (lay_r0_0 hL) q_fl_X11_10 dX11_degree_1 ?_
  refine z_iload_n C 1 1 dX11_degree_4 rfl rfl ?_
  replace hf := bd_out hf
  obtain ⟨p1, e2, hf⟩ := hf
  refine z_cV1 C [] (tX9_parishAt l G hL M x1 _ e2) lk_X9_parishAt ok_X9 (lay_c1 hL) q_ml_X11_149 rfl ⟨Nat.le_of_ble_eq_true rfl, Nat.le_of_ble_eq_true rfl⟩ rfl (Nat.le_of_ble_eq_true rfl) ⟨Nat.le_refl _, Nat.le_refl _⟩ dX11_degree_5 ?_
  refine z_qstore C [(4, rfv G p1), (0, .ref (G.1 + 0)), (1, .int x1), (2, .int x2), (3, .int x3)] dX11_degree_8 (by decide) rfl rfl ?_
  refine z_qload C 0 dX11_degree_10 rfl ?_
  refine z_ifnullR C 33 dX11_degree_12 (by decide) (fun c3 => ?_) (fun c3 => ?_)
  · subst c3
    refine z_bipush C (-2) dX11_degree_33 (by decide) ?_
    cases hf
    exact z_iret C rfl dX11_degree_35
  · obtain ⟨a4, rfl⟩ := Option.ne_none_iff_exists'.mp c3
    have h5 := (okf_parishAt hL e2) a4 rfl
    refine z_aload C 0 dX11_degree_15 rfl ?_
    refine z_iload_n C 3 2 dX11_degree_17 rfl rfl ?_
    refine z_cV1 C [] (tX5_hasShine l G hL M a4 h5 x2) lk_X5_hasShine ok_X5 (Par_o h5) q_ml_X11_185 rfl ⟨Nat.le_of_ble_eq_true rfl, Nat.le_of_ble_eq_true rfl⟩ rfl (Nat.le_of_ble_eq_true rfl) ⟨Nat.le_refl _, Nat.le_refl _⟩ dX11_degree_18 ?_
    refine z_if_eq C 33 dX11_degree_21 (by decide) (fun c6 => ?_) (fun c6 => ?_)
    · replace hf := ite_t c6 hf
      refine z_bipush C (-2) dX11_degree_33 (by decide) ?_
      cases hf
      exact z_iret C rfl dX11_degree_35
    · replace hf := ite_f c6 hf
      refine z_aload C 0 dX11_degree_24 rfl ?_
      refine z_iload_n C 4 3 dX11_degree_26 rfl rfl ?_
      refine z_cV1 C [] (tX5_hasPerson l G hL M a4 h5 x3) lk_X5_hasPerson ok_X5 (Par_o h5) q_ml_X11_199 rfl ⟨Nat.le_of_ble_eq_true rfl, Nat.le_of_ble_eq_true rfl⟩ rfl (Nat.le_of_ble_eq_true rfl) ⟨Nat.le_refl _, Nat.le_refl _⟩ dX11_degree_27 ?_
      refine z_if_ne C 36 dX11_degree_30 (by decide) (fun c7 => ?_) (fun c7 => ?_)
      · replace hf := ite_f c7 hf
        refine z_aload_n C 1 0 dX11_degree_36 rfl rfl ?_
        refine z_getR C ok_X11 (lay_c0 hL) 3 (60) (by decide) rfl (lay_r0_3 hL) q_fl_X11_30 dX11_degree_37 ?_
        refine z_aload C 0 dX11_degree_40 rfl ?_
        replace hf := bd_out hf
        obtain ⟨p8, e9, hf⟩ := hf
        refine z_cV0 C [] (tX0_begin l G hL M a4 h5 _ e9) lk_X0_begin ok_X0 (lay_c60 hL) q_ml_X11_188 rfl ⟨Nat.le_of_ble_eq_true rfl, Nat.le_of_ble_eq_true rfl⟩ rfl (Nat.le_of_ble_eq_true rfl) ⟨Nat.le_refl _, Nat.le_refl _⟩ dX11_degree_42 ?_
        refine z_aload_n C 1 0 dX11_degree_45 rfl rfl ?_
        refine z_getR C ok_X11 (lay_c0 hL) 3 (60) (by decide) rfl (lay_r0_3 hL) q_fl_X11_30 dX11_degree_46 ?_
        refine z_iload_n C 3 2 dX11_degree_49 rfl rfl ?_
        refine z_iload_n C 4 3 dX11_degree_50 rfl rfl ?_
        replace hf := bd_out hf
        obtain ⟨p10, e11, hf⟩ := hf
        refine z_cV1 C [] (tX0_degreeOf l G hL p8 x2 x3 _ e11) lk_X0_degreeOf ok_X0 (lay_c60 hL) q_ml_X11_202 rfl ⟨Nat.le_of_ble_eq_true rfl, Nat.le_of_ble_eq_true rfl⟩ rfl (Nat.le_of_ble_eq_true rfl) ⟨Nat.le_refl _, Nat.le_refl _⟩ dX11_degree_51 ?_
        cases hf
        exact z_iret C rfl dX11_degree_54
      · replace hf := ite_t c7 hf
        refine z_bipush C (-2) dX11_degree_33 (by decide) ?_
        cases hf
        exact z_iret C rfl dX11_degree_35
set_option maxHeartbeats 4000000 in
set_option maxRecDepth 100000 in
theorem wX11_counted_j48 (C : CX p s m args meth c cX11_counted 7 (some .int) RX11 G) (hs0 : s.heap.size = G.1 + K.1) (hL : Lay K)   (pp : (Int32 × MM))  (M12 : MM) (y13 : Int32) (a14 : Nat) (a16 : Nat) (h15 : Par K a14) (h17 : Lw K a16) (hf : fX11_counted_j48 M12 y13 a14 a16 = some pp) : Z p l e (rmo 4 0 0) s m args below meth c 7 G (MQ below (QC G (some (.int pp.1)) K pp.2) args s 0 0 (AG G)) K 0 0 M12 48 [(0, .ref (G.1 + 0)), (3, .int y13), (4, .ref (G.1 + a14)), (5, .ref (G.1 + a16))] [] := by
  unfold fX11_counted_j48 at hf
  refine z_aload_n C 0 0 dX11_counted_48 rfl rfl ?_
  refine z_getR C ok_X11 (lay_c0 hL) 3 (60) (by decide) rfl (lay_r0_3 hL) q_fl_X11_30 dX11_counted_49 ?_
  refine z_aload C 2 dX11_counted_52 rfl ?_
  replace hf := bd_out hf
  obtain ⟨p18, e19, hf⟩ := hf
  refine z_cV0 C [] (tX0_begin l G hL M12 a14 h15 _ e19) lk_X0_begin ok_X0 (lay_c60 hL) q_ml_X11_188 rfl ⟨Nat.le_of_ble_eq_true rfl, Nat.le_of_ble_eq_true rfl⟩ rfl (Nat.le_of_ble_eq_true rfl) ⟨Nat.le_refl _, Nat.le_refl _⟩ dX11_counted_54 ?_
  refine z_aload_n C 0 0 dX11_counted_57 rfl rfl ?_
  refine z_getR C ok_X11 (lay_c0 hL) 3 (60) (by decide) rfl (lay_r0_3 hL) q_fl_X11_30 dX11_counted_58 ?_
  refine z_aload C 3 dX11_counted_61 rfl ?_
  replace hf := bd_out hf
  obtain ⟨p20, e21, hf⟩ := hf
  refine z_cV1 C [] (tX0_sumBy l G hL p18 a16 h17 _ e21) lk_X0_sumBy ok_X0 (lay_c60 hL) q_ml_X11_205 rfl ⟨Nat.le_of_ble_eq_true rfl, Nat.le_of_ble_eq_true rfl⟩ rfl (Nat.le_of_ble_eq_true rfl) ⟨Nat.le_refl _, Nat.le_refl _⟩ dX11_counted_63 ?_
  refine z_istore C [(6, .int p20.1), (0, .ref (G.1 + 0)), (3, .int y13), (4, .ref (G.1 + a14)), (5, .ref (G.1 + a16))] dX11_counted_66 (by decide) rfl rfl ?_
  refine z_iload_n C 2 3 dX11_counted_68 rfl rfl ?_
  refine z_iconst C (-1) dX11_counted_69 (by decide) ?_
  refine z_icmp_ne C 78 dX11_counted_70 (by decide) (fun c22 => ?_) (fun c22 => ?_)
  · replace hf := ite_f c22 hf
    refine z_aload_n C 1 0 dX11_counted_78 rfl rfl ?_
    refine z_getR C ok_X11 (lay_c0 hL) 3 (60) (by decide) rfl (lay_r0_3 hL) q_fl_X11_30 dX11_counted_79 ?_
    refine z_iload_n C 2 3 dX11_counted_82 rfl rfl ?_
    refine z_aload C 4 dX11_counted_83 rfl ?_
    replace hf := bd_out hf
    obtain ⟨p23, e24, hf⟩ := hf
    refine z_cV1 C [] (tX0_countIn l G hL p20.2 y13 a16 h17 _ e24) lk_X0_countIn ok_X0 (lay_c60 hL) q_ml_X11_209 rfl ⟨Nat.le_of_ble_eq_true rfl, Nat.le_of_ble_eq_true rfl⟩ rfl (Nat.le_of_ble_eq_true rfl) ⟨Nat.le_refl _, Nat.le_refl _⟩ dX11_counted_85 ?_
    cases hf
    exact z_iret C rfl dX11_counted_88
  · replace hf := ite_t c22 hf
    refine z_iload C 0 dX11_counted_73 rfl ?_
    refine z_goto C 88 dX11_counted_75 (by decide) ?_
    cases hf
    exact z_iret C rfl dX11_counted_88
set_option maxHeartbeats 4000000 in
set_option maxRecDepth 100000 in
theorem tX11_counted (l : Launch) (G : GG) {K : SK} (hL : Lay K) (M : MM) (x1 : Int32) (x2 : Int32) (x3 : Int32) (pp : (Int32 × MM)) (hf : fX11_counted M x1 x2 x3 = some pp) : Ct l yX11_counted cX11_counted 7 (some .int) 4 0 0 G K M [.ref (G.1 + 0), .int x1, .int x2, .int x3] (some (.int pp.1)) K pp.2 := by
  refine z_enter (lv := [(0, .ref (G.1 + 0)), (1, .int x1), (2, .int x2), (3, .int x3)]) (by decide +kernel) (Nat.le_of_ble_eq_true rfl) rfl ?_
  intro p e s m args below meth c C hnm hs0
  replace C : CX p s m args meth c cX11_counted 7 (some .int) RX11 G := C
  unfold fX11_counted at hf
  refine z_aload_n C 0 0 dX11_counted_0 rfl rfl ?_
  refine z_getR C ok_X11 (lay_c0 hL) 0 (1) (by decide) rfl (lay_r0_0 hL) q_fl_X11_10 dX11_counted_1 ?_
  refine z_iload_n C 1 1 dX11_counted_4 rfl rfl ?_
  replace hf := bd_out hf
  obtain ⟨p1, e2, hf⟩ := hf
  refine z_cV1 C [] (tX9_parishAt l G hL M x1 _ e2) lk_X9_parishAt ok_X9 (lay_c1 hL) q_ml_X11_149 rfl ⟨Nat.le_of_ble_eq_true rfl, Nat.le_of_ble_eq_true rfl⟩ rfl (Nat.le_of_ble_eq_true rfl) ⟨Nat.le_refl _, Nat.le_refl _⟩ dX11_counted_5 ?_
  refine z_qstore C [(4, rfv G p1), (0, .ref (G.1 + 0)), (1, .int x1), (2, .int x2), (3, .int x3)] dX11_counted_8 (by decide) rfl rfl ?_
  refine z_aload_n C 1 0 dX11_counted_10 rfl rfl ?_
  refine z_getR C ok_X11 (lay_c0 hL) 0 (1) (by decide) rfl (lay_r0_0 hL) q_fl_X11_10 dX11_counted_11 ?_
  refine z_iload_n C 3 2 dX11_counted_14 rfl rfl ?_
  replace hf := bd_out hf
  obtain ⟨p3, e4, hf⟩ := hf
  refine z_cV1 C [] (tX9_lawAt l G hL M x2 _ e4) lk_X9_lawAt ok_X9 (lay_c1 hL) q_ml_X11_164 rfl ⟨Nat.le_of_ble_eq_true rfl, Nat.le_of_ble_eq_true rfl⟩ rfl (Nat.le_of_ble_eq_true rfl) ⟨Nat.le_refl _, Nat.le_refl _⟩ dX11_counted_15 ?_
  refine z_qstore C [(5, rfv G p3), (4, rfv G p1), (0, .ref (G.1 + 0)), (1, .int x1), (2, .int x2), (3, .int x3)] dX11_counted_18 (by decide) (by simp [va_rf_cat]) rfl ?_
  refine z_qload C 1 dX11_counted_20 rfl ?_
  refine z_ifnullR C 30 dX11_counted_22 (by decide) (fun c5 => ?_) (fun c5 => ?_)
  · subst c5
    refine z_iconst C (-1) dX11_counted_30 (by decide) ?_
    cases hf
    exact z_iret C rfl dX11_counted_31
  · obtain ⟨a6, rfl⟩ := Option.ne_none_iff_exists'.mp c5
    have h7 := (okf_parishAt hL e2) a6 rfl
    refine z_qload C 0 dX11_counted_25 rfl ?_
    refine z_ifnonnullR C 32 dX11_counted_27 (by decide) (fun c8 => ?_) (fun c8 => ?_)
    · obtain ⟨a9, rfl⟩ := Option.ne_none_iff_exists'.mp c8
      have h10 := (okf_lawAt hL e4) a9 rfl
      refine z_iload_n C 5 3 dX11_counted_32 rfl rfl ?_
      refine z_iconst C (-1) dX11_counted_33 (by decide) ?_
      refine z_icmp_eq C 48 dX11_counted_34 (by decide) (fun c11 => ?_) (fun c11 => ?_)
      · replace hf := ite_t c11 hf
        refine z_lv (lv2 := [(0, .ref (G.1 + 0)), (3, .int x3), (4, .ref (G.1 + a6)), (5, .ref (G.1 + a9))]) [2, 5, 1, 0] rfl ?_
        exact wX11_counted_j48 C hs0 hL pp M x3 a6 a9 h7 h10 hf
      · replace hf := ite_f c11 hf
        refine z_aload C 1 dX11_counted_37 rfl ?_
        refine z_iload_n C 5 3 dX11_counted_39 rfl rfl ?_
        refine z_cV1 C [] (tX5_hasShine l G hL M a6 h7 x3) lk_X5_hasShine ok_X5 (Par_o h7) q_ml_X11_185 rfl ⟨Nat.le_of_ble_eq_true rfl, Nat.le_of_ble_eq_true rfl⟩ rfl (Nat.le_of_ble_eq_true rfl) ⟨Nat.le_refl _, Nat.le_refl _⟩ dX11_counted_40 ?_
        refine z_if_ne C 48 dX11_counted_43 (by decide) (fun c25 => ?_) (fun c25 => ?_)
        · replace hf := ite_f c25 hf
          refine z_lv (lv2 := [(0, .ref (G.1 + 0)), (3, .int x3), (4, .ref (G.1 + a6)), (5, .ref (G.1 + a9))]) [2, 5, 1, 0] rfl ?_
          exact wX11_counted_j48 C hs0 hL pp M x3 a6 a9 h7 h10 hf
        · replace hf := ite_t c25 hf
          refine z_iconst C (-1) dX11_counted_46 (by decide) ?_
          cases hf
          exact z_iret C rfl dX11_counted_47
    · subst c8
      refine z_iconst C (-1) dX11_counted_30 (by decide) ?_
      cases hf
      exact z_iret C rfl dX11_counted_31
set_option maxHeartbeats 4000000 in
set_option maxRecDepth 100000 in
theorem tX11_isParty (l : Launch) (G : GG) {K : SK} (hL : Lay K) (M : MM) (x0 : Int32) : Ct l yX11_isParty cX11_isParty 1 (some .boolean) 0 0 0 G K M [.int x0] (some (.int (fX11_isParty x0))) K M := by
  generalize hf : fX11_isParty x0 = pp
  refine z_enter (lv := [(0, .int x0)]) (by decide +kernel) (Nat.le_of_ble_eq_true rfl) rfl ?_
  intro p e s m args below meth c C hnm hs0
  replace C : CX p s m args meth c cX11_isParty 1 (some .boolean) RX11 G := C
  unfold fX11_isParty at hf
  refine z_iload_n C 0 0 dX11_isParty_0 rfl rfl ?_
  refine z_if_lt C 13 dX11_isParty_1 (by decide) (fun c1 => ?_) (fun c1 => ?_)
  · replace hf := ite_t c1 hf
    refine z_iconst C 0 dX11_isParty_13 (by decide) ?_
    cases hf
    exact z_zret C rfl nb0 dX11_isParty_14
  · replace hf := ite_f c1 hf
    refine z_iload_n C 0 0 dX11_isParty_4 rfl rfl ?_
    refine z_iconst C 4 dX11_isParty_5 (by decide) ?_
    refine z_icmp_ge C 13 dX11_isParty_6 (by decide) (fun c2 => ?_) (fun c2 => ?_)
    · replace hf := ite_t c2 hf
      refine z_iconst C 0 dX11_isParty_13 (by decide) ?_
      cases hf
      exact z_zret C rfl nb0 dX11_isParty_14
    · replace hf := ite_f c2 hf
      refine z_iconst C 1 dX11_isParty_9 (by decide) ?_
      refine z_goto C 14 dX11_isParty_10 (by decide) ?_
      cases hf
      exact z_zret C rfl nb1 dX11_isParty_14
set_option maxHeartbeats 4000000 in
set_option maxRecDepth 100000 in
theorem tX11_party (l : Launch) (G : GG) {K : SK} (hL : Lay K) (M : MM) (x1 : Int32) (x2 : Int32) (x3 : Int32) (x4 : Int32) (pp : (Int32 × MM)) (hf : fX11_party M x1 x2 x3 x4 = some pp) : Ct l yX11_party cX11_party 7 (some .int) 5 0 0 G K M [.ref (G.1 + 0), .int x1, .int x2, .int x3, .int x4] (some (.int pp.1)) K pp.2 := by
  refine z_enter (lv := [(0, .ref (G.1 + 0)), (1, .int x1), (2, .int x2), (3, .int x3), (4, .int x4)]) (by decide +kernel) (Nat.le_of_ble_eq_true rfl) rfl ?_
  intro p e s m args below meth c C hnm hs0
  replace C : CX p s m args meth c cX11_party 7 (some .int) RX11 G := C
  unfold fX11_party at hf
  refine z_aload_n C 0 0 dX11_party_0 rfl rfl ?_
  refine z_getR C ok_X11 (lay_c0 hL) 0 (1) (by decide) rfl (lay_r0_0 hL) q_fl_X11_10 dX11_party_1 ?_
  refine z_iload_n C 1 1 dX11_party_4 rfl rfl ?_
  replace hf := bd_out hf
  obtain ⟨p1, e2, hf⟩ := hf
  refine z_cV1 C [] (tX9_parishAt l G hL M x1 _ e2) lk_X9_parishAt ok_X9 (lay_c1 hL) q_ml_X11_149 rfl ⟨Nat.le_of_ble_eq_true rfl, Nat.le_of_ble_eq_true rfl⟩ rfl (Nat.le_of_ble_eq_true rfl) ⟨Nat.le_refl _, Nat.le_refl _⟩ dX11_party_5 ?_
  refine z_qstore C [(5, rfv G p1), (0, .ref (G.1 + 0)), (1, .int x1), (2, .int x2), (3, .int x3), (4, .int x4)] dX11_party_8 (by decide) rfl rfl ?_
  refine z_aload_n C 1 0 dX11_party_10 rfl rfl ?_
  refine z_getR C ok_X11 (lay_c0 hL) 0 (1) (by decide) rfl (lay_r0_0 hL) q_fl_X11_10 dX11_party_11 ?_
  refine z_iload_n C 3 2 dX11_party_14 rfl rfl ?_
  replace hf := bd_out hf
  obtain ⟨p3, e4, hf⟩ := hf
  refine z_cV1 C [] (tX9_lawAt l G hL M x2 _ e4) lk_X9_lawAt ok_X9 (lay_c1 hL) q_ml_X11_164 rfl ⟨Nat.le_of_ble_eq_true rfl, Nat.le_of_ble_eq_true rfl⟩ rfl (Nat.le_of_ble_eq_true rfl) ⟨Nat.le_refl _, Nat.le_refl _⟩ dX11_party_15 ?_
  refine z_qstore C [(6, rfv G p3), (5, rfv G p1), (0, .ref (G.1 + 0)), (1, .int x1), (2, .int x2), (3, .int x3), (4, .int x4)] dX11_party_18 (by decide) (by simp [va_rf_cat]) rfl ?_
  refine z_qload C 1 dX11_party_20 rfl ?_
  refine z_ifnullR C 37 dX11_party_22 (by decide) (fun c5 => ?_) (fun c5 => ?_)
  · subst c5
    refine z_iconst C (-1) dX11_party_37 (by decide) ?_
    cases hf
    exact z_iret C rfl dX11_party_38
  · obtain ⟨a6, rfl⟩ := Option.ne_none_iff_exists'.mp c5
    have h7 := (okf_parishAt hL e2) a6 rfl
    refine z_qload C 0 dX11_party_25 rfl ?_
    refine z_ifnullR C 37 dX11_party_27 (by decide) (fun c8 => ?_) (fun c8 => ?_)
    · subst c8
      refine z_iconst C (-1) dX11_party_37 (by decide) ?_
      cases hf
      exact z_iret C rfl dX11_party_38
    · obtain ⟨a9, rfl⟩ := Option.ne_none_iff_exists'.mp c8
      have h10 := (okf_lawAt hL e4) a9 rfl
      refine z_iload_n C 5 3 dX11_party_30 rfl rfl ?_
      refine z_cS1 C [] (tX11_isParty l G hL M x3) lk_X11_isParty q_ml_X11_213 rfl ⟨Nat.le_of_ble_eq_true rfl, Nat.le_of_ble_eq_true rfl⟩ rfl (Nat.le_of_ble_eq_true rfl) ⟨Nat.le_refl _, Nat.le_refl _⟩ dX11_party_31 ?_
      refine z_if_ne C 39 dX11_party_34 (by decide) (fun c11 => ?_) (fun c11 => ?_)
      · replace hf := ite_f c11 hf
        refine z_aload_n C 2 0 dX11_party_39 rfl rfl ?_
        refine z_getR C ok_X11 (lay_c0 hL) 3 (60) (by decide) rfl (lay_r0_3 hL) q_fl_X11_30 dX11_party_40 ?_
        refine z_aload C 1 dX11_party_43 rfl ?_
        replace hf := bd_out hf
        obtain ⟨p12, e13, hf⟩ := hf
        refine z_cV0 C [] (tX0_begin l G hL M a6 h7 _ e13) lk_X0_begin ok_X0 (lay_c60 hL) q_ml_X11_188 rfl ⟨Nat.le_of_ble_eq_true rfl, Nat.le_of_ble_eq_true rfl⟩ rfl (Nat.le_of_ble_eq_true rfl) ⟨Nat.le_refl _, Nat.le_refl _⟩ dX11_party_45 ?_
        refine z_iload C 6 dX11_party_48 rfl ?_
        refine z_if_eq C 64 dX11_party_50 (by decide) (fun c14 => ?_) (fun c14 => ?_)
        · replace hf := ite_t c14 hf
          refine z_aload_n C 2 0 dX11_party_64 rfl rfl ?_
          refine z_getR C ok_X11 (lay_c0 hL) 3 (60) (by decide) rfl (lay_r0_3 hL) q_fl_X11_30 dX11_party_65 ?_
          refine z_aload C 0 dX11_party_68 rfl ?_
          replace hf := bd_out hf
          obtain ⟨p15, e16, hf⟩ := hf
          refine z_cV0 C [] (tX0_addTotals l G hL p12 a9 h10 _ e16) lk_X0_addTotals ok_X0 (lay_c60 hL) q_ml_X11_219 rfl ⟨Nat.le_of_ble_eq_true rfl, Nat.le_of_ble_eq_true rfl⟩ rfl (Nat.le_of_ble_eq_true rfl) ⟨Nat.le_refl _, Nat.le_refl _⟩ dX11_party_70 ?_
          refine z_aload_n C 2 0 dX11_party_73 rfl rfl ?_
          refine z_getR C ok_X11 (lay_c0 hL) 3 (60) (by decide) rfl (lay_r0_3 hL) q_fl_X11_30 dX11_party_74 ?_
          refine z_getR C ok_X0 (lay_c60 hL) 2 (71) (by decide) rfl (lay_r60_2 hL) q_fl_X11_222 dX11_party_77 ?_
          refine z_iload_n C 5 3 dX11_party_80 rfl rfl ?_
          replace hf := gd_out hf
          obtain ⟨g17, hf⟩ := hf
          refine z_iald C (lay_c71 hL) (inb_in g17) dX11_party_81 ?_
          cases hf
          exact z_iret C rfl dX11_party_82
        · replace hf := ite_f c14 hf
          refine z_aload_n C 2 0 dX11_party_53 rfl rfl ?_
          refine z_getR C ok_X11 (lay_c0 hL) 3 (60) (by decide) rfl (lay_r0_3 hL) q_fl_X11_30 dX11_party_54 ?_
          refine z_iload_n C 5 3 dX11_party_57 rfl rfl ?_
          refine z_aload C 0 dX11_party_58 rfl ?_
          replace hf := bd_out hf
          obtain ⟨p18, e19, hf⟩ := hf
          refine z_cV1 C [] (tX0_seatsOf l G hL p12 x3 a9 h10 _ e19) lk_X0_seatsOf ok_X0 (lay_c60 hL) q_ml_X11_216 rfl ⟨Nat.le_of_ble_eq_true rfl, Nat.le_of_ble_eq_true rfl⟩ rfl (Nat.le_of_ble_eq_true rfl) ⟨Nat.le_refl _, Nat.le_refl _⟩ dX11_party_60 ?_
          cases hf
          exact z_iret C rfl dX11_party_63
      · replace hf := ite_t c11 hf
        refine z_iconst C (-1) dX11_party_37 (by decide) ?_
        cases hf
        exact z_iret C rfl dX11_party_38
set_option maxHeartbeats 4000000 in
set_option maxRecDepth 100000 in
theorem tX11_stop (l : Launch) (G : GG) {K : SK} (hL : Lay K) (M : MM) (x1 : Int32) (x2 : Int32) (x3 : Int32) (pp : (Int32 × MM)) (hf : fX11_stop M x1 x2 x3 = some pp) : Ct l yX11_stop cX11_stop 7 (some .int) 7 0 0 G K M [.ref (G.1 + 0), .int x1, .int x2, .int x3] (some (.int pp.1)) K pp.2 := by
  refine z_enter (lv := [(0, .ref (G.1 + 0)), (1, .int x1), (2, .int x2), (3, .int x3)]) (by decide +kernel) (Nat.le_of_ble_eq_true rfl) rfl ?_
  intro p e s m args below meth c C hnm hs0
  replace C : CX p s m args meth c cX11_stop 7 (some .int) RX11 G := C
  unfold fX11_stop at hf
  refine z_aload_n C 0 0 dX11_stop_0 rfl rfl ?_
  refine z_getR C ok_X11 (lay_c0 hL) 0 (1) (by decide) rfl (lay_r0_0 hL) q_fl_X11_10 dX11_stop_1 ?_
  refine z_iload_n C 1 1 dX11_stop_4 rfl rfl ?_
  replace hf := bd_out hf
  obtain ⟨p1, e2, hf⟩ := hf
  refine z_cV1 C [] (tX9_parishAt l G hL M x1 _ e2) lk_X9_parishAt ok_X9 (lay_c1 hL) q_ml_X11_149 rfl ⟨Nat.le_of_ble_eq_true rfl, Nat.le_of_ble_eq_true rfl⟩ rfl (Nat.le_of_ble_eq_true rfl) ⟨Nat.le_refl _, Nat.le_refl _⟩ dX11_stop_5 ?_
  refine z_qstore C [(4, rfv G p1), (0, .ref (G.1 + 0)), (1, .int x1), (2, .int x2), (3, .int x3)] dX11_stop_8 (by decide) rfl rfl ?_
  refine z_aload_n C 1 0 dX11_stop_10 rfl rfl ?_
  refine z_getR C ok_X11 (lay_c0 hL) 0 (1) (by decide) rfl (lay_r0_0 hL) q_fl_X11_10 dX11_stop_11 ?_
  refine z_iload_n C 3 2 dX11_stop_14 rfl rfl ?_
  replace hf := bd_out hf
  obtain ⟨p3, e4, hf⟩ := hf
  refine z_cV1 C [] (tX9_lawAt l G hL M x2 _ e4) lk_X9_lawAt ok_X9 (lay_c1 hL) q_ml_X11_164 rfl ⟨Nat.le_of_ble_eq_true rfl, Nat.le_of_ble_eq_true rfl⟩ rfl (Nat.le_of_ble_eq_true rfl) ⟨Nat.le_refl _, Nat.le_refl _⟩ dX11_stop_15 ?_
  refine z_qstore C [(5, rfv G p3), (4, rfv G p1), (0, .ref (G.1 + 0)), (1, .int x1), (2, .int x2), (3, .int x3)] dX11_stop_18 (by decide) (by simp [va_rf_cat]) rfl ?_
  refine z_aload_n C 2 0 dX11_stop_20 rfl rfl ?_
  refine z_getR C ok_X11 (lay_c0 hL) 0 (1) (by decide) rfl (lay_r0_0 hL) q_fl_X11_10 dX11_stop_21 ?_
  refine z_iload_n C 5 3 dX11_stop_24 rfl rfl ?_
  replace hf := bd_out hf
  obtain ⟨p5, e6, hf⟩ := hf
  refine z_cV1 C [] (tX9_eveningAt l G hL M x3 _ e6) lk_X9_eveningAt ok_X9 (lay_c1 hL) q_ml_X11_169 rfl ⟨Nat.le_of_ble_eq_true rfl, Nat.le_of_ble_eq_true rfl⟩ rfl (Nat.le_of_ble_eq_true rfl) ⟨Nat.le_refl _, Nat.le_refl _⟩ dX11_stop_25 ?_
  refine z_qstore C [(6, rfv G p5), (5, rfv G p3), (4, rfv G p1), (0, .ref (G.1 + 0)), (1, .int x1), (2, .int x2), (3, .int x3)] dX11_stop_28 (by decide) (by simp [va_rf_cat]) rfl ?_
  refine z_qload C 2 dX11_stop_30 rfl ?_
  refine z_ifnullR C 45 dX11_stop_32 (by decide) (fun c7 => ?_) (fun c7 => ?_)
  · subst c7
    refine z_iconst C (-1) dX11_stop_45 (by decide) ?_
    cases hf
    exact z_iret C rfl dX11_stop_46
  · obtain ⟨a8, rfl⟩ := Option.ne_none_iff_exists'.mp c7
    have h9 := (okf_parishAt hL e2) a8 rfl
    refine z_qload C 1 dX11_stop_35 rfl ?_
    refine z_ifnullR C 45 dX11_stop_37 (by decide) (fun c10 => ?_) (fun c10 => ?_)
    · subst c10
      refine z_iconst C (-1) dX11_stop_45 (by decide) ?_
      cases hf
      exact z_iret C rfl dX11_stop_46
    · obtain ⟨a11, rfl⟩ := Option.ne_none_iff_exists'.mp c10
      have h12 := (okf_lawAt hL e4) a11 rfl
      refine z_qload C 0 dX11_stop_40 rfl ?_
      refine z_ifnonnullR C 47 dX11_stop_42 (by decide) (fun c13 => ?_) (fun c13 => ?_)
      · obtain ⟨a14, rfl⟩ := Option.ne_none_iff_exists'.mp c13
        have h15 := (okf_eveningAt hL e6) a14 rfl
        refine z_aload_n C 3 0 dX11_stop_47 rfl rfl ?_
        refine z_getR C ok_X11 (lay_c0 hL) 4 (78) (by decide) rfl (lay_r0_4 hL) q_fl_X11_39 dX11_stop_48 ?_
        refine z_aload C 2 dX11_stop_51 rfl ?_
        replace hf := bd_out hf
        obtain ⟨p16, e17, hf⟩ := hf
        refine z_cV0 C [] (tX6_begin l G hL M a8 h9 _ e17) lk_X6_begin ok_X6 (lay_c78 hL) q_ml_X11_225 rfl ⟨Nat.le_of_ble_eq_true rfl, Nat.le_of_ble_eq_true rfl⟩ rfl (Nat.le_of_ble_eq_true rfl) ⟨Nat.le_refl _, Nat.le_refl _⟩ dX11_stop_53 ?_
        refine z_aload_n C 3 0 dX11_stop_56 rfl rfl ?_
        refine z_getR C ok_X11 (lay_c0 hL) 4 (78) (by decide) rfl (lay_r0_4 hL) q_fl_X11_39 dX11_stop_57 ?_
        refine z_aload C 0 dX11_stop_60 rfl ?_
        refine z_aload C 1 dX11_stop_62 rfl ?_
        refine z_aload C 0 dX11_stop_64 rfl ?_
        refine z_getI C ok_X2 (Ev_o h15) 0 (by decide) rfl q_fl_X11_173 dX11_stop_66 ?_
        replace hf := bd_out hf
        obtain ⟨p18, e19, hf⟩ := hf
        refine z_cV1 C [] (tX6_perform l G hL p16 a14 h15 a11 h12 (gI p16 a14 0) _ e19) lk_X6_perform ok_X6 (lay_c78 hL) q_ml_X11_226 rfl ⟨Nat.le_of_ble_eq_true rfl, Nat.le_of_ble_eq_true rfl⟩ rfl (Nat.le_of_ble_eq_true rfl) ⟨Nat.le_refl _, Nat.le_refl _⟩ dX11_stop_69 ?_
        cases hf
        exact z_iret C rfl dX11_stop_72
      · subst c13
        refine z_iconst C (-1) dX11_stop_45 (by decide) ?_
        cases hf
        exact z_iret C rfl dX11_stop_46
set_option maxHeartbeats 4000000 in
set_option maxRecDepth 100000 in
theorem tX11_state (l : Launch) (G : GG) {K : SK} (hL : Lay K) (M : MM) (x1 : Int32) (x2 : Int32) (x3 : Int32) (x4 : Int32) (x5 : Int32) (pp : (Int32 × MM)) (hf : fX11_state M x1 x2 x3 x4 x5 = some pp) : Ct l yX11_state cX11_state 9 (some .int) 7 0 0 G K M [.ref (G.1 + 0), .int x1, .int x2, .int x3, .int x4, .int x5] (some (.int pp.1)) K pp.2 := by
  refine z_enter (lv := [(0, .ref (G.1 + 0)), (1, .int x1), (2, .int x2), (3, .int x3), (4, .int x4), (5, .int x5)]) (by decide +kernel) (Nat.le_of_ble_eq_true rfl) rfl ?_
  intro p e s m args below meth c C hnm hs0
  replace C : CX p s m args meth c cX11_state 9 (some .int) RX11 G := C
  unfold fX11_state at hf
  refine z_aload_n C 0 0 dX11_state_0 rfl rfl ?_
  refine z_getR C ok_X11 (lay_c0 hL) 0 (1) (by decide) rfl (lay_r0_0 hL) q_fl_X11_10 dX11_state_1 ?_
  refine z_iload_n C 1 1 dX11_state_4 rfl rfl ?_
  replace hf := bd_out hf
  obtain ⟨p1, e2, hf⟩ := hf
  refine z_cV1 C [] (tX9_parishAt l G hL M x1 _ e2) lk_X9_parishAt ok_X9 (lay_c1 hL) q_ml_X11_149 rfl ⟨Nat.le_of_ble_eq_true rfl, Nat.le_of_ble_eq_true rfl⟩ rfl (Nat.le_of_ble_eq_true rfl) ⟨Nat.le_refl _, Nat.le_refl _⟩ dX11_state_5 ?_
  refine z_qstore C [(6, rfv G p1), (0, .ref (G.1 + 0)), (1, .int x1), (2, .int x2), (3, .int x3), (4, .int x4), (5, .int x5)] dX11_state_8 (by decide) rfl rfl ?_
  refine z_aload_n C 1 0 dX11_state_10 rfl rfl ?_
  refine z_getR C ok_X11 (lay_c0 hL) 0 (1) (by decide) rfl (lay_r0_0 hL) q_fl_X11_10 dX11_state_11 ?_
  refine z_iload_n C 3 2 dX11_state_14 rfl rfl ?_
  replace hf := bd_out hf
  obtain ⟨p3, e4, hf⟩ := hf
  refine z_cV1 C [] (tX9_lawAt l G hL M x2 _ e4) lk_X9_lawAt ok_X9 (lay_c1 hL) q_ml_X11_164 rfl ⟨Nat.le_of_ble_eq_true rfl, Nat.le_of_ble_eq_true rfl⟩ rfl (Nat.le_of_ble_eq_true rfl) ⟨Nat.le_refl _, Nat.le_refl _⟩ dX11_state_15 ?_
  refine z_qstore C [(7, rfv G p3), (6, rfv G p1), (0, .ref (G.1 + 0)), (1, .int x1), (2, .int x2), (3, .int x3), (4, .int x4), (5, .int x5)] dX11_state_18 (by decide) (by simp [va_rf_cat]) rfl ?_
  refine z_aload_n C 2 0 dX11_state_20 rfl rfl ?_
  refine z_getR C ok_X11 (lay_c0 hL) 0 (1) (by decide) rfl (lay_r0_0 hL) q_fl_X11_10 dX11_state_21 ?_
  refine z_iload_n C 5 3 dX11_state_24 rfl rfl ?_
  replace hf := bd_out hf
  obtain ⟨p5, e6, hf⟩ := hf
  refine z_cV1 C [] (tX9_eveningAt l G hL M x3 _ e6) lk_X9_eveningAt ok_X9 (lay_c1 hL) q_ml_X11_169 rfl ⟨Nat.le_of_ble_eq_true rfl, Nat.le_of_ble_eq_true rfl⟩ rfl (Nat.le_of_ble_eq_true rfl) ⟨Nat.le_refl _, Nat.le_refl _⟩ dX11_state_25 ?_
  refine z_qstore C [(8, rfv G p5), (7, rfv G p3), (6, rfv G p1), (0, .ref (G.1 + 0)), (1, .int x1), (2, .int x2), (3, .int x3), (4, .int x4), (5, .int x5)] dX11_state_28 (by decide) (by simp [va_rf_cat]) rfl ?_
  refine z_qload C 2 dX11_state_30 rfl ?_
  refine z_ifnullR C 45 dX11_state_32 (by decide) (fun c7 => ?_) (fun c7 => ?_)
  · subst c7
    refine z_bipush C (-2) dX11_state_45 (by decide) ?_
    cases hf
    exact z_iret C rfl dX11_state_47
  · obtain ⟨a8, rfl⟩ := Option.ne_none_iff_exists'.mp c7
    have h9 := (okf_parishAt hL e2) a8 rfl
    refine z_qload C 1 dX11_state_35 rfl ?_
    refine z_ifnullR C 45 dX11_state_37 (by decide) (fun c10 => ?_) (fun c10 => ?_)
    · subst c10
      refine z_bipush C (-2) dX11_state_45 (by decide) ?_
      cases hf
      exact z_iret C rfl dX11_state_47
    · obtain ⟨a11, rfl⟩ := Option.ne_none_iff_exists'.mp c10
      have h12 := (okf_lawAt hL e4) a11 rfl
      refine z_qload C 0 dX11_state_40 rfl ?_
      refine z_ifnonnullR C 48 dX11_state_42 (by decide) (fun c13 => ?_) (fun c13 => ?_)
      · obtain ⟨a14, rfl⟩ := Option.ne_none_iff_exists'.mp c13
        have h15 := (okf_eveningAt hL e6) a14 rfl
        refine z_iload C 7 dX11_state_48 rfl ?_
        refine z_if_lt C 63 dX11_state_50 (by decide) (fun c16 => ?_) (fun c16 => ?_)
        · replace hf := ite_t c16 hf
          refine z_bipush C (-2) dX11_state_63 (by decide) ?_
          cases hf
          exact z_iret C rfl dX11_state_65
        · replace hf := ite_f c16 hf
          refine z_iload C 7 dX11_state_53 rfl ?_
          refine z_aload C 0 dX11_state_55 rfl ?_
          refine z_getI C ok_X2 (Ev_o h15) 0 (by decide) rfl q_fl_X11_173 dX11_state_57 ?_
          refine z_icmp_le C 66 dX11_state_60 (by decide) (fun c17 => ?_) (fun c17 => ?_)
          · replace hf := ite_t c17 hf
            refine z_aload_n C 3 0 dX11_state_66 rfl rfl ?_
            refine z_getR C ok_X11 (lay_c0 hL) 4 (78) (by decide) rfl (lay_r0_4 hL) q_fl_X11_39 dX11_state_67 ?_
            refine z_aload C 2 dX11_state_70 rfl ?_
            replace hf := bd_out hf
            obtain ⟨p18, e19, hf⟩ := hf
            refine z_cV0 C [] (tX6_begin l G hL M a8 h9 _ e19) lk_X6_begin ok_X6 (lay_c78 hL) q_ml_X11_225 rfl ⟨Nat.le_of_ble_eq_true rfl, Nat.le_of_ble_eq_true rfl⟩ rfl (Nat.le_of_ble_eq_true rfl) ⟨Nat.le_refl _, Nat.le_refl _⟩ dX11_state_72 ?_
            refine z_aload_n C 3 0 dX11_state_75 rfl rfl ?_
            refine z_getR C ok_X11 (lay_c0 hL) 4 (78) (by decide) rfl (lay_r0_4 hL) q_fl_X11_39 dX11_state_76 ?_
            refine z_aload C 0 dX11_state_79 rfl ?_
            refine z_aload C 1 dX11_state_81 rfl ?_
            refine z_iload C 7 dX11_state_83 rfl ?_
            replace hf := bd_out hf
            obtain ⟨p20, e21, hf⟩ := hf
            refine z_cV1 C [] (tX6_perform l G hL p18 a14 h15 a11 h12 x4 _ e21) lk_X6_perform ok_X6 (lay_c78 hL) q_ml_X11_226 rfl ⟨Nat.le_of_ble_eq_true rfl, Nat.le_of_ble_eq_true rfl⟩ rfl (Nat.le_of_ble_eq_true rfl) ⟨Nat.le_refl _, Nat.le_refl _⟩ dX11_state_85 ?_
            refine z_iload C 7 dX11_state_88 rfl ?_
            refine z_icmp_ge C 96 dX11_state_90 (by decide) (fun c22 => ?_) (fun c22 => ?_)
            · replace hf := ite_t c22 hf
              refine z_aload_n C 3 0 dX11_state_96 rfl rfl ?_
              refine z_getR C ok_X11 (lay_c0 hL) 4 (78) (by decide) rfl (lay_r0_4 hL) q_fl_X11_39 dX11_state_97 ?_
              refine z_aload C 1 dX11_state_100 rfl ?_
              refine z_iload C 8 dX11_state_102 rfl ?_
              replace hf := bd_out hf
              obtain ⟨p23, e24, hf⟩ := hf
              refine z_cV1 C [] (tX6_tell l G hL p20.2 a11 h12 x5 _ e24) lk_X6_tell ok_X6 (lay_c78 hL) q_ml_X11_230 rfl ⟨Nat.le_of_ble_eq_true rfl, Nat.le_of_ble_eq_true rfl⟩ rfl (Nat.le_of_ble_eq_true rfl) ⟨Nat.le_refl _, Nat.le_refl _⟩ dX11_state_104 ?_
              cases hf
              exact z_iret C rfl dX11_state_107
            · replace hf := ite_f c22 hf
              refine z_bipush C (-2) dX11_state_93 (by decide) ?_
              cases hf
              exact z_iret C rfl dX11_state_95
          · replace hf := ite_f c17 hf
            refine z_bipush C (-2) dX11_state_63 (by decide) ?_
            cases hf
            exact z_iret C rfl dX11_state_65
      · subst c13
        refine z_bipush C (-2) dX11_state_45 (by decide) ?_
        cases hf
        exact z_iret C rfl dX11_state_47
set_option maxHeartbeats 4000000 in
set_option maxRecDepth 100000 in
theorem tX11_stand (l : Launch) (G : GG) {K : SK} (hL : Lay K) (M : MM) (x1 : Int32) (x2 : Int32) (x3 : Int32) (x4 : Int32) (x5 : Int32) (pp : (Int32 × MM)) (hf : fX11_stand M x1 x2 x3 x4 x5 = some pp) : Ct l yX11_stand cX11_stand 8 (some .int) 6 0 0 G K M [.ref (G.1 + 0), .int x1, .int x2, .int x3, .int x4, .int x5] (some (.int pp.1)) K pp.2 := by
  refine z_enter (lv := [(0, .ref (G.1 + 0)), (1, .int x1), (2, .int x2), (3, .int x3), (4, .int x4), (5, .int x5)]) (by decide +kernel) (Nat.le_of_ble_eq_true rfl) rfl ?_
  intro p e s m args below meth c C hnm hs0
  replace C : CX p s m args meth c cX11_stand 8 (some .int) RX11 G := C
  unfold fX11_stand at hf
  refine z_aload_n C 0 0 dX11_stand_0 rfl rfl ?_
  refine z_getR C ok_X11 (lay_c0 hL) 0 (1) (by decide) rfl (lay_r0_0 hL) q_fl_X11_10 dX11_stand_1 ?_
  refine z_iload_n C 1 1 dX11_stand_4 rfl rfl ?_
  replace hf := bd_out hf
  obtain ⟨p1, e2, hf⟩ := hf
  refine z_cV1 C [] (tX9_parishAt l G hL M x1 _ e2) lk_X9_parishAt ok_X9 (lay_c1 hL) q_ml_X11_149 rfl ⟨Nat.le_of_ble_eq_true rfl, Nat.le_of_ble_eq_true rfl⟩ rfl (Nat.le_of_ble_eq_true rfl) ⟨Nat.le_refl _, Nat.le_refl _⟩ dX11_stand_5 ?_
  refine z_qstore C [(6, rfv G p1), (0, .ref (G.1 + 0)), (1, .int x1), (2, .int x2), (3, .int x3), (4, .int x4), (5, .int x5)] dX11_stand_8 (by decide) rfl rfl ?_
  refine z_aload_n C 1 0 dX11_stand_10 rfl rfl ?_
  refine z_getR C ok_X11 (lay_c0 hL) 0 (1) (by decide) rfl (lay_r0_0 hL) q_fl_X11_10 dX11_stand_11 ?_
  refine z_iload_n C 3 2 dX11_stand_14 rfl rfl ?_
  replace hf := bd_out hf
  obtain ⟨p3, e4, hf⟩ := hf
  refine z_cV1 C [] (tX9_lawAt l G hL M x2 _ e4) lk_X9_lawAt ok_X9 (lay_c1 hL) q_ml_X11_164 rfl ⟨Nat.le_of_ble_eq_true rfl, Nat.le_of_ble_eq_true rfl⟩ rfl (Nat.le_of_ble_eq_true rfl) ⟨Nat.le_refl _, Nat.le_refl _⟩ dX11_stand_15 ?_
  refine z_qstore C [(7, rfv G p3), (6, rfv G p1), (0, .ref (G.1 + 0)), (1, .int x1), (2, .int x2), (3, .int x3), (4, .int x4), (5, .int x5)] dX11_stand_18 (by decide) (by simp [va_rf_cat]) rfl ?_
  refine z_qload C 1 dX11_stand_20 rfl ?_
  refine z_ifnullR C 39 dX11_stand_22 (by decide) (fun c5 => ?_) (fun c5 => ?_)
  · subst c5
    refine z_iconst C (-1) dX11_stand_39 (by decide) ?_
    cases hf
    exact z_iret C rfl dX11_stand_40
  · obtain ⟨a6, rfl⟩ := Option.ne_none_iff_exists'.mp c5
    have h7 := (okf_parishAt hL e2) a6 rfl
    refine z_qload C 0 dX11_stand_25 rfl ?_
    refine z_ifnullR C 39 dX11_stand_27 (by decide) (fun c8 => ?_) (fun c8 => ?_)
    · subst c8
      refine z_iconst C (-1) dX11_stand_39 (by decide) ?_
      cases hf
      exact z_iret C rfl dX11_stand_40
    · obtain ⟨a9, rfl⟩ := Option.ne_none_iff_exists'.mp c8
      have h10 := (okf_lawAt hL e4) a9 rfl
      refine z_aload C 1 dX11_stand_30 rfl ?_
      refine z_iload_n C 5 3 dX11_stand_32 rfl rfl ?_
      refine z_cV1 C [] (tX5_hasPerson l G hL M a6 h7 x3) lk_X5_hasPerson ok_X5 (Par_o h7) q_ml_X11_199 rfl ⟨Nat.le_of_ble_eq_true rfl, Nat.le_of_ble_eq_true rfl⟩ rfl (Nat.le_of_ble_eq_true rfl) ⟨Nat.le_refl _, Nat.le_refl _⟩ dX11_stand_33 ?_
      refine z_if_ne C 41 dX11_stand_36 (by decide) (fun c11 => ?_) (fun c11 => ?_)
      · replace hf := ite_f c11 hf
        refine z_aload_n C 2 0 dX11_stand_41 rfl rfl ?_
        refine z_getR C ok_X11 (lay_c0 hL) 5 (81) (by decide) rfl (lay_r0_5 hL) q_fl_X11_46 dX11_stand_42 ?_
        refine z_aload C 1 dX11_stand_45 rfl ?_
        refine z_aload C 0 dX11_stand_47 rfl ?_
        refine z_iload_n C 5 3 dX11_stand_49 rfl rfl ?_
        refine z_iload C 6 dX11_stand_50 rfl ?_
        replace hf := bd_out hf
        obtain ⟨p12, e13, hf⟩ := hf
        refine z_cV0 C [] (tX1_placeOne l G hL M a6 h7 a9 h10 x3 x4 _ e13) lk_X1_placeOne ok_X1 (lay_c81 hL) q_ml_X11_233 rfl ⟨Nat.le_of_ble_eq_true rfl, Nat.le_of_ble_eq_true rfl⟩ rfl (Nat.le_of_ble_eq_true rfl) ⟨Nat.le_refl _, Nat.le_refl _⟩ dX11_stand_52 ?_
        refine z_iload C 7 dX11_stand_55 rfl ?_
        refine z_if_eq C 70 dX11_stand_57 (by decide) (fun c14 => ?_) (fun c14 => ?_)
        · replace hf := ite_t c14 hf
          refine z_aload_n C 2 0 dX11_stand_70 rfl rfl ?_
          refine z_getR C ok_X11 (lay_c0 hL) 5 (81) (by decide) rfl (lay_r0_5 hL) q_fl_X11_46 dX11_stand_71 ?_
          refine z_getI C ok_X1 (lay_c81 hL) 1 (by decide) rfl q_fl_X11_240 dX11_stand_74 ?_
          cases hf
          exact z_iret C rfl dX11_stand_77
        · replace hf := ite_f c14 hf
          refine z_aload_n C 2 0 dX11_stand_60 rfl rfl ?_
          refine z_getR C ok_X11 (lay_c0 hL) 5 (81) (by decide) rfl (lay_r0_5 hL) q_fl_X11_46 dX11_stand_61 ?_
          refine z_getI C ok_X1 (lay_c81 hL) 0 (by decide) rfl q_fl_X11_237 dX11_stand_64 ?_
          refine z_goto C 77 dX11_stand_67 (by decide) ?_
          cases hf
          exact z_iret C rfl dX11_stand_77
      · replace hf := ite_t c11 hf
        refine z_iconst C (-1) dX11_stand_39 (by decide) ?_
        cases hf
        exact z_iret C rfl dX11_stand_40
set_option maxHeartbeats 4000000 in
set_option maxRecDepth 100000 in
theorem tX11_together (l : Launch) (G : GG) {K : SK} (hL : Lay K) (M : MM) (x1 : Int32) (x2 : Int32) (x3 : Int32) (x4 : Int32) (x5 : Int32) (pp : (Int32 × MM)) (hf : fX11_together M x1 x2 x3 x4 x5 = some pp) : Ct l yX11_together cX11_together 8 (some .int) 6 0 0 G K M [.ref (G.1 + 0), .int x1, .int x2, .int x3, .int x4, .int x5] (some (.int pp.1)) K pp.2 := by
  refine z_enter (lv := [(0, .ref (G.1 + 0)), (1, .int x1), (2, .int x2), (3, .int x3), (4, .int x4), (5, .int x5)]) (by decide +kernel) (Nat.le_of_ble_eq_true rfl) rfl ?_
  intro p e s m args below meth c C hnm hs0
  replace C : CX p s m args meth c cX11_together 8 (some .int) RX11 G := C
  unfold fX11_together at hf
  refine z_aload_n C 0 0 dX11_together_0 rfl rfl ?_
  refine z_getR C ok_X11 (lay_c0 hL) 0 (1) (by decide) rfl (lay_r0_0 hL) q_fl_X11_10 dX11_together_1 ?_
  refine z_iload_n C 1 1 dX11_together_4 rfl rfl ?_
  replace hf := bd_out hf
  obtain ⟨p1, e2, hf⟩ := hf
  refine z_cV1 C [] (tX9_parishAt l G hL M x1 _ e2) lk_X9_parishAt ok_X9 (lay_c1 hL) q_ml_X11_149 rfl ⟨Nat.le_of_ble_eq_true rfl, Nat.le_of_ble_eq_true rfl⟩ rfl (Nat.le_of_ble_eq_true rfl) ⟨Nat.le_refl _, Nat.le_refl _⟩ dX11_together_5 ?_
  refine z_qstore C [(6, rfv G p1), (0, .ref (G.1 + 0)), (1, .int x1), (2, .int x2), (3, .int x3), (4, .int x4), (5, .int x5)] dX11_together_8 (by decide) rfl rfl ?_
  refine z_aload_n C 1 0 dX11_together_10 rfl rfl ?_
  refine z_getR C ok_X11 (lay_c0 hL) 0 (1) (by decide) rfl (lay_r0_0 hL) q_fl_X11_10 dX11_together_11 ?_
  refine z_iload_n C 3 2 dX11_together_14 rfl rfl ?_
  replace hf := bd_out hf
  obtain ⟨p3, e4, hf⟩ := hf
  refine z_cV1 C [] (tX9_lawAt l G hL M x2 _ e4) lk_X9_lawAt ok_X9 (lay_c1 hL) q_ml_X11_164 rfl ⟨Nat.le_of_ble_eq_true rfl, Nat.le_of_ble_eq_true rfl⟩ rfl (Nat.le_of_ble_eq_true rfl) ⟨Nat.le_refl _, Nat.le_refl _⟩ dX11_together_15 ?_
  refine z_qstore C [(7, rfv G p3), (6, rfv G p1), (0, .ref (G.1 + 0)), (1, .int x1), (2, .int x2), (3, .int x3), (4, .int x4), (5, .int x5)] dX11_together_18 (by decide) (by simp [va_rf_cat]) rfl ?_
  refine z_qload C 1 dX11_together_20 rfl ?_
  refine z_ifnullR C 36 dX11_together_22 (by decide) (fun c5 => ?_) (fun c5 => ?_)
  · subst c5
    refine z_iconst C (-1) dX11_together_36 (by decide) ?_
    cases hf
    exact z_iret C rfl dX11_together_37
  · obtain ⟨a6, rfl⟩ := Option.ne_none_iff_exists'.mp c5
    have h7 := (okf_parishAt hL e2) a6 rfl
    refine z_qload C 0 dX11_together_25 rfl ?_
    refine z_ifnullR C 36 dX11_together_27 (by decide) (fun c8 => ?_) (fun c8 => ?_)
    · subst c8
      refine z_iconst C (-1) dX11_together_36 (by decide) ?_
      cases hf
      exact z_iret C rfl dX11_together_37
    · obtain ⟨a9, rfl⟩ := Option.ne_none_iff_exists'.mp c8
      have h10 := (okf_lawAt hL e4) a9 rfl
      refine z_iload_n C 5 3 dX11_together_30 rfl rfl ?_
      refine z_iload C 6 dX11_together_31 rfl ?_
      refine z_icmp_ne C 38 dX11_together_33 (by decide) (fun c11 => ?_) (fun c11 => ?_)
      · replace hf := ite_f c11 hf
        refine z_aload C 1 dX11_together_38 rfl ?_
        refine z_iload_n C 5 3 dX11_together_40 rfl rfl ?_
        refine z_cV1 C [] (tX5_hasPerson l G hL M a6 h7 x3) lk_X5_hasPerson ok_X5 (Par_o h7) q_ml_X11_199 rfl ⟨Nat.le_of_ble_eq_true rfl, Nat.le_of_ble_eq_true rfl⟩ rfl (Nat.le_of_ble_eq_true rfl) ⟨Nat.le_refl _, Nat.le_refl _⟩ dX11_together_41 ?_
        refine z_if_eq C 57 dX11_together_44 (by decide) (fun c12 => ?_) (fun c12 => ?_)
        · replace hf := ite_t c12 hf
          refine z_iconst C (-1) dX11_together_57 (by decide) ?_
          cases hf
          exact z_iret C rfl dX11_together_58
        · replace hf := ite_f c12 hf
          refine z_aload C 1 dX11_together_47 rfl ?_
          refine z_iload C 6 dX11_together_49 rfl ?_
          refine z_cV1 C [] (tX5_hasPerson l G hL M a6 h7 x4) lk_X5_hasPerson ok_X5 (Par_o h7) q_ml_X11_199 rfl ⟨Nat.le_of_ble_eq_true rfl, Nat.le_of_ble_eq_true rfl⟩ rfl (Nat.le_of_ble_eq_true rfl) ⟨Nat.le_refl _, Nat.le_refl _⟩ dX11_together_51 ?_
          refine z_if_ne C 59 dX11_together_54 (by decide) (fun c13 => ?_) (fun c13 => ?_)
          · replace hf := ite_f c13 hf
            refine z_aload_n C 2 0 dX11_together_59 rfl rfl ?_
            refine z_getR C ok_X11 (lay_c0 hL) 5 (81) (by decide) rfl (lay_r0_5 hL) q_fl_X11_46 dX11_together_60 ?_
            refine z_aload C 1 dX11_together_63 rfl ?_
            refine z_aload C 0 dX11_together_65 rfl ?_
            refine z_iload_n C 5 3 dX11_together_67 rfl rfl ?_
            refine z_iload C 6 dX11_together_68 rfl ?_
            replace hf := bd_out hf
            obtain ⟨p14, e15, hf⟩ := hf
            refine z_cV0 C [] (tX1_placeTwo l G hL M a6 h7 a9 h10 x3 x4 _ e15) lk_X1_placeTwo ok_X1 (lay_c81 hL) q_ml_X11_243 rfl ⟨Nat.le_of_ble_eq_true rfl, Nat.le_of_ble_eq_true rfl⟩ rfl (Nat.le_of_ble_eq_true rfl) ⟨Nat.le_refl _, Nat.le_refl _⟩ dX11_together_70 ?_
            refine z_iload C 7 dX11_together_73 rfl ?_
            refine z_if_eq C 88 dX11_together_75 (by decide) (fun c16 => ?_) (fun c16 => ?_)
            · replace hf := ite_t c16 hf
              refine z_aload_n C 2 0 dX11_together_88 rfl rfl ?_
              refine z_getR C ok_X11 (lay_c0 hL) 5 (81) (by decide) rfl (lay_r0_5 hL) q_fl_X11_46 dX11_together_89 ?_
              refine z_getI C ok_X1 (lay_c81 hL) 1 (by decide) rfl q_fl_X11_240 dX11_together_92 ?_
              cases hf
              exact z_iret C rfl dX11_together_95
            · replace hf := ite_f c16 hf
              refine z_aload_n C 2 0 dX11_together_78 rfl rfl ?_
              refine z_getR C ok_X11 (lay_c0 hL) 5 (81) (by decide) rfl (lay_r0_5 hL) q_fl_X11_46 dX11_together_79 ?_
              refine z_getI C ok_X1 (lay_c81 hL) 0 (by decide) rfl q_fl_X11_237 dX11_together_82 ?_
              refine z_goto C 95 dX11_together_85 (by decide) ?_
              cases hf
              exact z_iret C rfl dX11_together_95
          · replace hf := ite_t c13 hf
            refine z_iconst C (-1) dX11_together_57 (by decide) ?_
            cases hf
            exact z_iret C rfl dX11_together_58
      · replace hf := ite_t c11 hf
        refine z_iconst C (-1) dX11_together_36 (by decide) ?_
        cases hf
        exact z_iret C rfl dX11_together_37
set_option maxHeartbeats 4000000 in
set_option maxRecDepth 100000 in
theorem tX11_turned (l : Launch) (G : GG) {K : SK} (hL : Lay K) (M : MM) (x1 : Int32) (x2 : Int32) (x3 : Int32) (x4 : Int32) (pp : (Int32 × MM)) (hf : fX11_turned M x1 x2 x3 x4 = some pp) : Ct l yX11_turned cX11_turned 7 (some .int) 5 0 0 G K M [.ref (G.1 + 0), .int x1, .int x2, .int x3, .int x4] (some (.int pp.1)) K pp.2 := by
  refine z_enter (lv := [(0, .ref (G.1 + 0)), (1, .int x1), (2, .int x2), (3, .int x3), (4, .int x4)]) (by decide +kernel) (Nat.le_of_ble_eq_true rfl) rfl ?_
  intro p e s m args below meth c C hnm hs0
  replace C : CX p s m args meth c cX11_turned 7 (some .int) RX11 G := C
  unfold fX11_turned at hf
  refine z_aload_n C 0 0 dX11_turned_0 rfl rfl ?_
  refine z_getR C ok_X11 (lay_c0 hL) 0 (1) (by decide) rfl (lay_r0_0 hL) q_fl_X11_10 dX11_turned_1 ?_
  refine z_iload_n C 1 1 dX11_turned_4 rfl rfl ?_
  replace hf := bd_out hf
  obtain ⟨p1, e2, hf⟩ := hf
  refine z_cV1 C [] (tX9_parishAt l G hL M x1 _ e2) lk_X9_parishAt ok_X9 (lay_c1 hL) q_ml_X11_149 rfl ⟨Nat.le_of_ble_eq_true rfl, Nat.le_of_ble_eq_true rfl⟩ rfl (Nat.le_of_ble_eq_true rfl) ⟨Nat.le_refl _, Nat.le_refl _⟩ dX11_turned_5 ?_
  refine z_qstore C [(5, rfv G p1), (0, .ref (G.1 + 0)), (1, .int x1), (2, .int x2), (3, .int x3), (4, .int x4)] dX11_turned_8 (by decide) rfl rfl ?_
  refine z_aload_n C 1 0 dX11_turned_10 rfl rfl ?_
  refine z_getR C ok_X11 (lay_c0 hL) 0 (1) (by decide) rfl (lay_r0_0 hL) q_fl_X11_10 dX11_turned_11 ?_
  refine z_iload_n C 3 2 dX11_turned_14 rfl rfl ?_
  replace hf := bd_out hf
  obtain ⟨p3, e4, hf⟩ := hf
  refine z_cV1 C [] (tX9_lawAt l G hL M x2 _ e4) lk_X9_lawAt ok_X9 (lay_c1 hL) q_ml_X11_164 rfl ⟨Nat.le_of_ble_eq_true rfl, Nat.le_of_ble_eq_true rfl⟩ rfl (Nat.le_of_ble_eq_true rfl) ⟨Nat.le_refl _, Nat.le_refl _⟩ dX11_turned_15 ?_
  refine z_qstore C [(6, rfv G p3), (5, rfv G p1), (0, .ref (G.1 + 0)), (1, .int x1), (2, .int x2), (3, .int x3), (4, .int x4)] dX11_turned_18 (by decide) (by simp [va_rf_cat]) rfl ?_
  refine z_qload C 1 dX11_turned_20 rfl ?_
  refine z_ifnullR C 39 dX11_turned_22 (by decide) (fun c5 => ?_) (fun c5 => ?_)
  · subst c5
    refine z_iconst C (-1) dX11_turned_39 (by decide) ?_
    cases hf
    exact z_iret C rfl dX11_turned_40
  · obtain ⟨a6, rfl⟩ := Option.ne_none_iff_exists'.mp c5
    have h7 := (okf_parishAt hL e2) a6 rfl
    refine z_qload C 0 dX11_turned_25 rfl ?_
    refine z_ifnullR C 39 dX11_turned_27 (by decide) (fun c8 => ?_) (fun c8 => ?_)
    · subst c8
      refine z_iconst C (-1) dX11_turned_39 (by decide) ?_
      cases hf
      exact z_iret C rfl dX11_turned_40
    · obtain ⟨a9, rfl⟩ := Option.ne_none_iff_exists'.mp c8
      have h10 := (okf_lawAt hL e4) a9 rfl
      refine z_aload C 1 dX11_turned_30 rfl ?_
      refine z_iload_n C 5 3 dX11_turned_32 rfl rfl ?_
      refine z_cV1 C [] (tX5_hasShine l G hL M a6 h7 x3) lk_X5_hasShine ok_X5 (Par_o h7) q_ml_X11_185 rfl ⟨Nat.le_of_ble_eq_true rfl, Nat.le_of_ble_eq_true rfl⟩ rfl (Nat.le_of_ble_eq_true rfl) ⟨Nat.le_refl _, Nat.le_refl _⟩ dX11_turned_33 ?_
      refine z_if_ne C 41 dX11_turned_36 (by decide) (fun c11 => ?_) (fun c11 => ?_)
      · replace hf := ite_f c11 hf
        refine z_aload_n C 2 0 dX11_turned_41 rfl rfl ?_
        refine z_getR C ok_X11 (lay_c0 hL) 5 (81) (by decide) rfl (lay_r0_5 hL) q_fl_X11_46 dX11_turned_42 ?_
        refine z_aload C 1 dX11_turned_45 rfl ?_
        refine z_aload C 0 dX11_turned_47 rfl ?_
        refine z_iload_n C 5 3 dX11_turned_49 rfl rfl ?_
        replace hf := bd_out hf
        obtain ⟨p12, e13, hf⟩ := hf
        refine z_cV0 C [] (tX1_turnOne l G hL M a6 h7 a9 h10 x3 _ e13) lk_X1_turnOne ok_X1 (lay_c81 hL) q_ml_X11_247 rfl ⟨Nat.le_of_ble_eq_true rfl, Nat.le_of_ble_eq_true rfl⟩ rfl (Nat.le_of_ble_eq_true rfl) ⟨Nat.le_refl _, Nat.le_refl _⟩ dX11_turned_50 ?_
        refine z_iload C 6 dX11_turned_53 rfl ?_
        refine z_if_eq C 68 dX11_turned_55 (by decide) (fun c14 => ?_) (fun c14 => ?_)
        · replace hf := ite_t c14 hf
          refine z_aload_n C 2 0 dX11_turned_68 rfl rfl ?_
          refine z_getR C ok_X11 (lay_c0 hL) 5 (81) (by decide) rfl (lay_r0_5 hL) q_fl_X11_46 dX11_turned_69 ?_
          refine z_getI C ok_X1 (lay_c81 hL) 1 (by decide) rfl q_fl_X11_240 dX11_turned_72 ?_
          cases hf
          exact z_iret C rfl dX11_turned_75
        · replace hf := ite_f c14 hf
          refine z_aload_n C 2 0 dX11_turned_58 rfl rfl ?_
          refine z_getR C ok_X11 (lay_c0 hL) 5 (81) (by decide) rfl (lay_r0_5 hL) q_fl_X11_46 dX11_turned_59 ?_
          refine z_getI C ok_X1 (lay_c81 hL) 0 (by decide) rfl q_fl_X11_237 dX11_turned_62 ?_
          refine z_goto C 75 dX11_turned_65 (by decide) ?_
          cases hf
          exact z_iret C rfl dX11_turned_75
      · replace hf := ite_t c11 hf
        refine z_iconst C (-1) dX11_turned_39 (by decide) ?_
        cases hf
        exact z_iret C rfl dX11_turned_40
set_option maxHeartbeats 4000000 in
set_option maxRecDepth 100000 in
theorem tX11_spoon (l : Launch) (G : GG) {K : SK} (hL : Lay K) (M : MM) (x1 : Int32) (x2 : Int32) (x3 : Int32) (x4 : Int32) (pp : (Int32 × MM)) (hf : fX11_spoon M x1 x2 x3 x4 = some pp) : Ct l yX11_spoon cX11_spoon 7 (some .int) 6 0 0 G K M [.ref (G.1 + 0), .int x1, .int x2, .int x3, .int x4] (some (.int pp.1)) K pp.2 := by
  refine z_enter (lv := [(0, .ref (G.1 + 0)), (1, .int x1), (2, .int x2), (3, .int x3), (4, .int x4)]) (by decide +kernel) (Nat.le_of_ble_eq_true rfl) rfl ?_
  intro p e s m args below meth c C hnm hs0
  replace C : CX p s m args meth c cX11_spoon 7 (some .int) RX11 G := C
  unfold fX11_spoon at hf
  refine z_aload_n C 0 0 dX11_spoon_0 rfl rfl ?_
  refine z_getR C ok_X11 (lay_c0 hL) 0 (1) (by decide) rfl (lay_r0_0 hL) q_fl_X11_10 dX11_spoon_1 ?_
  refine z_iload_n C 1 1 dX11_spoon_4 rfl rfl ?_
  replace hf := bd_out hf
  obtain ⟨p1, e2, hf⟩ := hf
  refine z_cV1 C [] (tX9_parishAt l G hL M x1 _ e2) lk_X9_parishAt ok_X9 (lay_c1 hL) q_ml_X11_149 rfl ⟨Nat.le_of_ble_eq_true rfl, Nat.le_of_ble_eq_true rfl⟩ rfl (Nat.le_of_ble_eq_true rfl) ⟨Nat.le_refl _, Nat.le_refl _⟩ dX11_spoon_5 ?_
  refine z_qstore C [(5, rfv G p1), (0, .ref (G.1 + 0)), (1, .int x1), (2, .int x2), (3, .int x3), (4, .int x4)] dX11_spoon_8 (by decide) rfl rfl ?_
  refine z_aload_n C 1 0 dX11_spoon_10 rfl rfl ?_
  refine z_getR C ok_X11 (lay_c0 hL) 0 (1) (by decide) rfl (lay_r0_0 hL) q_fl_X11_10 dX11_spoon_11 ?_
  refine z_iload_n C 3 2 dX11_spoon_14 rfl rfl ?_
  replace hf := bd_out hf
  obtain ⟨p3, e4, hf⟩ := hf
  refine z_cV1 C [] (tX9_lawAt l G hL M x2 _ e4) lk_X9_lawAt ok_X9 (lay_c1 hL) q_ml_X11_164 rfl ⟨Nat.le_of_ble_eq_true rfl, Nat.le_of_ble_eq_true rfl⟩ rfl (Nat.le_of_ble_eq_true rfl) ⟨Nat.le_refl _, Nat.le_refl _⟩ dX11_spoon_15 ?_
  refine z_qstore C [(6, rfv G p3), (5, rfv G p1), (0, .ref (G.1 + 0)), (1, .int x1), (2, .int x2), (3, .int x3), (4, .int x4)] dX11_spoon_18 (by decide) (by simp [va_rf_cat]) rfl ?_
  refine z_qload C 1 dX11_spoon_20 rfl ?_
  refine z_ifnullR C 37 dX11_spoon_22 (by decide) (fun c5 => ?_) (fun c5 => ?_)
  · subst c5
    refine z_iconst C (-1) dX11_spoon_37 (by decide) ?_
    cases hf
    exact z_iret C rfl dX11_spoon_38
  · obtain ⟨a6, rfl⟩ := Option.ne_none_iff_exists'.mp c5
    have h7 := (okf_parishAt hL e2) a6 rfl
    refine z_qload C 0 dX11_spoon_25 rfl ?_
    refine z_ifnullR C 37 dX11_spoon_27 (by decide) (fun c8 => ?_) (fun c8 => ?_)
    · subst c8
      refine z_iconst C (-1) dX11_spoon_37 (by decide) ?_
      cases hf
      exact z_iret C rfl dX11_spoon_38
    · obtain ⟨a9, rfl⟩ := Option.ne_none_iff_exists'.mp c8
      have h10 := (okf_lawAt hL e4) a9 rfl
      refine z_iload_n C 5 3 dX11_spoon_30 rfl rfl ?_
      refine z_cS1 C [] (tX11_isParty l G hL M x3) lk_X11_isParty q_ml_X11_213 rfl ⟨Nat.le_of_ble_eq_true rfl, Nat.le_of_ble_eq_true rfl⟩ rfl (Nat.le_of_ble_eq_true rfl) ⟨Nat.le_refl _, Nat.le_refl _⟩ dX11_spoon_31 ?_
      refine z_if_ne C 39 dX11_spoon_34 (by decide) (fun c11 => ?_) (fun c11 => ?_)
      · replace hf := ite_f c11 hf
        refine z_aload C 1 dX11_spoon_39 rfl ?_
        refine z_getI C ok_X5 (Par_o h7) 3 (by decide) rfl q_fl_X11_251 dX11_spoon_41 ?_
        refine z_bipush C 8 dX11_spoon_44 (by decide) ?_
        refine z_icmp_lt C 51 dX11_spoon_46 (by decide) (fun c12 => ?_) (fun c12 => ?_)
        · replace hf := ite_t c12 hf
          refine z_aload_n C 2 0 dX11_spoon_51 rfl rfl ?_
          refine z_getR C ok_X11 (lay_c0 hL) 5 (81) (by decide) rfl (lay_r0_5 hL) q_fl_X11_46 dX11_spoon_52 ?_
          refine z_aload C 1 dX11_spoon_55 rfl ?_
          refine z_aload C 0 dX11_spoon_57 rfl ?_
          refine z_iload_n C 5 3 dX11_spoon_59 rfl rfl ?_
          replace hf := bd_out hf
          obtain ⟨p13, e14, hf⟩ := hf
          refine z_cV0 C [] (tX1_addSpoon l G hL M a6 h7 a9 h10 x3 _ e14) lk_X1_addSpoon ok_X1 (lay_c81 hL) q_ml_X11_254 rfl ⟨Nat.le_of_ble_eq_true rfl, Nat.le_of_ble_eq_true rfl⟩ rfl (Nat.le_of_ble_eq_true rfl) ⟨Nat.le_refl _, Nat.le_refl _⟩ dX11_spoon_60 ?_
          refine z_aload_n C 2 0 dX11_spoon_63 rfl rfl ?_
          refine z_getR C ok_X11 (lay_c0 hL) 5 (81) (by decide) rfl (lay_r0_5 hL) q_fl_X11_46 dX11_spoon_64 ?_
          refine z_getI C ok_X1 (lay_c81 hL) 1 (by decide) rfl q_fl_X11_240 dX11_spoon_67 ?_
          refine z_iconst C (-1) dX11_spoon_70 (by decide) ?_
          refine z_icmp_ne C 76 dX11_spoon_71 (by decide) (fun c15 => ?_) (fun c15 => ?_)
          · replace hf := ite_f c15 hf
            refine z_iload C 6 dX11_spoon_76 rfl ?_
            refine z_if_eq C 91 dX11_spoon_78 (by decide) (fun c16 => ?_) (fun c16 => ?_)
            · replace hf := ite_t c16 hf
              refine z_aload_n C 2 0 dX11_spoon_91 rfl rfl ?_
              refine z_getR C ok_X11 (lay_c0 hL) 5 (81) (by decide) rfl (lay_r0_5 hL) q_fl_X11_46 dX11_spoon_92 ?_
              refine z_getI C ok_X1 (lay_c81 hL) 1 (by decide) rfl q_fl_X11_240 dX11_spoon_95 ?_
              cases hf
              exact z_iret C rfl dX11_spoon_98
            · replace hf := ite_f c16 hf
              refine z_aload_n C 2 0 dX11_spoon_81 rfl rfl ?_
              refine z_getR C ok_X11 (lay_c0 hL) 5 (81) (by decide) rfl (lay_r0_5 hL) q_fl_X11_46 dX11_spoon_82 ?_
              refine z_getI C ok_X1 (lay_c81 hL) 0 (by decide) rfl q_fl_X11_237 dX11_spoon_85 ?_
              refine z_goto C 98 dX11_spoon_88 (by decide) ?_
              cases hf
              exact z_iret C rfl dX11_spoon_98
          · replace hf := ite_t c15 hf
            refine z_iconst C (-1) dX11_spoon_74 (by decide) ?_
            cases hf
            exact z_iret C rfl dX11_spoon_75
        · replace hf := ite_f c12 hf
          refine z_iconst C (-1) dX11_spoon_49 (by decide) ?_
          cases hf
          exact z_iret C rfl dX11_spoon_50
      · replace hf := ite_t c11 hf
        refine z_iconst C (-1) dX11_spoon_37 (by decide) ?_
        cases hf
        exact z_iret C rfl dX11_spoon_38
set_option maxHeartbeats 4000000 in
set_option maxRecDepth 100000 in
theorem tX11_isGame (l : Launch) (G : GG) {K : SK} (hL : Lay K) (M : MM) (a0 : Nat) (h0 : Par K a0) (pp : Int32) (hf : fX11_isGame M a0 = some pp) : Ct l yX11_isGame cX11_isGame 1 (some .boolean) 1 0 0 G K M [.ref (G.1 + a0)] (some (.int pp)) K M := by
  refine z_enter (lv := [(0, .ref (G.1 + a0))]) (by decide +kernel) (Nat.le_of_ble_eq_true rfl) rfl ?_
  intro p e s m args below meth c C hnm hs0
  replace C : CX p s m args meth c cX11_isGame 1 (some .boolean) RX11 G := C
  unfold fX11_isGame at hf
  refine z_aload_n C 0 0 dX11_isGame_0 rfl rfl ?_
  refine z_iconst C 0 dX11_isGame_1 (by decide) ?_
  replace hf := bd_out hf
  obtain ⟨p1, e2, hf⟩ := hf
  refine z_cV1 C [] (tX5_leastShineOf l G hL M a0 h0 0 _ e2) lk_X5_leastShineOf ok_X5 (Par_o h0) q_ml_X11_344 rfl ⟨Nat.le_of_ble_eq_true rfl, Nat.le_of_ble_eq_true rfl⟩ rfl (Nat.le_of_ble_eq_true rfl) ⟨Nat.le_refl _, Nat.le_refl _⟩ dX11_isGame_2 ?_
  refine z_iconst C (-1) dX11_isGame_5 (by decide) ?_
  refine z_icmp_eq C 22 dX11_isGame_6 (by decide) (fun c3 => ?_) (fun c3 => ?_)
  · replace hf := ite_t c3 hf
    refine z_iconst C 0 dX11_isGame_22 (by decide) ?_
    cases hf
    exact z_zret C rfl nb0 dX11_isGame_23
  · replace hf := ite_f c3 hf
    refine z_aload_n C 0 0 dX11_isGame_9 rfl rfl ?_
    refine z_iconst C 1 dX11_isGame_10 (by decide) ?_
    replace hf := bd_out hf
    obtain ⟨p4, e5, hf⟩ := hf
    refine z_cV1 C [] (tX5_leastShineOf l G hL M a0 h0 1 _ e5) lk_X5_leastShineOf ok_X5 (Par_o h0) q_ml_X11_344 rfl ⟨Nat.le_of_ble_eq_true rfl, Nat.le_of_ble_eq_true rfl⟩ rfl (Nat.le_of_ble_eq_true rfl) ⟨Nat.le_refl _, Nat.le_refl _⟩ dX11_isGame_11 ?_
    refine z_iconst C (-1) dX11_isGame_14 (by decide) ?_
    refine z_icmp_eq C 22 dX11_isGame_15 (by decide) (fun c6 => ?_) (fun c6 => ?_)
    · replace hf := ite_t c6 hf
      refine z_iconst C 0 dX11_isGame_22 (by decide) ?_
      cases hf
      exact z_zret C rfl nb0 dX11_isGame_23
    · replace hf := ite_f c6 hf
      refine z_iconst C 1 dX11_isGame_18 (by decide) ?_
      refine z_goto C 23 dX11_isGame_19 (by decide) ?_
      cases hf
      exact z_zret C rfl nb1 dX11_isGame_23
set_option maxHeartbeats 4000000 in
set_option maxRecDepth 100000 in
theorem tX11_prize (l : Launch) (G : GG) {K : SK} (hL : Lay K) (M : MM) (x1 : Int32) (x2 : Int32) (x3 : Int32) (x4 : Int32) (pp : (Int32 × MM)) (hf : fX11_prize M x1 x2 x3 x4 = some pp) : Ct l yX11_prize cX11_prize 7 (some .int) 6 0 0 G K M [.ref (G.1 + 0), .int x1, .int x2, .int x3, .int x4] (some (.int pp.1)) K pp.2 := by
  refine z_enter (lv := [(0, .ref (G.1 + 0)), (1, .int x1), (2, .int x2), (3, .int x3), (4, .int x4)]) (by decide +kernel) (Nat.le_of_ble_eq_true rfl) rfl ?_
  intro p e s m args below meth c C hnm hs0
  replace C : CX p s m args meth c cX11_prize 7 (some .int) RX11 G := C
  unfold fX11_prize at hf
  refine z_aload_n C 0 0 dX11_prize_0 rfl rfl ?_
  refine z_getR C ok_X11 (lay_c0 hL) 0 (1) (by decide) rfl (lay_r0_0 hL) q_fl_X11_10 dX11_prize_1 ?_
  refine z_iload_n C 1 1 dX11_prize_4 rfl rfl ?_
  replace hf := bd_out hf
  obtain ⟨p1, e2, hf⟩ := hf
  refine z_cV1 C [] (tX9_parishAt l G hL M x1 _ e2) lk_X9_parishAt ok_X9 (lay_c1 hL) q_ml_X11_149 rfl ⟨Nat.le_of_ble_eq_true rfl, Nat.le_of_ble_eq_true rfl⟩ rfl (Nat.le_of_ble_eq_true rfl) ⟨Nat.le_refl _, Nat.le_refl _⟩ dX11_prize_5 ?_
  refine z_qstore C [(5, rfv G p1), (0, .ref (G.1 + 0)), (1, .int x1), (2, .int x2), (3, .int x3), (4, .int x4)] dX11_prize_8 (by decide) rfl rfl ?_
  refine z_aload_n C 1 0 dX11_prize_10 rfl rfl ?_
  refine z_getR C ok_X11 (lay_c0 hL) 0 (1) (by decide) rfl (lay_r0_0 hL) q_fl_X11_10 dX11_prize_11 ?_
  refine z_iload_n C 3 2 dX11_prize_14 rfl rfl ?_
  replace hf := bd_out hf
  obtain ⟨p3, e4, hf⟩ := hf
  refine z_cV1 C [] (tX9_lawAt l G hL M x2 _ e4) lk_X9_lawAt ok_X9 (lay_c1 hL) q_ml_X11_164 rfl ⟨Nat.le_of_ble_eq_true rfl, Nat.le_of_ble_eq_true rfl⟩ rfl (Nat.le_of_ble_eq_true rfl) ⟨Nat.le_refl _, Nat.le_refl _⟩ dX11_prize_15 ?_
  refine z_qstore C [(6, rfv G p3), (5, rfv G p1), (0, .ref (G.1 + 0)), (1, .int x1), (2, .int x2), (3, .int x3), (4, .int x4)] dX11_prize_18 (by decide) (by simp [va_rf_cat]) rfl ?_
  refine z_qload C 1 dX11_prize_20 rfl ?_
  refine z_ifnullR C 38 dX11_prize_22 (by decide) (fun c5 => ?_) (fun c5 => ?_)
  · subst c5
    refine z_iconst C (-1) dX11_prize_38 (by decide) ?_
    cases hf
    exact z_iret C rfl dX11_prize_39
  · obtain ⟨a6, rfl⟩ := Option.ne_none_iff_exists'.mp c5
    have h7 := (okf_parishAt hL e2) a6 rfl
    refine z_qload C 0 dX11_prize_25 rfl ?_
    refine z_ifnullR C 38 dX11_prize_27 (by decide) (fun c8 => ?_) (fun c8 => ?_)
    · subst c8
      refine z_iconst C (-1) dX11_prize_38 (by decide) ?_
      cases hf
      exact z_iret C rfl dX11_prize_39
    · obtain ⟨a9, rfl⟩ := Option.ne_none_iff_exists'.mp c8
      have h10 := (okf_lawAt hL e4) a9 rfl
      refine z_aload C 1 dX11_prize_30 rfl ?_
      replace hf := bd_out hf
      obtain ⟨p11, e12, hf⟩ := hf
      refine z_cS1 C [] (tX11_isGame l G hL M a6 h7 _ e12) lk_X11_isGame q_ml_X11_257 rfl ⟨Nat.le_of_ble_eq_true rfl, Nat.le_of_ble_eq_true rfl⟩ rfl (Nat.le_of_ble_eq_true rfl) ⟨Nat.le_refl _, Nat.le_refl _⟩ dX11_prize_32 ?_
      refine z_if_ne C 40 dX11_prize_35 (by decide) (fun c13 => ?_) (fun c13 => ?_)
      · replace hf := ite_f c13 hf
        refine z_iload_n C 5 3 dX11_prize_40 rfl rfl ?_
        refine z_if_lt C 61 dX11_prize_41 (by decide) (fun c14 => ?_) (fun c14 => ?_)
        · replace hf := ite_t c14 hf
          refine z_iconst C (-1) dX11_prize_61 (by decide) ?_
          cases hf
          exact z_iret C rfl dX11_prize_62
        · replace hf := ite_f c14 hf
          refine z_iload_n C 5 3 dX11_prize_44 rfl rfl ?_
          refine z_iconst C 1 dX11_prize_45 (by decide) ?_
          refine z_icmp_gt C 61 dX11_prize_46 (by decide) (fun c15 => ?_) (fun c15 => ?_)
          · replace hf := ite_t c15 hf
            refine z_iconst C (-1) dX11_prize_61 (by decide) ?_
            cases hf
            exact z_iret C rfl dX11_prize_62
          · replace hf := ite_f c15 hf
            refine z_iload C 6 dX11_prize_49 rfl ?_
            refine z_if_lt C 61 dX11_prize_51 (by decide) (fun c16 => ?_) (fun c16 => ?_)
            · replace hf := ite_t c16 hf
              refine z_iconst C (-1) dX11_prize_61 (by decide) ?_
              cases hf
              exact z_iret C rfl dX11_prize_62
            · replace hf := ite_f c16 hf
              refine z_iload C 6 dX11_prize_54 rfl ?_
              refine z_bipush C 64 dX11_prize_56 (by decide) ?_
              refine z_icmp_lt C 63 dX11_prize_58 (by decide) (fun c17 => ?_) (fun c17 => ?_)
              · replace hf := ite_t c17 hf
                refine z_aload_n C 2 0 dX11_prize_63 rfl rfl ?_
                refine z_getR C ok_X11 (lay_c0 hL) 5 (81) (by decide) rfl (lay_r0_5 hL) q_fl_X11_46 dX11_prize_64 ?_
                refine z_aload C 1 dX11_prize_67 rfl ?_
                refine z_aload C 0 dX11_prize_69 rfl ?_
                refine z_iload_n C 5 3 dX11_prize_71 rfl rfl ?_
                refine z_iload C 6 dX11_prize_72 rfl ?_
                replace hf := bd_out hf
                obtain ⟨p18, e19, hf⟩ := hf
                refine z_cV1 C [] (tX1_prizeOf l G hL M a6 h7 a9 h10 x3 x4 _ e19) lk_X1_prizeOf ok_X1 (lay_c81 hL) q_ml_X11_261 rfl ⟨Nat.le_of_ble_eq_true rfl, Nat.le_of_ble_eq_true rfl⟩ rfl (Nat.le_of_ble_eq_true rfl) ⟨Nat.le_refl _, Nat.le_refl _⟩ dX11_prize_74 ?_
                cases hf
                exact z_iret C rfl dX11_prize_77
              · replace hf := ite_f c17 hf
                refine z_iconst C (-1) dX11_prize_61 (by decide) ?_
                cases hf
                exact z_iret C rfl dX11_prize_62
      · replace hf := ite_t c13 hf
        refine z_iconst C (-1) dX11_prize_38 (by decide) ?_
        cases hf
        exact z_iret C rfl dX11_prize_39
set_option maxHeartbeats 4000000 in
set_option maxRecDepth 100000 in
theorem tX11_rest (l : Launch) (G : GG) {K : SK} (hL : Lay K) (M : MM) (x1 : Int32) (x2 : Int32) (x3 : Int32) (pp : (Int32 × MM)) (hf : fX11_rest M x1 x2 x3 = some pp) : Ct l yX11_rest cX11_rest 6 (some .int) 6 0 0 G K M [.ref (G.1 + 0), .int x1, .int x2, .int x3] (some (.int pp.1)) K pp.2 := by
  refine z_enter (lv := [(0, .ref (G.1 + 0)), (1, .int x1), (2, .int x2), (3, .int x3)]) (by decide +kernel) (Nat.le_of_ble_eq_true rfl) rfl ?_
  intro p e s m args below meth c C hnm hs0
  replace C : CX p s m args meth c cX11_rest 6 (some .int) RX11 G := C
  unfold fX11_rest at hf
  refine z_aload_n C 0 0 dX11_rest_0 rfl rfl ?_
  refine z_getR C ok_X11 (lay_c0 hL) 0 (1) (by decide) rfl (lay_r0_0 hL) q_fl_X11_10 dX11_rest_1 ?_
  refine z_iload_n C 1 1 dX11_rest_4 rfl rfl ?_
  replace hf := bd_out hf
  obtain ⟨p1, e2, hf⟩ := hf
  refine z_cV1 C [] (tX9_parishAt l G hL M x1 _ e2) lk_X9_parishAt ok_X9 (lay_c1 hL) q_ml_X11_149 rfl ⟨Nat.le_of_ble_eq_true rfl, Nat.le_of_ble_eq_true rfl⟩ rfl (Nat.le_of_ble_eq_true rfl) ⟨Nat.le_refl _, Nat.le_refl _⟩ dX11_rest_5 ?_
  refine z_qstore C [(4, rfv G p1), (0, .ref (G.1 + 0)), (1, .int x1), (2, .int x2), (3, .int x3)] dX11_rest_8 (by decide) rfl rfl ?_
  refine z_aload_n C 1 0 dX11_rest_10 rfl rfl ?_
  refine z_getR C ok_X11 (lay_c0 hL) 0 (1) (by decide) rfl (lay_r0_0 hL) q_fl_X11_10 dX11_rest_11 ?_
  refine z_iload_n C 3 2 dX11_rest_14 rfl rfl ?_
  replace hf := bd_out hf
  obtain ⟨p3, e4, hf⟩ := hf
  refine z_cV1 C [] (tX9_lawAt l G hL M x2 _ e4) lk_X9_lawAt ok_X9 (lay_c1 hL) q_ml_X11_164 rfl ⟨Nat.le_of_ble_eq_true rfl, Nat.le_of_ble_eq_true rfl⟩ rfl (Nat.le_of_ble_eq_true rfl) ⟨Nat.le_refl _, Nat.le_refl _⟩ dX11_rest_15 ?_
  refine z_qstore C [(5, rfv G p3), (4, rfv G p1), (0, .ref (G.1 + 0)), (1, .int x1), (2, .int x2), (3, .int x3)] dX11_rest_18 (by decide) (by simp [va_rf_cat]) rfl ?_
  refine z_qload C 1 dX11_rest_20 rfl ?_
  refine z_ifnullR C 38 dX11_rest_22 (by decide) (fun c5 => ?_) (fun c5 => ?_)
  · subst c5
    refine z_iconst C (-1) dX11_rest_38 (by decide) ?_
    cases hf
    exact z_iret C rfl dX11_rest_39
  · obtain ⟨a6, rfl⟩ := Option.ne_none_iff_exists'.mp c5
    have h7 := (okf_parishAt hL e2) a6 rfl
    refine z_qload C 0 dX11_rest_25 rfl ?_
    refine z_ifnullR C 38 dX11_rest_27 (by decide) (fun c8 => ?_) (fun c8 => ?_)
    · subst c8
      refine z_iconst C (-1) dX11_rest_38 (by decide) ?_
      cases hf
      exact z_iret C rfl dX11_rest_39
    · obtain ⟨a9, rfl⟩ := Option.ne_none_iff_exists'.mp c8
      have h10 := (okf_lawAt hL e4) a9 rfl
      refine z_aload C 1 dX11_rest_30 rfl ?_
      replace hf := bd_out hf
      obtain ⟨p11, e12, hf⟩ := hf
      refine z_cS1 C [] (tX11_isGame l G hL M a6 h7 _ e12) lk_X11_isGame q_ml_X11_257 rfl ⟨Nat.le_of_ble_eq_true rfl, Nat.le_of_ble_eq_true rfl⟩ rfl (Nat.le_of_ble_eq_true rfl) ⟨Nat.le_refl _, Nat.le_refl _⟩ dX11_rest_32 ?_
      refine z_if_ne C 40 dX11_rest_35 (by decide) (fun c13 => ?_) (fun c13 => ?_)
      · replace hf := ite_f c13 hf
        refine z_iload_n C 5 3 dX11_rest_40 rfl rfl ?_
        refine z_iconst C (-1) dX11_rest_41 (by decide) ?_
        refine z_icmp_ge C 47 dX11_rest_42 (by decide) (fun c14 => ?_) (fun c14 => ?_)
        · replace hf := ite_t c14 hf
          refine z_aload_n C 2 0 dX11_rest_47 rfl rfl ?_
          refine z_getR C ok_X11 (lay_c0 hL) 5 (81) (by decide) rfl (lay_r0_5 hL) q_fl_X11_46 dX11_rest_48 ?_
          refine z_aload C 1 dX11_rest_51 rfl ?_
          refine z_aload C 0 dX11_rest_53 rfl ?_
          replace hf := bd_out hf
          obtain ⟨p15, e16, hf⟩ := hf
          refine z_cV0 C [] (tX1_playGame l G hL M a6 h7 a9 h10 _ e16) lk_X1_playGame ok_X1 (lay_c81 hL) q_ml_X11_265 rfl ⟨Nat.le_of_ble_eq_true rfl, Nat.le_of_ble_eq_true rfl⟩ rfl (Nat.le_of_ble_eq_true rfl) ⟨Nat.le_refl _, Nat.le_refl _⟩ dX11_rest_55 ?_
          refine z_aload_n C 2 0 dX11_rest_58 rfl rfl ?_
          refine z_getR C ok_X11 (lay_c0 hL) 5 (81) (by decide) rfl (lay_r0_5 hL) q_fl_X11_46 dX11_rest_59 ?_
          refine z_iload_n C 5 3 dX11_rest_62 rfl rfl ?_
          replace hf := bd_out hf
          obtain ⟨p17, e18, hf⟩ := hf
          refine z_cV1 C [] (tX1_findRest l G hL p15 x3 _ e18) lk_X1_findRest ok_X1 (lay_c81 hL) q_ml_X11_269 rfl ⟨Nat.le_of_ble_eq_true rfl, Nat.le_of_ble_eq_true rfl⟩ rfl (Nat.le_of_ble_eq_true rfl) ⟨Nat.le_refl _, Nat.le_refl _⟩ dX11_rest_63 ?_
          cases hf
          exact z_iret C rfl dX11_rest_66
        · replace hf := ite_f c14 hf
          refine z_iconst C (-1) dX11_rest_45 (by decide) ?_
          cases hf
          exact z_iret C rfl dX11_rest_46
      · replace hf := ite_t c13 hf
        refine z_iconst C (-1) dX11_rest_38 (by decide) ?_
        cases hf
        exact z_iret C rfl dX11_rest_39
set_option maxHeartbeats 4000000 in
set_option maxRecDepth 100000 in
theorem tX11_way (l : Launch) (G : GG) {K : SK} (hL : Lay K) (M : MM) (x1 : Int32) (x2 : Int32) (x3 : Int32) (pp : (Int32 × MM)) (hf : fX11_way M x1 x2 x3 = some pp) : Ct l yX11_way cX11_way 5 (some .int) 4 0 0 G K M [.ref (G.1 + 0), .int x1, .int x2, .int x3] (some (.int pp.1)) K pp.2 := by
  refine z_enter (lv := [(0, .ref (G.1 + 0)), (1, .int x1), (2, .int x2), (3, .int x3)]) (by decide +kernel) (Nat.le_of_ble_eq_true rfl) rfl ?_
  intro p e s m args below meth c C hnm hs0
  replace C : CX p s m args meth c cX11_way 5 (some .int) RX11 G := C
  unfold fX11_way at hf
  refine z_aload_n C 0 0 dX11_way_0 rfl rfl ?_
  refine z_getR C ok_X11 (lay_c0 hL) 0 (1) (by decide) rfl (lay_r0_0 hL) q_fl_X11_10 dX11_way_1 ?_
  refine z_iload_n C 1 1 dX11_way_4 rfl rfl ?_
  replace hf := bd_out hf
  obtain ⟨p1, e2, hf⟩ := hf
  refine z_cV1 C [] (tX9_parishAt l G hL M x1 _ e2) lk_X9_parishAt ok_X9 (lay_c1 hL) q_ml_X11_149 rfl ⟨Nat.le_of_ble_eq_true rfl, Nat.le_of_ble_eq_true rfl⟩ rfl (Nat.le_of_ble_eq_true rfl) ⟨Nat.le_refl _, Nat.le_refl _⟩ dX11_way_5 ?_
  refine z_qstore C [(4, rfv G p1), (0, .ref (G.1 + 0)), (1, .int x1), (2, .int x2), (3, .int x3)] dX11_way_8 (by decide) rfl rfl ?_
  refine z_qload C 0 dX11_way_10 rfl ?_
  refine z_ifnullR C 33 dX11_way_12 (by decide) (fun c3 => ?_) (fun c3 => ?_)
  · subst c3
    refine z_iconst C (-1) dX11_way_33 (by decide) ?_
    cases hf
    exact z_iret C rfl dX11_way_34
  · obtain ⟨a4, rfl⟩ := Option.ne_none_iff_exists'.mp c3
    have h5 := (okf_parishAt hL e2) a4 rfl
    refine z_aload C 0 dX11_way_15 rfl ?_
    refine z_iload_n C 3 2 dX11_way_17 rfl rfl ?_
    refine z_cV1 C [] (tX5_hasSquare l G hL M a4 h5 x2) lk_X5_hasSquare ok_X5 (Par_o h5) q_ml_X11_157 rfl ⟨Nat.le_of_ble_eq_true rfl, Nat.le_of_ble_eq_true rfl⟩ rfl (Nat.le_of_ble_eq_true rfl) ⟨Nat.le_refl _, Nat.le_refl _⟩ dX11_way_18 ?_
    refine z_if_eq C 33 dX11_way_21 (by decide) (fun c6 => ?_) (fun c6 => ?_)
    · replace hf := ite_t c6 hf
      refine z_iconst C (-1) dX11_way_33 (by decide) ?_
      cases hf
      exact z_iret C rfl dX11_way_34
    · replace hf := ite_f c6 hf
      refine z_aload C 0 dX11_way_24 rfl ?_
      refine z_iload_n C 4 3 dX11_way_26 rfl rfl ?_
      refine z_cV1 C [] (tX5_hasSquare l G hL M a4 h5 x3) lk_X5_hasSquare ok_X5 (Par_o h5) q_ml_X11_157 rfl ⟨Nat.le_of_ble_eq_true rfl, Nat.le_of_ble_eq_true rfl⟩ rfl (Nat.le_of_ble_eq_true rfl) ⟨Nat.le_refl _, Nat.le_refl _⟩ dX11_way_27 ?_
      refine z_if_ne C 35 dX11_way_30 (by decide) (fun c7 => ?_) (fun c7 => ?_)
      · replace hf := ite_f c7 hf
        refine z_aload C 0 dX11_way_35 rfl ?_
        refine z_getR C ok_X5 (Par_o h5) 11 (a4 + 8) (by decide) rfl (Par_r11 h5) q_fl_X11_161 dX11_way_37 ?_
        refine z_iload_n C 3 2 dX11_way_40 rfl rfl ?_
        replace hf := gd_out hf
        obtain ⟨g8, hf⟩ := hf
        refine z_iald C (Par_c8 h5) (inb_in g8) dX11_way_41 ?_
        refine z_iconst C 1 dX11_way_42 (by decide) ?_
        refine z_icmp_eq C 57 dX11_way_43 (by decide) (fun c9 => ?_) (fun c9 => ?_)
        · replace hf := ite_t c9 hf
          refine z_iconst C (-1) dX11_way_57 (by decide) ?_
          cases hf
          exact z_iret C rfl dX11_way_58
        · replace hf := ite_f c9 hf
          refine z_aload C 0 dX11_way_46 rfl ?_
          refine z_getR C ok_X5 (Par_o h5) 11 (a4 + 8) (by decide) rfl (Par_r11 h5) q_fl_X11_161 dX11_way_48 ?_
          refine z_iload_n C 4 3 dX11_way_51 rfl rfl ?_
          replace hf := gd_out hf
          obtain ⟨g10, hf⟩ := hf
          refine z_iald C (Par_c8 h5) (inb_in g10) dX11_way_52 ?_
          refine z_iconst C 1 dX11_way_53 (by decide) ?_
          refine z_icmp_ne C 59 dX11_way_54 (by decide) (fun c11 => ?_) (fun c11 => ?_)
          · replace hf := ite_f c11 hf
            refine z_aload_n C 1 0 dX11_way_59 rfl rfl ?_
            refine z_getR C ok_X11 (lay_c0 hL) 3 (60) (by decide) rfl (lay_r0_3 hL) q_fl_X11_30 dX11_way_60 ?_
            refine z_aload C 0 dX11_way_63 rfl ?_
            replace hf := bd_out hf
            obtain ⟨p12, e13, hf⟩ := hf
            refine z_cV0 C [] (tX0_begin l G hL M a4 h5 _ e13) lk_X0_begin ok_X0 (lay_c60 hL) q_ml_X11_188 rfl ⟨Nat.le_of_ble_eq_true rfl, Nat.le_of_ble_eq_true rfl⟩ rfl (Nat.le_of_ble_eq_true rfl) ⟨Nat.le_refl _, Nat.le_refl _⟩ dX11_way_65 ?_
            refine z_aload_n C 1 0 dX11_way_68 rfl rfl ?_
            refine z_getR C ok_X11 (lay_c0 hL) 6 (83) (by decide) rfl (lay_r0_6 hL) q_fl_X11_53 dX11_way_69 ?_
            refine z_iload_n C 3 2 dX11_way_72 rfl rfl ?_
            replace hf := bd_out hf
            obtain ⟨p14, e15, hf⟩ := hf
            refine z_cV0 C [] (tX10_flood l G hL p12 x2 _ e15) lk_X10_flood ok_X10 (lay_c83 hL) q_ml_X11_272 rfl ⟨Nat.le_of_ble_eq_true rfl, Nat.le_of_ble_eq_true rfl⟩ rfl (Nat.le_of_ble_eq_true rfl) ⟨Nat.le_refl _, Nat.le_refl _⟩ dX11_way_73 ?_
            refine z_aload_n C 1 0 dX11_way_76 rfl rfl ?_
            refine z_getR C ok_X11 (lay_c0 hL) 6 (83) (by decide) rfl (lay_r0_6 hL) q_fl_X11_53 dX11_way_77 ?_
            refine z_getR C ok_X10 (lay_c83 hL) 0 (84) (by decide) rfl (lay_r83_0 hL) q_fl_X11_275 dX11_way_80 ?_
            refine z_iload_n C 4 3 dX11_way_83 rfl rfl ?_
            replace hf := gd_out hf
            obtain ⟨g16, hf⟩ := hf
            refine z_iald C (lay_c84 hL) (inb_in g16) dX11_way_84 ?_
            cases hf
            exact z_iret C rfl dX11_way_85
          · replace hf := ite_t c11 hf
            refine z_iconst C (-1) dX11_way_57 (by decide) ?_
            cases hf
            exact z_iret C rfl dX11_way_58
      · replace hf := ite_t c7 hf
        refine z_iconst C (-1) dX11_way_33 (by decide) ?_
        cases hf
        exact z_iret C rfl dX11_way_34
set_option maxHeartbeats 4000000 in
set_option maxRecDepth 100000 in
theorem tX11_round (l : Launch) (G : GG) {K : SK} (hL : Lay K) (M : MM) (x1 : Int32) (x2 : Int32) (x3 : Int32) (pp : (Int32 × MM)) (hf : fX11_round M x1 x2 x3 = some pp) : Ct l yX11_round cX11_round 5 (some .int) 4 0 0 G K M [.ref (G.1 + 0), .int x1, .int x2, .int x3] (some (.int pp.1)) K pp.2 := by
  refine z_enter (lv := [(0, .ref (G.1 + 0)), (1, .int x1), (2, .int x2), (3, .int x3)]) (by decide +kernel) (Nat.le_of_ble_eq_true rfl) rfl ?_
  intro p e s m args below meth c C hnm hs0
  replace C : CX p s m args meth c cX11_round 5 (some .int) RX11 G := C
  unfold fX11_round at hf
  refine z_aload_n C 0 0 dX11_round_0 rfl rfl ?_
  refine z_getR C ok_X11 (lay_c0 hL) 0 (1) (by decide) rfl (lay_r0_0 hL) q_fl_X11_10 dX11_round_1 ?_
  refine z_iload_n C 1 1 dX11_round_4 rfl rfl ?_
  replace hf := bd_out hf
  obtain ⟨p1, e2, hf⟩ := hf
  refine z_cV1 C [] (tX9_parishAt l G hL M x1 _ e2) lk_X9_parishAt ok_X9 (lay_c1 hL) q_ml_X11_149 rfl ⟨Nat.le_of_ble_eq_true rfl, Nat.le_of_ble_eq_true rfl⟩ rfl (Nat.le_of_ble_eq_true rfl) ⟨Nat.le_refl _, Nat.le_refl _⟩ dX11_round_5 ?_
  refine z_qstore C [(4, rfv G p1), (0, .ref (G.1 + 0)), (1, .int x1), (2, .int x2), (3, .int x3)] dX11_round_8 (by decide) rfl rfl ?_
  refine z_qload C 0 dX11_round_10 rfl ?_
  refine z_ifnullR C 35 dX11_round_12 (by decide) (fun c3 => ?_) (fun c3 => ?_)
  · subst c3
    refine z_bipush C (-2) dX11_round_35 (by decide) ?_
    cases hf
    exact z_iret C rfl dX11_round_37
  · obtain ⟨a4, rfl⟩ := Option.ne_none_iff_exists'.mp c3
    have h5 := (okf_parishAt hL e2) a4 rfl
    refine z_aload C 0 dX11_round_15 rfl ?_
    refine z_iload_n C 3 2 dX11_round_17 rfl rfl ?_
    refine z_cV1 C [] (tX5_hasSquare l G hL M a4 h5 x2) lk_X5_hasSquare ok_X5 (Par_o h5) q_ml_X11_157 rfl ⟨Nat.le_of_ble_eq_true rfl, Nat.le_of_ble_eq_true rfl⟩ rfl (Nat.le_of_ble_eq_true rfl) ⟨Nat.le_refl _, Nat.le_refl _⟩ dX11_round_18 ?_
    refine z_if_eq C 35 dX11_round_21 (by decide) (fun c6 => ?_) (fun c6 => ?_)
    · replace hf := ite_t c6 hf
      refine z_bipush C (-2) dX11_round_35 (by decide) ?_
      cases hf
      exact z_iret C rfl dX11_round_37
    · replace hf := ite_f c6 hf
      refine z_aload C 0 dX11_round_24 rfl ?_
      refine z_getR C ok_X5 (Par_o h5) 11 (a4 + 8) (by decide) rfl (Par_r11 h5) q_fl_X11_161 dX11_round_26 ?_
      refine z_iload_n C 3 2 dX11_round_29 rfl rfl ?_
      replace hf := gd_out hf
      obtain ⟨g7, hf⟩ := hf
      refine z_iald C (Par_c8 h5) (inb_in g7) dX11_round_30 ?_
      refine z_iconst C 1 dX11_round_31 (by decide) ?_
      refine z_icmp_ne C 38 dX11_round_32 (by decide) (fun c8 => ?_) (fun c8 => ?_)
      · replace hf := ite_f c8 hf
        refine z_iload_n C 4 3 dX11_round_38 rfl rfl ?_
        refine z_iconst C (-1) dX11_round_39 (by decide) ?_
        refine z_icmp_lt C 49 dX11_round_40 (by decide) (fun c9 => ?_) (fun c9 => ?_)
        · replace hf := ite_t c9 hf
          refine z_bipush C (-2) dX11_round_49 (by decide) ?_
          cases hf
          exact z_iret C rfl dX11_round_51
        · replace hf := ite_f c9 hf
          refine z_iload_n C 4 3 dX11_round_43 rfl rfl ?_
          refine z_bipush C 99 dX11_round_44 (by decide) ?_
          refine z_icmp_le C 52 dX11_round_46 (by decide) (fun c10 => ?_) (fun c10 => ?_)
          · replace hf := ite_t c10 hf
            refine z_aload_n C 1 0 dX11_round_52 rfl rfl ?_
            refine z_getR C ok_X11 (lay_c0 hL) 3 (60) (by decide) rfl (lay_r0_3 hL) q_fl_X11_30 dX11_round_53 ?_
            refine z_aload C 0 dX11_round_56 rfl ?_
            replace hf := bd_out hf
            obtain ⟨p11, e12, hf⟩ := hf
            refine z_cV0 C [] (tX0_begin l G hL M a4 h5 _ e12) lk_X0_begin ok_X0 (lay_c60 hL) q_ml_X11_188 rfl ⟨Nat.le_of_ble_eq_true rfl, Nat.le_of_ble_eq_true rfl⟩ rfl (Nat.le_of_ble_eq_true rfl) ⟨Nat.le_refl _, Nat.le_refl _⟩ dX11_round_58 ?_
            refine z_aload_n C 1 0 dX11_round_61 rfl rfl ?_
            refine z_getR C ok_X11 (lay_c0 hL) 6 (83) (by decide) rfl (lay_r0_6 hL) q_fl_X11_53 dX11_round_62 ?_
            refine z_iload_n C 3 2 dX11_round_65 rfl rfl ?_
            replace hf := bd_out hf
            obtain ⟨p13, e14, hf⟩ := hf
            refine z_cV0 C [] (tX10_tour l G hL p11 x2 _ e14) lk_X10_tour ok_X10 (lay_c83 hL) q_ml_X11_278 rfl ⟨Nat.le_of_ble_eq_true rfl, Nat.le_of_ble_eq_true rfl⟩ rfl (Nat.le_of_ble_eq_true rfl) ⟨Nat.le_refl _, Nat.le_refl _⟩ dX11_round_66 ?_
            refine z_iload_n C 4 3 dX11_round_69 rfl rfl ?_
            refine z_iconst C (-1) dX11_round_70 (by decide) ?_
            refine z_icmp_ne C 84 dX11_round_71 (by decide) (fun c15 => ?_) (fun c15 => ?_)
            · replace hf := ite_f c15 hf
              refine z_aload_n C 1 0 dX11_round_84 rfl rfl ?_
              refine z_getR C ok_X11 (lay_c0 hL) 6 (83) (by decide) rfl (lay_r0_6 hL) q_fl_X11_53 dX11_round_85 ?_
              refine z_iload_n C 4 3 dX11_round_88 rfl rfl ?_
              replace hf := bd_out hf
              obtain ⟨p16, e17, hf⟩ := hf
              refine z_cV1 C [] (tX10_mostWithin l G hL p13 x3 _ e17) lk_X10_mostWithin ok_X10 (lay_c83 hL) q_ml_X11_285 rfl ⟨Nat.le_of_ble_eq_true rfl, Nat.le_of_ble_eq_true rfl⟩ rfl (Nat.le_of_ble_eq_true rfl) ⟨Nat.le_refl _, Nat.le_refl _⟩ dX11_round_89 ?_
              cases hf
              exact z_iret C rfl dX11_round_92
            · replace hf := ite_t c15 hf
              refine z_aload_n C 1 0 dX11_round_74 rfl rfl ?_
              refine z_getR C ok_X11 (lay_c0 hL) 6 (83) (by decide) rfl (lay_r0_6 hL) q_fl_X11_53 dX11_round_75 ?_
              replace hf := bd_out hf
              obtain ⟨p18, e19, hf⟩ := hf
              refine z_cV1 C [] (tX10_fewestToAll l G hL p13  _ e19) lk_X10_fewestToAll ok_X10 (lay_c83 hL) q_ml_X11_281 rfl ⟨Nat.le_of_ble_eq_true rfl, Nat.le_of_ble_eq_true rfl⟩ rfl (Nat.le_of_ble_eq_true rfl) ⟨Nat.le_refl _, Nat.le_refl _⟩ dX11_round_78 ?_
              refine z_goto C 92 dX11_round_81 (by decide) ?_
              cases hf
              exact z_iret C rfl dX11_round_92
          · replace hf := ite_f c10 hf
            refine z_bipush C (-2) dX11_round_49 (by decide) ?_
            cases hf
            exact z_iret C rfl dX11_round_51
      · replace hf := ite_t c8 hf
        refine z_bipush C (-2) dX11_round_35 (by decide) ?_
        cases hf
        exact z_iret C rfl dX11_round_37
set_option maxHeartbeats 4000000 in
set_option maxRecDepth 100000 in
theorem tX11_sight (l : Launch) (G : GG) {K : SK} (hL : Lay K) (M : MM) (x1 : Int32) (x2 : Int32) (pp : Int32) (hf : fX11_sight M x1 x2 = some pp) : Ct l yX11_sight cX11_sight 4 (some .int) 2 0 0 G K M [.ref (G.1 + 0), .int x1, .int x2] (some (.int pp)) K M := by
  refine z_enter (lv := [(0, .ref (G.1 + 0)), (1, .int x1), (2, .int x2)]) (by decide +kernel) (Nat.le_of_ble_eq_true rfl) rfl ?_
  intro p e s m args below meth c C hnm hs0
  replace C : CX p s m args meth c cX11_sight 4 (some .int) RX11 G := C
  unfold fX11_sight at hf
  refine z_aload_n C 0 0 dX11_sight_0 rfl rfl ?_
  refine z_getR C ok_X11 (lay_c0 hL) 0 (1) (by decide) rfl (lay_r0_0 hL) q_fl_X11_10 dX11_sight_1 ?_
  refine z_iload_n C 1 1 dX11_sight_4 rfl rfl ?_
  replace hf := bd_out hf
  obtain ⟨p1, e2, hf⟩ := hf
  refine z_cV1 C [] (tX9_sightAt l G hL M x1 _ e2) lk_X9_sightAt ok_X9 (lay_c1 hL) q_ml_X11_288 rfl ⟨Nat.le_of_ble_eq_true rfl, Nat.le_of_ble_eq_true rfl⟩ rfl (Nat.le_of_ble_eq_true rfl) ⟨Nat.le_refl _, Nat.le_refl _⟩ dX11_sight_5 ?_
  refine z_qstore_n C [(3, rfv G p1), (0, .ref (G.1 + 0)), (1, .int x1), (2, .int x2)] dX11_sight_8 rfl (by decide) rfl rfl ?_
  refine z_qload_n C 0 3 dX11_sight_9 rfl rfl ?_
  refine z_ifnonnullR C 16 dX11_sight_10 (by decide) (fun c3 => ?_) (fun c3 => ?_)
  · obtain ⟨a4, rfl⟩ := Option.ne_none_iff_exists'.mp c3
    have h5 := (okf_sightAt hL e2) a4 rfl
    refine z_iload_n C 3 2 dX11_sight_16 rfl rfl ?_
    refine z_if_ne C 25 dX11_sight_17 (by decide) (fun c6 => ?_) (fun c6 => ?_)
    · replace hf := ite_f c6 hf
      refine z_iload_n C 3 2 dX11_sight_25 rfl rfl ?_
      refine z_bipush C 10 dX11_sight_26 (by decide) ?_
      refine z_icmp_lt C 37 dX11_sight_28 (by decide) (fun c7 => ?_) (fun c7 => ?_)
      · replace hf := ite_t c7 hf
        refine z_bipush C (-2) dX11_sight_37 (by decide) ?_
        cases hf
        exact z_iret C rfl dX11_sight_39
      · replace hf := ite_f c7 hf
        refine z_iload_n C 3 2 dX11_sight_31 rfl rfl ?_
        refine z_bipush C 18 dX11_sight_32 (by decide) ?_
        refine z_icmp_lt C 40 dX11_sight_34 (by decide) (fun c8 => ?_) (fun c8 => ?_)
        · replace hf := ite_t c8 hf
          refine z_aload_n C 0 3 dX11_sight_40 rfl rfl ?_
          refine z_getR C ok_X8 (Sg_o h5) 1 (a4 + 1) (by decide) rfl (Sg_r1 h5) q_fl_X11_295 dX11_sight_41 ?_
          refine z_iload_n C 3 2 dX11_sight_44 rfl rfl ?_
          refine z_bipush C 10 dX11_sight_45 (by decide) ?_
          refine z_isub C dX11_sight_47 ?_
          replace hf := gd_out hf
          obtain ⟨g9, hf⟩ := hf
          refine z_iald C (Sg_c1 h5) (inb_in g9) dX11_sight_48 ?_
          cases hf
          exact z_iret C rfl dX11_sight_49
        · replace hf := ite_f c8 hf
          refine z_bipush C (-2) dX11_sight_37 (by decide) ?_
          cases hf
          exact z_iret C rfl dX11_sight_39
    · replace hf := ite_t c6 hf
      refine z_aload_n C 0 3 dX11_sight_20 rfl rfl ?_
      refine z_getI C ok_X8 (Sg_o h5) 0 (by decide) rfl q_fl_X11_292 dX11_sight_21 ?_
      cases hf
      exact z_iret C rfl dX11_sight_24
  · subst c3
    refine z_bipush C (-2) dX11_sight_13 (by decide) ?_
    cases hf
    exact z_iret C rfl dX11_sight_15
set_option maxHeartbeats 4000000 in
set_option maxRecDepth 100000 in
theorem wX11_fits_j69 (C : CX p s m args meth c cX11_fits 8 (some .int) RX11 G) (hs0 : s.heap.size = G.1 + K.1) (hL : Lay K)   (pp : (Int32 × MM))  (M18 : MM) (y19 : Int32) (a20 : Nat) (a22 : Nat) (a24 : Nat) (h21 : Par K a20) (h23 : Lw K a22) (h25 : Sg K a24) (hf : fX11_fits_j69 M18 y19 a20 a22 a24 = some pp) : Z p l e (rmo 6 0 0) s m args below meth c 8 G (MQ below (QC G (some (.int pp.1)) K pp.2) args s 0 0 (AG G)) K 0 0 M18 69 [(0, .ref (G.1 + 0)), (4, .int y19), (5, .ref (G.1 + a20)), (6, .ref (G.1 + a22)), (7, .ref (G.1 + a24))] [] := by
  unfold fX11_fits_j69 at hf
  refine z_aload_n C 0 0 dX11_fits_69 rfl rfl ?_
  refine z_getR C ok_X11 (lay_c0 hL) 7 (88) (by decide) rfl (lay_r0_7 hL) q_fl_X11_60 dX11_fits_70 ?_
  refine z_aload C 2 dX11_fits_73 rfl ?_
  refine z_aload C 3 dX11_fits_75 rfl ?_
  refine z_aload C 4 dX11_fits_77 rfl ?_
  refine z_iload C 1 dX11_fits_79 rfl ?_
  refine z_bipush C 10 dX11_fits_81 (by decide) ?_
  refine z_isub C dX11_fits_83 ?_
  replace hf := bd_out hf
  obtain ⟨p26, e27, hf⟩ := hf
  refine z_cV0 C [] (tX3_measure l G hL M18 a20 h21 a22 h23 a24 h25 (y19 - 10) _ e27) lk_X3_measure ok_X3 (lay_c88 hL) q_ml_X11_298 rfl ⟨Nat.le_of_ble_eq_true rfl, Nat.le_of_ble_eq_true rfl⟩ rfl (Nat.le_of_ble_eq_true rfl) ⟨Nat.le_refl _, Nat.le_refl _⟩ dX11_fits_84 ?_
  refine z_aload_n C 0 0 dX11_fits_87 rfl rfl ?_
  refine z_getR C ok_X11 (lay_c0 hL) 7 (88) (by decide) rfl (lay_r0_7 hL) q_fl_X11_60 dX11_fits_88 ?_
  refine z_iload C 1 dX11_fits_91 rfl ?_
  replace hf := bd_out hf
  obtain ⟨p28, e29, hf⟩ := hf
  refine z_cV1 C [] (tX3_tell l G hL p26 y19 _ e29) lk_X3_tell ok_X3 (lay_c88 hL) q_ml_X11_302 rfl ⟨Nat.le_of_ble_eq_true rfl, Nat.le_of_ble_eq_true rfl⟩ rfl (Nat.le_of_ble_eq_true rfl) ⟨Nat.le_refl _, Nat.le_refl _⟩ dX11_fits_93 ?_
  cases hf
  exact z_iret C rfl dX11_fits_96
set_option maxHeartbeats 4000000 in
set_option maxRecDepth 100000 in
theorem tX11_fits (l : Launch) (G : GG) {K : SK} (hL : Lay K) (M : MM) (x1 : Int32) (x2 : Int32) (x3 : Int32) (x4 : Int32) (pp : (Int32 × MM)) (hf : fX11_fits M x1 x2 x3 x4 = some pp) : Ct l yX11_fits cX11_fits 8 (some .int) 6 0 0 G K M [.ref (G.1 + 0), .int x1, .int x2, .int x3, .int x4] (some (.int pp.1)) K pp.2 := by
  refine z_enter (lv := [(0, .ref (G.1 + 0)), (1, .int x1), (2, .int x2), (3, .int x3), (4, .int x4)]) (by decide +kernel) (Nat.le_of_ble_eq_true rfl) rfl ?_
  intro p e s m args below meth c C hnm hs0
  replace C : CX p s m args meth c cX11_fits 8 (some .int) RX11 G := C
  unfold fX11_fits at hf
  refine z_aload_n C 0 0 dX11_fits_0 rfl rfl ?_
  refine z_getR C ok_X11 (lay_c0 hL) 0 (1) (by decide) rfl (lay_r0_0 hL) q_fl_X11_10 dX11_fits_1 ?_
  refine z_iload_n C 1 1 dX11_fits_4 rfl rfl ?_
  replace hf := bd_out hf
  obtain ⟨p1, e2, hf⟩ := hf
  refine z_cV1 C [] (tX9_parishAt l G hL M x1 _ e2) lk_X9_parishAt ok_X9 (lay_c1 hL) q_ml_X11_149 rfl ⟨Nat.le_of_ble_eq_true rfl, Nat.le_of_ble_eq_true rfl⟩ rfl (Nat.le_of_ble_eq_true rfl) ⟨Nat.le_refl _, Nat.le_refl _⟩ dX11_fits_5 ?_
  refine z_qstore C [(5, rfv G p1), (0, .ref (G.1 + 0)), (1, .int x1), (2, .int x2), (3, .int x3), (4, .int x4)] dX11_fits_8 (by decide) rfl rfl ?_
  refine z_aload_n C 1 0 dX11_fits_10 rfl rfl ?_
  refine z_getR C ok_X11 (lay_c0 hL) 0 (1) (by decide) rfl (lay_r0_0 hL) q_fl_X11_10 dX11_fits_11 ?_
  refine z_iload_n C 3 2 dX11_fits_14 rfl rfl ?_
  replace hf := bd_out hf
  obtain ⟨p3, e4, hf⟩ := hf
  refine z_cV1 C [] (tX9_lawAt l G hL M x2 _ e4) lk_X9_lawAt ok_X9 (lay_c1 hL) q_ml_X11_164 rfl ⟨Nat.le_of_ble_eq_true rfl, Nat.le_of_ble_eq_true rfl⟩ rfl (Nat.le_of_ble_eq_true rfl) ⟨Nat.le_refl _, Nat.le_refl _⟩ dX11_fits_15 ?_
  refine z_qstore C [(6, rfv G p3), (5, rfv G p1), (0, .ref (G.1 + 0)), (1, .int x1), (2, .int x2), (3, .int x3), (4, .int x4)] dX11_fits_18 (by decide) (by simp [va_rf_cat]) rfl ?_
  refine z_aload_n C 2 0 dX11_fits_20 rfl rfl ?_
  refine z_getR C ok_X11 (lay_c0 hL) 0 (1) (by decide) rfl (lay_r0_0 hL) q_fl_X11_10 dX11_fits_21 ?_
  refine z_iload_n C 5 3 dX11_fits_24 rfl rfl ?_
  replace hf := bd_out hf
  obtain ⟨p5, e6, hf⟩ := hf
  refine z_cV1 C [] (tX9_sightAt l G hL M x3 _ e6) lk_X9_sightAt ok_X9 (lay_c1 hL) q_ml_X11_288 rfl ⟨Nat.le_of_ble_eq_true rfl, Nat.le_of_ble_eq_true rfl⟩ rfl (Nat.le_of_ble_eq_true rfl) ⟨Nat.le_refl _, Nat.le_refl _⟩ dX11_fits_25 ?_
  refine z_qstore C [(7, rfv G p5), (6, rfv G p3), (5, rfv G p1), (0, .ref (G.1 + 0)), (1, .int x1), (2, .int x2), (3, .int x3), (4, .int x4)] dX11_fits_28 (by decide) (by simp [va_rf_cat]) rfl ?_
  refine z_qload C 2 dX11_fits_30 rfl ?_
  refine z_ifnullR C 45 dX11_fits_32 (by decide) (fun c7 => ?_) (fun c7 => ?_)
  · subst c7
    refine z_bipush C (-2) dX11_fits_45 (by decide) ?_
    cases hf
    exact z_iret C rfl dX11_fits_47
  · obtain ⟨a8, rfl⟩ := Option.ne_none_iff_exists'.mp c7
    have h9 := (okf_parishAt hL e2) a8 rfl
    refine z_qload C 1 dX11_fits_35 rfl ?_
    refine z_ifnullR C 45 dX11_fits_37 (by decide) (fun c10 => ?_) (fun c10 => ?_)
    · subst c10
      refine z_bipush C (-2) dX11_fits_45 (by decide) ?_
      cases hf
      exact z_iret C rfl dX11_fits_47
    · obtain ⟨a11, rfl⟩ := Option.ne_none_iff_exists'.mp c10
      have h12 := (okf_lawAt hL e4) a11 rfl
      refine z_qload C 0 dX11_fits_40 rfl ?_
      refine z_ifnonnullR C 48 dX11_fits_42 (by decide) (fun c13 => ?_) (fun c13 => ?_)
      · obtain ⟨a14, rfl⟩ := Option.ne_none_iff_exists'.mp c13
        have h15 := (okf_sightAt hL e6) a14 rfl
        refine z_iload C 7 dX11_fits_48 rfl ?_
        refine z_if_lt C 66 dX11_fits_50 (by decide) (fun c16 => ?_) (fun c16 => ?_)
        · replace hf := ite_t c16 hf
          refine z_bipush C (-2) dX11_fits_66 (by decide) ?_
          cases hf
          exact z_iret C rfl dX11_fits_68
        · replace hf := ite_f c16 hf
          refine z_iload C 7 dX11_fits_53 rfl ?_
          refine z_iconst C 4 dX11_fits_55 (by decide) ?_
          refine z_icmp_le C 69 dX11_fits_56 (by decide) (fun c17 => ?_) (fun c17 => ?_)
          · replace hf := ite_t c17 hf
            refine z_lv (lv2 := [(0, .ref (G.1 + 0)), (4, .int x4), (5, .ref (G.1 + a8)), (6, .ref (G.1 + a11)), (7, .ref (G.1 + a14))]) [3, 7, 2, 1, 0] rfl ?_
            exact wX11_fits_j69 C hs0 hL pp M x4 a8 a11 a14 h9 h12 h15 hf
          · replace hf := ite_f c17 hf
            refine z_iload C 7 dX11_fits_59 rfl ?_
            refine z_bipush C 10 dX11_fits_61 (by decide) ?_
            refine z_icmp_ge C 69 dX11_fits_63 (by decide) (fun c30 => ?_) (fun c30 => ?_)
            · replace hf := ite_t c30 hf
              refine z_lv (lv2 := [(0, .ref (G.1 + 0)), (4, .int x4), (5, .ref (G.1 + a8)), (6, .ref (G.1 + a11)), (7, .ref (G.1 + a14))]) [3, 7, 2, 1, 0] rfl ?_
              exact wX11_fits_j69 C hs0 hL pp M x4 a8 a11 a14 h9 h12 h15 hf
            · replace hf := ite_f c30 hf
              refine z_bipush C (-2) dX11_fits_66 (by decide) ?_
              cases hf
              exact z_iret C rfl dX11_fits_68
      · subst c13
        refine z_bipush C (-2) dX11_fits_45 (by decide) ?_
        cases hf
        exact z_iret C rfl dX11_fits_47
set_option maxHeartbeats 4000000 in
set_option maxRecDepth 100000 in
theorem wX11_commonDivisor_l7 (C : CX p s m args meth c cX11_commonDivisor 6 (some .int) RX11 G) (hs0 : s.heap.size = G.1 + K.1) (hL : Lay K) (M : MM)  (pp : Int32)  : ∀ (n : Nat) (y1 : Int32) (y2 : Int32) (y3 : Int32) (hf : fX11_commonDivisor_l7 M n y1 y2 y3 = some pp), Z p l e (rmo 0 0 0) s m args below meth c 6 G (MQ below (QC G (some (.int pp)) K M) args s 0 0 (AG G)) K 0 0 M 7 [(2, .int y1), (3, .int y2), (4, .int y3)] [] := by
  intro n
  induction n with
  | zero => intro y1 y2 y3 hf; exact nomatch (show (none : Option Int32) = some pp from hf)
  | succ n ih =>
    intro y1 y2 y3 hf
    rw [fX11_commonDivisor_l7.eq_2] at hf
    refine z_iload C 2 dX11_commonDivisor_7 rfl ?_
    refine z_bipush C 64 dX11_commonDivisor_9 (by decide) ?_
    refine z_icmp_ge C 34 dX11_commonDivisor_11 (by decide) (fun c4 => ?_) (fun c4 => ?_)
    · replace hf := ite_t c4 hf
      refine z_iload_n C 0 2 dX11_commonDivisor_34 rfl rfl ?_
      cases hf
      exact z_iret C rfl dX11_commonDivisor_35
    · replace hf := ite_f c4 hf
      refine z_iload_n C 1 3 dX11_commonDivisor_14 rfl rfl ?_
      refine z_if_eq C 34 dX11_commonDivisor_15 (by decide) (fun c5 => ?_) (fun c5 => ?_)
      · replace hf := ite_t c5 hf
        refine z_iload_n C 0 2 dX11_commonDivisor_34 rfl rfl ?_
        cases hf
        exact z_iret C rfl dX11_commonDivisor_35
      · replace hf := ite_f c5 hf
        refine z_iload_n C 0 2 dX11_commonDivisor_18 rfl rfl ?_
        refine z_iload_n C 1 3 dX11_commonDivisor_19 rfl rfl ?_
        replace hf := gd_out hf
        obtain ⟨g6, hf⟩ := hf
        refine z_irem C (nz_ne g6) dX11_commonDivisor_20 ?_
        refine z_topi (fun v7 e8 => ?_)
        replace hf := bnd_out e8 hf
        refine z_istore C [(5, .int v7), (2, .int y1), (3, .int y2), (4, .int y3)] dX11_commonDivisor_21 (by decide) rfl rfl ?_
        refine z_iload_n C 2 3 dX11_commonDivisor_23 rfl rfl ?_
        refine z_istore_n C [(2, .int y2), (5, .int v7), (3, .int y2), (4, .int y3)] dX11_commonDivisor_24 rfl (by decide) rfl rfl ?_
        refine z_iload C 1 dX11_commonDivisor_25 rfl ?_
        refine z_istore_n C [(3, .int v7), (2, .int y2), (5, .int v7), (4, .int y3)] dX11_commonDivisor_27 rfl (by decide) rfl rfl ?_
        refine z_iinc C 3 (y3 + 1) [(4, .int (y3 + 1)), (3, .int v7), (2, .int y2), (5, .int v7)] dX11_commonDivisor_28 rfl rfl (by decide) rfl rfl ?_
        refine z_goto C 7 dX11_commonDivisor_31 (by decide) ?_
        refine z_lv (lv2 := [(2, .int y2), (3, .int v7), (4, .int (y3 + 1))]) [2, 1, 0] rfl ?_
        exact ih y2 v7 (y3 + 1)  hf
set_option maxHeartbeats 4000000 in
set_option maxRecDepth 100000 in
theorem tX11_commonDivisor (l : Launch) (G : GG) {K : SK} (hL : Lay K) (M : MM) (x0 : Int32) (x1 : Int32) (pp : Int32) (hf : fX11_commonDivisor M x0 x1 = some pp) : Ct l yX11_commonDivisor cX11_commonDivisor 6 (some .int) 0 0 0 G K M [.int x0, .int x1] (some (.int pp)) K M := by
  refine z_enter (lv := [(0, .int x0), (1, .int x1)]) (by decide +kernel) (Nat.le_of_ble_eq_true rfl) rfl ?_
  intro p e s m args below meth c C hnm hs0
  replace C : CX p s m args meth c cX11_commonDivisor 6 (some .int) RX11 G := C
  unfold fX11_commonDivisor at hf
  refine z_iload_n C 0 0 dX11_commonDivisor_0 rfl rfl ?_
  refine z_istore_n C [(2, .int x0), (0, .int x0), (1, .int x1)] dX11_commonDivisor_1 rfl (by decide) rfl rfl ?_
  refine z_iload_n C 2 1 dX11_commonDivisor_2 rfl rfl ?_
  refine z_istore_n C [(3, .int x1), (2, .int x0), (0, .int x0), (1, .int x1)] dX11_commonDivisor_3 rfl (by decide) rfl rfl ?_
  refine z_iconst C 0 dX11_commonDivisor_4 (by decide) ?_
  refine z_istore C [(4, .int 0), (3, .int x1), (2, .int x0), (0, .int x0), (1, .int x1)] dX11_commonDivisor_5 (by decide) rfl rfl ?_
  refine z_lv (lv2 := [(2, .int x0), (3, .int x1), (4, .int 0)]) [2, 1, 0] rfl ?_
  exact wX11_commonDivisor_l7 C hs0 hL M pp FU x0 x1 0 hf
set_option maxHeartbeats 4000000 in
set_option maxRecDepth 100000 in
theorem wX11_wind_j95 (C : CX p s m args meth c cX11_wind 10 (some .int) RX11 G) (hs0 : s.heap.size = G.1 + K.1) (hL : Lay K)  (k67 : MM → Int32 → Int32 → Nat → Nat → Int32 → Int32 → Option (Int32 × MM)) (pp : (Int32 × MM)) (hk67 : ∀ (M47 : MM) (y48 : Int32) (y49 : Int32) (a50 : Nat) (a52 : Nat) (y54 : Int32) (y55 : Int32) (h51 : Par K a50) (h53 : Lw K a52), k67 M47 y48 y49 a50 a52 y54 y55 = some pp → Z p l e (rmo 4 0 0) s m args below meth c 10 G (MQ below (QC G (some (.int pp.1)) K pp.2) args s 0 0 (AG G)) K 0 0 M47 67 [(0, .ref (G.1 + 0)), (3, .int y48), (4, .int y49), (5, .ref (G.1 + a50)), (6, .ref (G.1 + a52)), (7, .int y54), (8, .int y55)] []) (M33 : MM) (y34 : Int32) (y35 : Int32) (a36 : Nat) (a38 : Nat) (y40 : Int32) (y41 : Int32) (y42 : Int32) (h37 : Par K a36) (h39 : Lw K a38) (hf : fX11_wind_j95 k67 M33 y34 y35 a36 a38 y40 y41 y42 = some pp) : Z p l e (rmo 4 0 0) s m args below meth c 10 G (MQ below (QC G (some (.int pp.1)) K pp.2) args s 0 0 (AG G)) K 0 0 M33 95 [(0, .ref (G.1 + 0)), (3, .int y34), (4, .int y35), (5, .ref (G.1 + a36)), (6, .ref (G.1 + a38)), (7, .int y40), (8, .int y41)] [.int y42] := by
  unfold fX11_wind_j95 at hf
  refine z_istore C [(9, .int y42), (0, .ref (G.1 + 0)), (3, .int y34), (4, .int y35), (5, .ref (G.1 + a36)), (6, .ref (G.1 + a38)), (7, .int y40), (8, .int y41)] dX11_wind_95 (by decide) rfl rfl ?_
  refine z_iload C 6 dX11_wind_97 rfl ?_
  refine z_aload_n C 1 0 dX11_wind_99 rfl rfl ?_
  refine z_getR C ok_X11 (lay_c0 hL) 3 (60) (by decide) rfl (lay_r0_3 hL) q_fl_X11_30 dX11_wind_100 ?_
  refine z_iload C 7 dX11_wind_103 rfl ?_
  refine z_aload C 5 dX11_wind_105 rfl ?_
  replace hf := bd_out hf
  obtain ⟨p43, e44, hf⟩ := hf
  refine z_cV1 C [.int y40] (tX0_countIn l G hL M33 y41 a38 h39 _ e44) lk_X0_countIn ok_X0 (lay_c60 hL) q_ml_X11_209 rfl ⟨Nat.le_of_ble_eq_true rfl, Nat.le_of_ble_eq_true rfl⟩ rfl (Nat.le_of_ble_eq_true rfl) ⟨Nat.le_refl _, Nat.le_refl _⟩ dX11_wind_107 ?_
  refine z_iload C 0 dX11_wind_110 rfl ?_
  refine z_imul C dX11_wind_112 ?_
  refine z_iadd C dX11_wind_113 ?_
  refine z_topi (fun v45 e46 => ?_)
  replace hf := bnd_out e46 hf
  refine z_istore C [(7, .int v45), (9, .int y42), (0, .ref (G.1 + 0)), (3, .int y34), (4, .int y35), (5, .ref (G.1 + a36)), (6, .ref (G.1 + a38)), (8, .int y41)] dX11_wind_114 (by decide) rfl rfl ?_
  refine z_iinc C 7 (y41 + 1) [(8, .int (y41 + 1)), (7, .int v45), (9, .int y42), (0, .ref (G.1 + 0)), (3, .int y34), (4, .int y35), (5, .ref (G.1 + a36)), (6, .ref (G.1 + a38))] dX11_wind_116 rfl rfl (by decide) rfl rfl ?_
  refine z_goto C 67 dX11_wind_119 (by decide) ?_
  refine z_lv (lv2 := [(0, .ref (G.1 + 0)), (3, .int y34), (4, .int y35), (5, .ref (G.1 + a36)), (6, .ref (G.1 + a38)), (7, .int v45), (8, .int (y41 + 1))]) [3, 4, 5, 6, 7, 1, 0] rfl ?_
  exact hk67 M33 y34 y35 a36 a38 v45 (y41 + 1) h37 h39 hf
set_option maxHeartbeats 4000000 in
set_option maxRecDepth 100000 in
theorem wX11_wind_l67 (C : CX p s m args meth c cX11_wind 10 (some .int) RX11 G) (hs0 : s.heap.size = G.1 + K.1) (hL : Lay K)  (k122 : MM → Int32 → Int32 → Int32 → Option (Int32 × MM)) (pp : (Int32 × MM)) (hk122 : ∀ (M27 : MM) (y28 : Int32) (y29 : Int32) (y30 : Int32), k122 M27 y28 y29 y30 = some pp → Z p l e (rmo 4 0 0) s m args below meth c 10 G (MQ below (QC G (some (.int pp.1)) K pp.2) args s 0 0 (AG G)) K 0 0 M27 122 [(3, .int y28), (4, .int y29), (7, .int y30)] []) : ∀ (n : Nat) (M17 : MM) (y18 : Int32) (y19 : Int32) (a20 : Nat) (a22 : Nat) (y24 : Int32) (y25 : Int32) (h21 : Par K a20) (h23 : Lw K a22) (hf : fX11_wind_l67 k122 n M17 y18 y19 a20 a22 y24 y25 = some pp), Z p l e (rmo 4 0 0) s m args below meth c 10 G (MQ below (QC G (some (.int pp.1)) K pp.2) args s 0 0 (AG G)) K 0 0 M17 67 [(0, .ref (G.1 + 0)), (3, .int y18), (4, .int y19), (5, .ref (G.1 + a20)), (6, .ref (G.1 + a22)), (7, .int y24), (8, .int y25)] [] := by
  intro n
  induction n with
  | zero => intro M17 y18 y19 a20 a22 y24 y25 h21 h23 hf; exact nomatch (show (none : Option (Int32 × MM)) = some pp from hf)
  | succ n ih =>
    intro M17 y18 y19 a20 a22 y24 y25 h21 h23 hf
    rw [fX11_wind_l67.eq_2] at hf
    refine z_iload C 6 dX11_wind_67 rfl ?_
    refine z_aload C 3 dX11_wind_69 rfl ?_
    refine z_getI C ok_X5 (Par_o h21) 3 (by decide) rfl q_fl_X11_251 dX11_wind_71 ?_
    refine z_icmp_ge C 122 dX11_wind_74 (by decide) (fun c26 => ?_) (fun c26 => ?_)
    · replace hf := ite_t c26 hf
      refine z_lv (lv2 := [(3, .int y18), (4, .int y19), (7, .int y24)]) [1, 2, 5] rfl ?_
      exact hk122 M17 y18 y19 y24  hf
    · replace hf := ite_f c26 hf
      refine z_aload C 3 dX11_wind_77 rfl ?_
      refine z_getR C ok_X5 (Par_o h21) 6 (a20 + 3) (by decide) rfl (Par_r6 h21) q_fl_X11_306 dX11_wind_79 ?_
      refine z_iload C 6 dX11_wind_82 rfl ?_
      replace hf := gd_out hf
      obtain ⟨g31, hf⟩ := hf
      refine z_iald C (Par_c3 h21) (inb_in g31) dX11_wind_84 ?_
      refine z_if_ne C 94 dX11_wind_85 (by decide) (fun c32 => ?_) (fun c32 => ?_)
      · replace hf := ite_f c32 hf
        refine z_iload_n C 1 3 dX11_wind_94 rfl rfl ?_
        refine wX11_wind_j95 C hs0 hL _ pp ?_ M17 y18 y19 a20 a22 y24 y25 y18 h21 h23 hf
        · intro M56 y57 y58 a59 a60 y61 y62 h63 h64 hf
          exact ih M56 y57 y58 a59 a60 y61 y62 h63 h64 hf
      · replace hf := ite_t c32 hf
        refine z_iload_n C 1 3 dX11_wind_88 rfl rfl ?_
        refine z_iconst C 1 dX11_wind_89 (by decide) ?_
        refine z_isub C dX11_wind_90 ?_
        refine z_goto C 95 dX11_wind_91 (by decide) ?_
        refine wX11_wind_j95 C hs0 hL _ pp ?_ M17 y18 y19 a20 a22 y24 y25 (y18 - 1) h21 h23 hf
        · intro M65 y66 y67 a68 a69 y70 y71 h72 h73 hf
          exact ih M65 y66 y67 a68 a69 y70 y71 h72 h73 hf
set_option maxHeartbeats 4000000 in
set_option maxRecDepth 100000 in
theorem tX11_wind (l : Launch) (G : GG) {K : SK} (hL : Lay K) (M : MM) (x1 : Int32) (x2 : Int32) (x3 : Int32) (x4 : Int32) (pp : (Int32 × MM)) (hf : fX11_wind M x1 x2 x3 x4 = some pp) : Ct l yX11_wind cX11_wind 10 (some .int) 4 0 0 G K M [.ref (G.1 + 0), .int x1, .int x2, .int x3, .int x4] (some (.int pp.1)) K pp.2 := by
  refine z_enter (lv := [(0, .ref (G.1 + 0)), (1, .int x1), (2, .int x2), (3, .int x3), (4, .int x4)]) (by decide +kernel) (Nat.le_of_ble_eq_true rfl) rfl ?_
  intro p e s m args below meth c C hnm hs0
  replace C : CX p s m args meth c cX11_wind 10 (some .int) RX11 G := C
  unfold fX11_wind at hf
  refine z_aload_n C 0 0 dX11_wind_0 rfl rfl ?_
  refine z_getR C ok_X11 (lay_c0 hL) 0 (1) (by decide) rfl (lay_r0_0 hL) q_fl_X11_10 dX11_wind_1 ?_
  refine z_iload_n C 1 1 dX11_wind_4 rfl rfl ?_
  replace hf := bd_out hf
  obtain ⟨p1, e2, hf⟩ := hf
  refine z_cV1 C [] (tX9_parishAt l G hL M x1 _ e2) lk_X9_parishAt ok_X9 (lay_c1 hL) q_ml_X11_149 rfl ⟨Nat.le_of_ble_eq_true rfl, Nat.le_of_ble_eq_true rfl⟩ rfl (Nat.le_of_ble_eq_true rfl) ⟨Nat.le_refl _, Nat.le_refl _⟩ dX11_wind_5 ?_
  refine z_qstore C [(5, rfv G p1), (0, .ref (G.1 + 0)), (1, .int x1), (2, .int x2), (3, .int x3), (4, .int x4)] dX11_wind_8 (by decide) rfl rfl ?_
  refine z_aload_n C 1 0 dX11_wind_10 rfl rfl ?_
  refine z_getR C ok_X11 (lay_c0 hL) 0 (1) (by decide) rfl (lay_r0_0 hL) q_fl_X11_10 dX11_wind_11 ?_
  refine z_iload_n C 3 2 dX11_wind_14 rfl rfl ?_
  replace hf := bd_out hf
  obtain ⟨p3, e4, hf⟩ := hf
  refine z_cV1 C [] (tX9_lawAt l G hL M x2 _ e4) lk_X9_lawAt ok_X9 (lay_c1 hL) q_ml_X11_164 rfl ⟨Nat.le_of_ble_eq_true rfl, Nat.le_of_ble_eq_true rfl⟩ rfl (Nat.le_of_ble_eq_true rfl) ⟨Nat.le_refl _, Nat.le_refl _⟩ dX11_wind_15 ?_
  refine z_qstore C [(6, rfv G p3), (5, rfv G p1), (0, .ref (G.1 + 0)), (1, .int x1), (2, .int x2), (3, .int x3), (4, .int x4)] dX11_wind_18 (by decide) (by simp [va_rf_cat]) rfl ?_
  refine z_qload C 1 dX11_wind_20 rfl ?_
  refine z_ifnullR C 41 dX11_wind_22 (by decide) (fun c5 => ?_) (fun c5 => ?_)
  · subst c5
    refine z_iconst C (-1) dX11_wind_41 (by decide) ?_
    cases hf
    exact z_iret C rfl dX11_wind_42
  · obtain ⟨a6, rfl⟩ := Option.ne_none_iff_exists'.mp c5
    have h7 := (okf_parishAt hL e2) a6 rfl
    refine z_qload C 0 dX11_wind_25 rfl ?_
    refine z_ifnullR C 41 dX11_wind_27 (by decide) (fun c8 => ?_) (fun c8 => ?_)
    · subst c8
      refine z_iconst C (-1) dX11_wind_41 (by decide) ?_
      cases hf
      exact z_iret C rfl dX11_wind_42
    · obtain ⟨a9, rfl⟩ := Option.ne_none_iff_exists'.mp c8
      have h10 := (okf_lawAt hL e4) a9 rfl
      refine z_iload_n C 5 3 dX11_wind_30 rfl rfl ?_
      refine z_iconst C 1 dX11_wind_31 (by decide) ?_
      refine z_icmp_lt C 41 dX11_wind_32 (by decide) (fun c11 => ?_) (fun c11 => ?_)
      · replace hf := ite_t c11 hf
        refine z_iconst C (-1) dX11_wind_41 (by decide) ?_
        cases hf
        exact z_iret C rfl dX11_wind_42
      · replace hf := ite_f c11 hf
        refine z_iload_n C 5 3 dX11_wind_35 rfl rfl ?_
        refine z_bipush C 9 dX11_wind_36 (by decide) ?_
        refine z_icmp_le C 43 dX11_wind_38 (by decide) (fun c12 => ?_) (fun c12 => ?_)
        · replace hf := ite_t c12 hf
          refine z_aload_n C 2 0 dX11_wind_43 rfl rfl ?_
          refine z_getR C ok_X11 (lay_c0 hL) 3 (60) (by decide) rfl (lay_r0_3 hL) q_fl_X11_30 dX11_wind_44 ?_
          refine z_aload C 1 dX11_wind_47 rfl ?_
          replace hf := bd_out hf
          obtain ⟨p13, e14, hf⟩ := hf
          refine z_cV0 C [] (tX0_begin l G hL M a6 h7 _ e14) lk_X0_begin ok_X0 (lay_c60 hL) q_ml_X11_188 rfl ⟨Nat.le_of_ble_eq_true rfl, Nat.le_of_ble_eq_true rfl⟩ rfl (Nat.le_of_ble_eq_true rfl) ⟨Nat.le_refl _, Nat.le_refl _⟩ dX11_wind_49 ?_
          refine z_aload_n C 2 0 dX11_wind_52 rfl rfl ?_
          refine z_getR C ok_X11 (lay_c0 hL) 3 (60) (by decide) rfl (lay_r0_3 hL) q_fl_X11_30 dX11_wind_53 ?_
          refine z_iconst C 0 dX11_wind_56 (by decide) ?_
          replace hf := bd_out hf
          obtain ⟨p15, e16, hf⟩ := hf
          refine z_cV1 C [] (tX0_spread l G hL p13 0 _ e16) lk_X0_spread ok_X0 (lay_c60 hL) q_ml_X11_303 rfl ⟨Nat.le_of_ble_eq_true rfl, Nat.le_of_ble_eq_true rfl⟩ rfl (Nat.le_of_ble_eq_true rfl) ⟨Nat.le_refl _, Nat.le_refl _⟩ dX11_wind_57 ?_
          refine z_pop C rfl dX11_wind_60 ?_
          refine z_iconst C 0 dX11_wind_61 (by decide) ?_
          refine z_istore C [(7, .int 0), (6, .ref (G.1 + a9)), (5, .ref (G.1 + a6)), (0, .ref (G.1 + 0)), (1, .int x1), (2, .int x2), (3, .int x3), (4, .int x4)] dX11_wind_62 (by decide) rfl rfl ?_
          refine z_iconst C 0 dX11_wind_64 (by decide) ?_
          refine z_istore C [(8, .int 0), (7, .int 0), (6, .ref (G.1 + a9)), (5, .ref (G.1 + a6)), (0, .ref (G.1 + 0)), (1, .int x1), (2, .int x2), (3, .int x3), (4, .int x4)] dX11_wind_65 (by decide) rfl rfl ?_
          refine z_lv (lv2 := [(0, .ref (G.1 + 0)), (3, .int x3), (4, .int x4), (5, .ref (G.1 + a6)), (6, .ref (G.1 + a9)), (7, .int 0), (8, .int 0)]) [4, 7, 8, 3, 2, 1, 0] rfl ?_
          refine wX11_wind_l67 C hs0 hL _ pp ?_ FU p15.2 x3 x4 a6 a9 0 0 h7 h10 hf
          · intro M74 y75 y76 y77 hf
            refine z_iload C 2 dX11_wind_122 rfl ?_
            refine z_iload_n C 0 3 dX11_wind_124 rfl rfl ?_
            replace hf := bd_out hf
            obtain ⟨p78, e79, hf⟩ := hf
            refine z_cS1 C [] (tX11_commonDivisor l G hL M74 y77 y75 _ e79) lk_X11_commonDivisor q_ml_X11_307 rfl ⟨Nat.le_of_ble_eq_true rfl, Nat.le_of_ble_eq_true rfl⟩ rfl (Nat.le_of_ble_eq_true rfl) ⟨Nat.le_refl _, Nat.le_refl _⟩ dX11_wind_125 ?_
            refine z_istore C [(8, .int p78), (3, .int y75), (4, .int y76), (7, .int y77)] dX11_wind_128 (by decide) rfl rfl ?_
            refine z_iload C 0 dX11_wind_130 rfl ?_
            refine z_iconst C 1 dX11_wind_132 (by decide) ?_
            refine z_icmp_ge C 138 dX11_wind_133 (by decide) (fun c80 => ?_) (fun c80 => ?_)
            · replace hf := ite_t c80 hf
              refine z_iload C 2 dX11_wind_138 rfl ?_
              refine z_if_eq C 150 dX11_wind_140 (by decide) (fun c81 => ?_) (fun c81 => ?_)
              · replace hf := ite_t c81 hf
                refine z_iload C 3 dX11_wind_150 rfl ?_
                refine z_iload C 0 dX11_wind_152 rfl ?_
                replace hf := gd_out hf
                obtain ⟨g82, hf⟩ := hf
                refine z_idiv C (nz_ne g82) dX11_wind_154 ?_
                cases hf
                exact z_iret C rfl dX11_wind_155
              · replace hf := ite_f c81 hf
                refine z_iload_n C 1 3 dX11_wind_143 rfl rfl ?_
                refine z_iload C 0 dX11_wind_144 rfl ?_
                replace hf := gd_out hf
                obtain ⟨g83, hf⟩ := hf
                refine z_idiv C (nz_ne g83) dX11_wind_146 ?_
                refine z_goto C 155 dX11_wind_147 (by decide) ?_
                cases hf
                exact z_iret C rfl dX11_wind_155
            · replace hf := ite_f c80 hf
              refine z_iconst C (-1) dX11_wind_136 (by decide) ?_
              cases hf
              exact z_iret C rfl dX11_wind_137
        · replace hf := ite_f c12 hf
          refine z_iconst C (-1) dX11_wind_41 (by decide) ?_
          cases hf
          exact z_iret C rfl dX11_wind_42
set_option maxHeartbeats 4000000 in
set_option maxRecDepth 100000 in
theorem tX11_clan (l : Launch) (G : GG) {K : SK} (hL : Lay K) (M : MM) (x1 : Int32) (x2 : Int32) (pp : (Int32 × MM)) (hf : fX11_clan M x1 x2 = some pp) : Ct l yX11_clan cX11_clan 4 (some .int) 4 0 0 G K M [.ref (G.1 + 0), .int x1, .int x2] (some (.int pp.1)) K pp.2 := by
  refine z_enter (lv := [(0, .ref (G.1 + 0)), (1, .int x1), (2, .int x2)]) (by decide +kernel) (Nat.le_of_ble_eq_true rfl) rfl ?_
  intro p e s m args below meth c C hnm hs0
  replace C : CX p s m args meth c cX11_clan 4 (some .int) RX11 G := C
  unfold fX11_clan at hf
  refine z_aload_n C 0 0 dX11_clan_0 rfl rfl ?_
  refine z_getR C ok_X11 (lay_c0 hL) 0 (1) (by decide) rfl (lay_r0_0 hL) q_fl_X11_10 dX11_clan_1 ?_
  refine z_iload_n C 1 1 dX11_clan_4 rfl rfl ?_
  replace hf := bd_out hf
  obtain ⟨p1, e2, hf⟩ := hf
  refine z_cV1 C [] (tX9_parishAt l G hL M x1 _ e2) lk_X9_parishAt ok_X9 (lay_c1 hL) q_ml_X11_149 rfl ⟨Nat.le_of_ble_eq_true rfl, Nat.le_of_ble_eq_true rfl⟩ rfl (Nat.le_of_ble_eq_true rfl) ⟨Nat.le_refl _, Nat.le_refl _⟩ dX11_clan_5 ?_
  refine z_qstore_n C [(3, rfv G p1), (0, .ref (G.1 + 0)), (1, .int x1), (2, .int x2)] dX11_clan_8 rfl (by decide) rfl rfl ?_
  refine z_qload_n C 0 3 dX11_clan_9 rfl rfl ?_
  refine z_ifnullR C 21 dX11_clan_10 (by decide) (fun c3 => ?_) (fun c3 => ?_)
  · subst c3
    refine z_iconst C (-1) dX11_clan_21 (by decide) ?_
    cases hf
    exact z_iret C rfl dX11_clan_22
  · obtain ⟨a4, rfl⟩ := Option.ne_none_iff_exists'.mp c3
    have h5 := (okf_parishAt hL e2) a4 rfl
    refine z_aload_n C 0 3 dX11_clan_13 rfl rfl ?_
    refine z_iload_n C 3 2 dX11_clan_14 rfl rfl ?_
    refine z_cV1 C [] (tX5_hasShine l G hL M a4 h5 x2) lk_X5_hasShine ok_X5 (Par_o h5) q_ml_X11_185 rfl ⟨Nat.le_of_ble_eq_true rfl, Nat.le_of_ble_eq_true rfl⟩ rfl (Nat.le_of_ble_eq_true rfl) ⟨Nat.le_refl _, Nat.le_refl _⟩ dX11_clan_15 ?_
    refine z_if_ne C 23 dX11_clan_18 (by decide) (fun c6 => ?_) (fun c6 => ?_)
    · replace hf := ite_f c6 hf
      refine z_aload_n C 1 0 dX11_clan_23 rfl rfl ?_
      refine z_getR C ok_X11 (lay_c0 hL) 3 (60) (by decide) rfl (lay_r0_3 hL) q_fl_X11_30 dX11_clan_24 ?_
      refine z_aload_n C 0 3 dX11_clan_27 rfl rfl ?_
      replace hf := bd_out hf
      obtain ⟨p7, e8, hf⟩ := hf
      refine z_cV0 C [] (tX0_begin l G hL M a4 h5 _ e8) lk_X0_begin ok_X0 (lay_c60 hL) q_ml_X11_188 rfl ⟨Nat.le_of_ble_eq_true rfl, Nat.le_of_ble_eq_true rfl⟩ rfl (Nat.le_of_ble_eq_true rfl) ⟨Nat.le_refl _, Nat.le_refl _⟩ dX11_clan_28 ?_
      refine z_aload_n C 1 0 dX11_clan_31 rfl rfl ?_
      refine z_getR C ok_X11 (lay_c0 hL) 3 (60) (by decide) rfl (lay_r0_3 hL) q_fl_X11_30 dX11_clan_32 ?_
      refine z_iload_n C 3 2 dX11_clan_35 rfl rfl ?_
      replace hf := bd_out hf
      obtain ⟨p9, e10, hf⟩ := hf
      refine z_cV1 C [] (tX0_clanOf l G hL p7 x2 _ e10) lk_X0_clanOf ok_X0 (lay_c60 hL) q_ml_X11_310 rfl ⟨Nat.le_of_ble_eq_true rfl, Nat.le_of_ble_eq_true rfl⟩ rfl (Nat.le_of_ble_eq_true rfl) ⟨Nat.le_refl _, Nat.le_refl _⟩ dX11_clan_36 ?_
      cases hf
      exact z_iret C rfl dX11_clan_39
    · replace hf := ite_t c6 hf
      refine z_iconst C (-1) dX11_clan_21 (by decide) ?_
      cases hf
      exact z_iret C rfl dX11_clan_22
set_option maxHeartbeats 4000000 in
set_option maxRecDepth 100000 in
theorem tX11_puddle (l : Launch) (G : GG) {K : SK} (hL : Lay K) (M : MM) (x1 : Int32) (x2 : Int32) (x3 : Int32) (pp : (Int32 × MM)) (hf : fX11_puddle M x1 x2 x3 = some pp) : Ct l yX11_puddle cX11_puddle 6 (some .int) 4 0 0 G K M [.ref (G.1 + 0), .int x1, .int x2, .int x3] (some (.int pp.1)) K pp.2 := by
  refine z_enter (lv := [(0, .ref (G.1 + 0)), (1, .int x1), (2, .int x2), (3, .int x3)]) (by decide +kernel) (Nat.le_of_ble_eq_true rfl) rfl ?_
  intro p e s m args below meth c C hnm hs0
  replace C : CX p s m args meth c cX11_puddle 6 (some .int) RX11 G := C
  unfold fX11_puddle at hf
  refine z_aload_n C 0 0 dX11_puddle_0 rfl rfl ?_
  refine z_getR C ok_X11 (lay_c0 hL) 0 (1) (by decide) rfl (lay_r0_0 hL) q_fl_X11_10 dX11_puddle_1 ?_
  refine z_iload_n C 1 1 dX11_puddle_4 rfl rfl ?_
  replace hf := bd_out hf
  obtain ⟨p1, e2, hf⟩ := hf
  refine z_cV1 C [] (tX9_parishAt l G hL M x1 _ e2) lk_X9_parishAt ok_X9 (lay_c1 hL) q_ml_X11_149 rfl ⟨Nat.le_of_ble_eq_true rfl, Nat.le_of_ble_eq_true rfl⟩ rfl (Nat.le_of_ble_eq_true rfl) ⟨Nat.le_refl _, Nat.le_refl _⟩ dX11_puddle_5 ?_
  refine z_qstore C [(4, rfv G p1), (0, .ref (G.1 + 0)), (1, .int x1), (2, .int x2), (3, .int x3)] dX11_puddle_8 (by decide) rfl rfl ?_
  refine z_aload_n C 1 0 dX11_puddle_10 rfl rfl ?_
  refine z_getR C ok_X11 (lay_c0 hL) 0 (1) (by decide) rfl (lay_r0_0 hL) q_fl_X11_10 dX11_puddle_11 ?_
  refine z_iload_n C 3 2 dX11_puddle_14 rfl rfl ?_
  replace hf := bd_out hf
  obtain ⟨p3, e4, hf⟩ := hf
  refine z_cV1 C [] (tX9_lawAt l G hL M x2 _ e4) lk_X9_lawAt ok_X9 (lay_c1 hL) q_ml_X11_164 rfl ⟨Nat.le_of_ble_eq_true rfl, Nat.le_of_ble_eq_true rfl⟩ rfl (Nat.le_of_ble_eq_true rfl) ⟨Nat.le_refl _, Nat.le_refl _⟩ dX11_puddle_15 ?_
  refine z_qstore C [(5, rfv G p3), (4, rfv G p1), (0, .ref (G.1 + 0)), (1, .int x1), (2, .int x2), (3, .int x3)] dX11_puddle_18 (by decide) (by simp [va_rf_cat]) rfl ?_
  refine z_qload C 1 dX11_puddle_20 rfl ?_
  refine z_ifnullR C 38 dX11_puddle_22 (by decide) (fun c5 => ?_) (fun c5 => ?_)
  · subst c5
    refine z_iconst C (-1) dX11_puddle_38 (by decide) ?_
    cases hf
    exact z_iret C rfl dX11_puddle_39
  · obtain ⟨a6, rfl⟩ := Option.ne_none_iff_exists'.mp c5
    have h7 := (okf_parishAt hL e2) a6 rfl
    refine z_qload C 0 dX11_puddle_25 rfl ?_
    refine z_ifnullR C 38 dX11_puddle_27 (by decide) (fun c8 => ?_) (fun c8 => ?_)
    · subst c8
      refine z_iconst C (-1) dX11_puddle_38 (by decide) ?_
      cases hf
      exact z_iret C rfl dX11_puddle_39
    · obtain ⟨a9, rfl⟩ := Option.ne_none_iff_exists'.mp c8
      have h10 := (okf_lawAt hL e4) a9 rfl
      refine z_aload C 1 dX11_puddle_30 rfl ?_
      refine z_getI C ok_X5 (Par_o h7) 3 (by decide) rfl q_fl_X11_251 dX11_puddle_32 ?_
      refine z_if_ne C 40 dX11_puddle_35 (by decide) (fun c11 => ?_) (fun c11 => ?_)
      · replace hf := ite_f c11 hf
        refine z_aload_n C 2 0 dX11_puddle_40 rfl rfl ?_
        refine z_getR C ok_X11 (lay_c0 hL) 3 (60) (by decide) rfl (lay_r0_3 hL) q_fl_X11_30 dX11_puddle_41 ?_
        refine z_aload C 1 dX11_puddle_44 rfl ?_
        replace hf := bd_out hf
        obtain ⟨p12, e13, hf⟩ := hf
        refine z_cV0 C [] (tX0_begin l G hL M a6 h7 _ e13) lk_X0_begin ok_X0 (lay_c60 hL) q_ml_X11_188 rfl ⟨Nat.le_of_ble_eq_true rfl, Nat.le_of_ble_eq_true rfl⟩ rfl (Nat.le_of_ble_eq_true rfl) ⟨Nat.le_refl _, Nat.le_refl _⟩ dX11_puddle_46 ?_
        refine z_aload_n C 2 0 dX11_puddle_49 rfl rfl ?_
        refine z_getR C ok_X11 (lay_c0 hL) 5 (81) (by decide) rfl (lay_r0_5 hL) q_fl_X11_46 dX11_puddle_50 ?_
        refine z_aload C 1 dX11_puddle_53 rfl ?_
        refine z_aload C 0 dX11_puddle_55 rfl ?_
        replace hf := bd_out hf
        obtain ⟨p14, e15, hf⟩ := hf
        refine z_cV0 C [] (tX1_findPuddle l G hL p12 a6 h7 a9 h10 _ e15) lk_X1_findPuddle ok_X1 (lay_c81 hL) q_ml_X11_313 rfl ⟨Nat.le_of_ble_eq_true rfl, Nat.le_of_ble_eq_true rfl⟩ rfl (Nat.le_of_ble_eq_true rfl) ⟨Nat.le_refl _, Nat.le_refl _⟩ dX11_puddle_57 ?_
        refine z_iload_n C 5 3 dX11_puddle_60 rfl rfl ?_
        refine z_if_eq C 74 dX11_puddle_61 (by decide) (fun c16 => ?_) (fun c16 => ?_)
        · replace hf := ite_t c16 hf
          refine z_aload_n C 2 0 dX11_puddle_74 rfl rfl ?_
          refine z_getR C ok_X11 (lay_c0 hL) 5 (81) (by decide) rfl (lay_r0_5 hL) q_fl_X11_46 dX11_puddle_75 ?_
          refine z_getI C ok_X1 (lay_c81 hL) 1 (by decide) rfl q_fl_X11_240 dX11_puddle_78 ?_
          cases hf
          exact z_iret C rfl dX11_puddle_81
        · replace hf := ite_f c16 hf
          refine z_aload_n C 2 0 dX11_puddle_64 rfl rfl ?_
          refine z_getR C ok_X11 (lay_c0 hL) 5 (81) (by decide) rfl (lay_r0_5 hL) q_fl_X11_46 dX11_puddle_65 ?_
          refine z_getI C ok_X1 (lay_c81 hL) 0 (by decide) rfl q_fl_X11_237 dX11_puddle_68 ?_
          refine z_goto C 81 dX11_puddle_71 (by decide) ?_
          cases hf
          exact z_iret C rfl dX11_puddle_81
      · replace hf := ite_t c11 hf
        refine z_iconst C (-1) dX11_puddle_38 (by decide) ?_
        cases hf
        exact z_iret C rfl dX11_puddle_39
set_option maxHeartbeats 4000000 in
set_option maxRecDepth 100000 in
theorem wX11_drawn_j62 (C : CX p s m args meth c cX11_drawn 8 (some .int) RX11 G) (hs0 : s.heap.size = G.1 + K.1) (hL : Lay K)   (pp : (Int32 × MM))  (M14 : MM) (y15 : Int32) (y16 : Int32) (y17 : Int32) (a18 : Nat) (a20 : Nat) (h19 : Par K a18) (h21 : Lw K a20) (hf : fX11_drawn_j62 M14 y15 y16 y17 a18 a20 = some pp) : Z p l e (rmo 7 0 0) s m args below meth c 8 G (MQ below (QC G (some (.int pp.1)) K pp.2) args s 0 0 (AG G)) K 0 0 M14 62 [(0, .ref (G.1 + 0)), (3, .int y15), (4, .int y16), (5, .int y17), (6, .ref (G.1 + a18)), (7, .ref (G.1 + a20))] [] := by
  unfold fX11_drawn_j62 at hf
  refine z_aload_n C 0 0 dX11_drawn_62 rfl rfl ?_
  refine z_getR C ok_X11 (lay_c0 hL) 4 (78) (by decide) rfl (lay_r0_4 hL) q_fl_X11_39 dX11_drawn_63 ?_
  refine z_aload C 4 dX11_drawn_66 rfl ?_
  replace hf := bd_out hf
  obtain ⟨p22, e23, hf⟩ := hf
  refine z_cV0 C [] (tX6_begin l G hL M14 a18 h19 _ e23) lk_X6_begin ok_X6 (lay_c78 hL) q_ml_X11_225 rfl ⟨Nat.le_of_ble_eq_true rfl, Nat.le_of_ble_eq_true rfl⟩ rfl (Nat.le_of_ble_eq_true rfl) ⟨Nat.le_refl _, Nat.le_refl _⟩ dX11_drawn_68 ?_
  refine z_aload_n C 0 0 dX11_drawn_71 rfl rfl ?_
  refine z_getR C ok_X11 (lay_c0 hL) 4 (78) (by decide) rfl (lay_r0_4 hL) q_fl_X11_39 dX11_drawn_72 ?_
  refine z_aload C 5 dX11_drawn_75 rfl ?_
  refine z_iload_n C 1 3 dX11_drawn_77 rfl rfl ?_
  refine z_iload C 2 dX11_drawn_78 rfl ?_
  replace hf := bd_out hf
  obtain ⟨p24, e25, hf⟩ := hf
  refine z_cV0 C [] (tX6_performDrawn l G hL p22 a20 h21 y15 y16 _ e25) lk_X6_performDrawn ok_X6 (lay_c78 hL) q_ml_X11_316 rfl ⟨Nat.le_of_ble_eq_true rfl, Nat.le_of_ble_eq_true rfl⟩ rfl (Nat.le_of_ble_eq_true rfl) ⟨Nat.le_refl _, Nat.le_refl _⟩ dX11_drawn_80 ?_
  refine z_aload_n C 0 0 dX11_drawn_83 rfl rfl ?_
  refine z_getR C ok_X11 (lay_c0 hL) 4 (78) (by decide) rfl (lay_r0_4 hL) q_fl_X11_39 dX11_drawn_84 ?_
  refine z_aload C 5 dX11_drawn_87 rfl ?_
  refine z_iload C 3 dX11_drawn_89 rfl ?_
  replace hf := bd_out hf
  obtain ⟨p26, e27, hf⟩ := hf
  refine z_cV1 C [] (tX6_tell l G hL p24 a20 h21 y17 _ e27) lk_X6_tell ok_X6 (lay_c78 hL) q_ml_X11_230 rfl ⟨Nat.le_of_ble_eq_true rfl, Nat.le_of_ble_eq_true rfl⟩ rfl (Nat.le_of_ble_eq_true rfl) ⟨Nat.le_refl _, Nat.le_refl _⟩ dX11_drawn_91 ?_
  cases hf
  exact z_iret C rfl dX11_drawn_94
set_option maxHeartbeats 4000000 in
set_option maxRecDepth 100000 in
theorem tX11_drawn (l : Launch) (G : GG) {K : SK} (hL : Lay K) (M : MM) (x1 : Int32) (x2 : Int32) (x3 : Int32) (x4 : Int32) (x5 : Int32) (pp : (Int32 × MM)) (hf : fX11_drawn M x1 x2 x3 x4 x5 = some pp) : Ct l yX11_drawn cX11_drawn 8 (some .int) 7 0 0 G K M [.ref (G.1 + 0), .int x1, .int x2, .int x3, .int x4, .int x5] (some (.int pp.1)) K pp.2 := by
  refine z_enter (lv := [(0, .ref (G.1 + 0)), (1, .int x1), (2, .int x2), (3, .int x3), (4, .int x4), (5, .int x5)]) (by decide +kernel) (Nat.le_of_ble_eq_true rfl) rfl ?_
  intro p e s m args below meth c C hnm hs0
  replace C : CX p s m args meth c cX11_drawn 8 (some .int) RX11 G := C
  unfold fX11_drawn at hf
  refine z_aload_n C 0 0 dX11_drawn_0 rfl rfl ?_
  refine z_getR C ok_X11 (lay_c0 hL) 0 (1) (by decide) rfl (lay_r0_0 hL) q_fl_X11_10 dX11_drawn_1 ?_
  refine z_iload_n C 1 1 dX11_drawn_4 rfl rfl ?_
  replace hf := bd_out hf
  obtain ⟨p1, e2, hf⟩ := hf
  refine z_cV1 C [] (tX9_parishAt l G hL M x1 _ e2) lk_X9_parishAt ok_X9 (lay_c1 hL) q_ml_X11_149 rfl ⟨Nat.le_of_ble_eq_true rfl, Nat.le_of_ble_eq_true rfl⟩ rfl (Nat.le_of_ble_eq_true rfl) ⟨Nat.le_refl _, Nat.le_refl _⟩ dX11_drawn_5 ?_
  refine z_qstore C [(6, rfv G p1), (0, .ref (G.1 + 0)), (1, .int x1), (2, .int x2), (3, .int x3), (4, .int x4), (5, .int x5)] dX11_drawn_8 (by decide) rfl rfl ?_
  refine z_aload_n C 1 0 dX11_drawn_10 rfl rfl ?_
  refine z_getR C ok_X11 (lay_c0 hL) 0 (1) (by decide) rfl (lay_r0_0 hL) q_fl_X11_10 dX11_drawn_11 ?_
  refine z_iload_n C 3 2 dX11_drawn_14 rfl rfl ?_
  replace hf := bd_out hf
  obtain ⟨p3, e4, hf⟩ := hf
  refine z_cV1 C [] (tX9_lawAt l G hL M x2 _ e4) lk_X9_lawAt ok_X9 (lay_c1 hL) q_ml_X11_164 rfl ⟨Nat.le_of_ble_eq_true rfl, Nat.le_of_ble_eq_true rfl⟩ rfl (Nat.le_of_ble_eq_true rfl) ⟨Nat.le_refl _, Nat.le_refl _⟩ dX11_drawn_15 ?_
  refine z_qstore C [(7, rfv G p3), (6, rfv G p1), (0, .ref (G.1 + 0)), (1, .int x1), (2, .int x2), (3, .int x3), (4, .int x4), (5, .int x5)] dX11_drawn_18 (by decide) (by simp [va_rf_cat]) rfl ?_
  refine z_qload C 1 dX11_drawn_20 rfl ?_
  refine z_ifnullR C 42 dX11_drawn_22 (by decide) (fun c5 => ?_) (fun c5 => ?_)
  · subst c5
    refine z_bipush C (-2) dX11_drawn_42 (by decide) ?_
    cases hf
    exact z_iret C rfl dX11_drawn_44
  · obtain ⟨a6, rfl⟩ := Option.ne_none_iff_exists'.mp c5
    have h7 := (okf_parishAt hL e2) a6 rfl
    refine z_qload C 0 dX11_drawn_25 rfl ?_
    refine z_ifnullR C 42 dX11_drawn_27 (by decide) (fun c8 => ?_) (fun c8 => ?_)
    · subst c8
      refine z_bipush C (-2) dX11_drawn_42 (by decide) ?_
      cases hf
      exact z_iret C rfl dX11_drawn_44
    · obtain ⟨a9, rfl⟩ := Option.ne_none_iff_exists'.mp c8
      have h10 := (okf_lawAt hL e4) a9 rfl
      refine z_iload C 6 dX11_drawn_30 rfl ?_
      refine z_if_lt C 42 dX11_drawn_32 (by decide) (fun c11 => ?_) (fun c11 => ?_)
      · replace hf := ite_t c11 hf
        refine z_bipush C (-2) dX11_drawn_42 (by decide) ?_
        cases hf
        exact z_iret C rfl dX11_drawn_44
      · replace hf := ite_f c11 hf
        refine z_iload C 6 dX11_drawn_35 rfl ?_
        refine z_bipush C 40 dX11_drawn_37 (by decide) ?_
        refine z_icmp_le C 45 dX11_drawn_39 (by decide) (fun c12 => ?_) (fun c12 => ?_)
        · replace hf := ite_t c12 hf
          refine z_iload C 7 dX11_drawn_45 rfl ?_
          refine z_bipush C 50 dX11_drawn_47 (by decide) ?_
          refine z_icmp_lt C 62 dX11_drawn_49 (by decide) (fun c13 => ?_) (fun c13 => ?_)
          · replace hf := ite_t c13 hf
            refine z_lv (lv2 := [(0, .ref (G.1 + 0)), (3, .int x3), (4, .int x4), (5, .int x5), (6, .ref (G.1 + a6)), (7, .ref (G.1 + a9))]) [2, 5, 6, 7, 1, 0] rfl ?_
            exact wX11_drawn_j62 C hs0 hL pp M x3 x4 x5 a6 a9 h7 h10 hf
          · replace hf := ite_f c13 hf
            refine z_iload C 7 dX11_drawn_52 rfl ?_
            refine z_bipush C 60 dX11_drawn_54 (by decide) ?_
            refine z_icmp_ge C 62 dX11_drawn_56 (by decide) (fun c28 => ?_) (fun c28 => ?_)
            · replace hf := ite_t c28 hf
              refine z_lv (lv2 := [(0, .ref (G.1 + 0)), (3, .int x3), (4, .int x4), (5, .int x5), (6, .ref (G.1 + a6)), (7, .ref (G.1 + a9))]) [2, 5, 6, 7, 1, 0] rfl ?_
              exact wX11_drawn_j62 C hs0 hL pp M x3 x4 x5 a6 a9 h7 h10 hf
            · replace hf := ite_f c28 hf
              refine z_bipush C (-2) dX11_drawn_59 (by decide) ?_
              cases hf
              exact z_iret C rfl dX11_drawn_61
        · replace hf := ite_f c12 hf
          refine z_bipush C (-2) dX11_drawn_42 (by decide) ?_
          cases hf
          exact z_iret C rfl dX11_drawn_44
set_option maxHeartbeats 4000000 in
set_option maxRecDepth 100000 in
theorem wX11_alone_l44 (C : CX p s m args meth c cX11_alone 8 (some .int) RX11 G) (hs0 : s.heap.size = G.1 + K.1) (hL : Lay K)  (k96 : MM → Int32 → Nat → Int32 → Int32 → Int32 → Option (Int32 × MM)) (pp : (Int32 × MM)) (hk96 : ∀ (M19 : MM) (y20 : Int32) (a21 : Nat) (y23 : Int32) (y24 : Int32) (y25 : Int32) (h22 : Par K a21), k96 M19 y20 a21 y23 y24 y25 = some pp → Z p l e (rmo 4 0 0) s m args below meth c 8 G (MQ below (QC G (some (.int pp.1)) K pp.2) args s 0 0 (AG G)) K 0 0 M19 96 [(0, .ref (G.1 + 0)), (2, .int y20), (3, .ref (G.1 + a21)), (4, .int y23), (5, .int y24), (6, .int y25)] []) : ∀ (n : Nat) (M10 : MM) (y11 : Int32) (a12 : Nat) (y14 : Int32) (y15 : Int32) (y16 : Int32) (y17 : Int32) (h13 : Par K a12) (hf : fX11_alone_l44 k96 n M10 y11 a12 y14 y15 y16 y17 = some pp), Z p l e (rmo 4 0 0) s m args below meth c 8 G (MQ below (QC G (some (.int pp.1)) K pp.2) args s 0 0 (AG G)) K 0 0 M10 44 [(0, .ref (G.1 + 0)), (2, .int y11), (3, .ref (G.1 + a12)), (4, .int y14), (5, .int y15), (6, .int y16), (7, .int y17)] [] := by
  intro n
  induction n with
  | zero => intro M10 y11 a12 y14 y15 y16 y17 h13 hf; exact nomatch (show (none : Option (Int32 × MM)) = some pp from hf)
  | succ n ih =>
    intro M10 y11 a12 y14 y15 y16 y17 h13 hf
    rw [fX11_alone_l44.eq_2] at hf
    refine z_iload C 6 dX11_alone_44 rfl ?_
    refine z_aload_n C 2 3 dX11_alone_46 rfl rfl ?_
    refine z_getI C ok_X5 (Par_o h13) 3 (by decide) rfl q_fl_X11_251 dX11_alone_47 ?_
    refine z_icmp_ge C 96 dX11_alone_50 (by decide) (fun c18 => ?_) (fun c18 => ?_)
    · replace hf := ite_t c18 hf
      refine z_lv (lv2 := [(0, .ref (G.1 + 0)), (2, .int y11), (3, .ref (G.1 + a12)), (4, .int y14), (5, .int y15), (6, .int y16)]) [0, 1, 2, 3, 4, 5] rfl ?_
      exact hk96 M10 y11 a12 y14 y15 y16 h13 hf
    · replace hf := ite_f c18 hf
      refine z_iload C 4 dX11_alone_53 rfl ?_
      refine z_aload_n C 0 0 dX11_alone_55 rfl rfl ?_
      refine z_getR C ok_X11 (lay_c0 hL) 3 (60) (by decide) rfl (lay_r0_3 hL) q_fl_X11_30 dX11_alone_56 ?_
      refine z_getR C ok_X0 (lay_c60 hL) 1 (70) (by decide) rfl (lay_r60_1 hL) q_fl_X11_320 dX11_alone_59 ?_
      refine z_iload C 6 dX11_alone_62 rfl ?_
      replace hf := gd_out hf
      obtain ⟨g26, hf⟩ := hf
      refine z_iald C (lay_c70 hL) (inb_in g26) dX11_alone_64 ?_
      refine z_ior C dX11_alone_65 ?_
      refine z_topi (fun v27 e28 => ?_)
      replace hf := bnd_out e28 hf
      refine z_istore C [(5, .int v27), (0, .ref (G.1 + 0)), (2, .int y11), (3, .ref (G.1 + a12)), (4, .int y14), (6, .int y16), (7, .int y17)] dX11_alone_66 (by decide) rfl rfl ?_
      refine z_aload_n C 1 0 dX11_alone_68 rfl rfl ?_
      refine z_getR C ok_X11 (lay_c0 hL) 3 (60) (by decide) rfl (lay_r0_3 hL) q_fl_X11_30 dX11_alone_69 ?_
      refine z_getR C ok_X0 (lay_c60 hL) 1 (70) (by decide) rfl (lay_r60_1 hL) q_fl_X11_320 dX11_alone_72 ?_
      refine z_iload C 6 dX11_alone_75 rfl ?_
      replace hf := gd_out hf
      obtain ⟨g29, hf⟩ := hf
      refine z_iald C (lay_c70 hL) (inb_in g29) dX11_alone_77 ?_
      refine z_if_ne C 90 dX11_alone_78 (by decide) (fun c30 => ?_) (fun c30 => ?_)
      · replace hf := ite_f c30 hf
        refine z_iinc C 6 (y17 + 1) [(7, .int (y17 + 1)), (5, .int v27), (0, .ref (G.1 + 0)), (2, .int y11), (3, .ref (G.1 + a12)), (4, .int y14), (6, .int y16)] dX11_alone_90 rfl rfl (by decide) rfl rfl ?_
        refine z_goto C 44 dX11_alone_93 (by decide) ?_
        refine z_lv (lv2 := [(0, .ref (G.1 + 0)), (2, .int y11), (3, .ref (G.1 + a12)), (4, .int y14), (5, .int v27), (6, .int y16), (7, .int (y17 + 1))]) [2, 3, 4, 5, 1, 6, 0] rfl ?_
        exact ih M10 y11 a12 y14 v27 y16 (y17 + 1) h13 hf
      · replace hf := ite_t c30 hf
        refine z_iload C 5 dX11_alone_81 rfl ?_
        refine z_iconst C 1 dX11_alone_83 (by decide) ?_
        refine z_iload C 6 dX11_alone_84 rfl ?_
        refine z_ishl C dX11_alone_86 ?_
        refine z_ior C dX11_alone_87 ?_
        refine z_topi (fun v31 e32 => ?_)
        replace hf := bnd_out e32 hf
        refine z_istore C [(6, .int v31), (5, .int v27), (0, .ref (G.1 + 0)), (2, .int y11), (3, .ref (G.1 + a12)), (4, .int y14), (7, .int y17)] dX11_alone_88 (by decide) rfl rfl ?_
        refine z_iinc C 6 (y17 + 1) [(7, .int (y17 + 1)), (6, .int v31), (5, .int v27), (0, .ref (G.1 + 0)), (2, .int y11), (3, .ref (G.1 + a12)), (4, .int y14)] dX11_alone_90 rfl rfl (by decide) rfl rfl ?_
        refine z_goto C 44 dX11_alone_93 (by decide) ?_
        refine z_lv (lv2 := [(0, .ref (G.1 + 0)), (2, .int y11), (3, .ref (G.1 + a12)), (4, .int y14), (5, .int v27), (6, .int v31), (7, .int (y17 + 1))]) [3, 4, 5, 6, 2, 1, 0] rfl ?_
        exact ih M10 y11 a12 y14 v27 v31 (y17 + 1) h13 hf
set_option maxHeartbeats 4000000 in
set_option maxRecDepth 100000 in
theorem tX11_alone (l : Launch) (G : GG) {K : SK} (hL : Lay K) (M : MM) (x1 : Int32) (x2 : Int32) (pp : (Int32 × MM)) (hf : fX11_alone M x1 x2 = some pp) : Ct l yX11_alone cX11_alone 8 (some .int) 4 0 0 G K M [.ref (G.1 + 0), .int x1, .int x2] (some (.int pp.1)) K pp.2 := by
  refine z_enter (lv := [(0, .ref (G.1 + 0)), (1, .int x1), (2, .int x2)]) (by decide +kernel) (Nat.le_of_ble_eq_true rfl) rfl ?_
  intro p e s m args below meth c C hnm hs0
  replace C : CX p s m args meth c cX11_alone 8 (some .int) RX11 G := C
  unfold fX11_alone at hf
  refine z_aload_n C 0 0 dX11_alone_0 rfl rfl ?_
  refine z_getR C ok_X11 (lay_c0 hL) 0 (1) (by decide) rfl (lay_r0_0 hL) q_fl_X11_10 dX11_alone_1 ?_
  refine z_iload_n C 1 1 dX11_alone_4 rfl rfl ?_
  replace hf := bd_out hf
  obtain ⟨p1, e2, hf⟩ := hf
  refine z_cV1 C [] (tX9_parishAt l G hL M x1 _ e2) lk_X9_parishAt ok_X9 (lay_c1 hL) q_ml_X11_149 rfl ⟨Nat.le_of_ble_eq_true rfl, Nat.le_of_ble_eq_true rfl⟩ rfl (Nat.le_of_ble_eq_true rfl) ⟨Nat.le_refl _, Nat.le_refl _⟩ dX11_alone_5 ?_
  refine z_qstore_n C [(3, rfv G p1), (0, .ref (G.1 + 0)), (1, .int x1), (2, .int x2)] dX11_alone_8 rfl (by decide) rfl rfl ?_
  refine z_qload_n C 0 3 dX11_alone_9 rfl rfl ?_
  refine z_ifnonnullR C 16 dX11_alone_10 (by decide) (fun c3 => ?_) (fun c3 => ?_)
  · obtain ⟨a4, rfl⟩ := Option.ne_none_iff_exists'.mp c3
    have h5 := (okf_parishAt hL e2) a4 rfl
    refine z_aload_n C 1 0 dX11_alone_16 rfl rfl ?_
    refine z_getR C ok_X11 (lay_c0 hL) 3 (60) (by decide) rfl (lay_r0_3 hL) q_fl_X11_30 dX11_alone_17 ?_
    refine z_aload_n C 0 3 dX11_alone_20 rfl rfl ?_
    replace hf := bd_out hf
    obtain ⟨p6, e7, hf⟩ := hf
    refine z_cV0 C [] (tX0_begin l G hL M a4 h5 _ e7) lk_X0_begin ok_X0 (lay_c60 hL) q_ml_X11_188 rfl ⟨Nat.le_of_ble_eq_true rfl, Nat.le_of_ble_eq_true rfl⟩ rfl (Nat.le_of_ble_eq_true rfl) ⟨Nat.le_refl _, Nat.le_refl _⟩ dX11_alone_21 ?_
    refine z_aload_n C 1 0 dX11_alone_24 rfl rfl ?_
    refine z_getR C ok_X11 (lay_c0 hL) 3 (60) (by decide) rfl (lay_r0_3 hL) q_fl_X11_30 dX11_alone_25 ?_
    refine z_bipush C 8 dX11_alone_28 (by decide) ?_
    replace hf := bd_out hf
    obtain ⟨p8, e9, hf⟩ := hf
    refine z_cV1 C [] (tX0_spread l G hL p6 8 _ e9) lk_X0_spread ok_X0 (lay_c60 hL) q_ml_X11_303 rfl ⟨Nat.le_of_ble_eq_true rfl, Nat.le_of_ble_eq_true rfl⟩ rfl (Nat.le_of_ble_eq_true rfl) ⟨Nat.le_refl _, Nat.le_refl _⟩ dX11_alone_30 ?_
    refine z_istore C [(4, .int p8.1), (3, .ref (G.1 + a4)), (0, .ref (G.1 + 0)), (1, .int x1), (2, .int x2)] dX11_alone_33 (by decide) rfl rfl ?_
    refine z_iconst C 0 dX11_alone_35 (by decide) ?_
    refine z_istore C [(5, .int 0), (4, .int p8.1), (3, .ref (G.1 + a4)), (0, .ref (G.1 + 0)), (1, .int x1), (2, .int x2)] dX11_alone_36 (by decide) rfl rfl ?_
    refine z_iconst C 0 dX11_alone_38 (by decide) ?_
    refine z_istore C [(6, .int 0), (5, .int 0), (4, .int p8.1), (3, .ref (G.1 + a4)), (0, .ref (G.1 + 0)), (1, .int x1), (2, .int x2)] dX11_alone_39 (by decide) rfl rfl ?_
    refine z_iconst C 0 dX11_alone_41 (by decide) ?_
    refine z_istore C [(7, .int 0), (6, .int 0), (5, .int 0), (4, .int p8.1), (3, .ref (G.1 + a4)), (0, .ref (G.1 + 0)), (1, .int x1), (2, .int x2)] dX11_alone_42 (by decide) rfl rfl ?_
    refine z_lv (lv2 := [(0, .ref (G.1 + 0)), (2, .int x2), (3, .ref (G.1 + a4)), (4, .int p8.1), (5, .int 0), (6, .int 0), (7, .int 0)]) [5, 7, 4, 3, 2, 1, 0] rfl ?_
    refine wX11_alone_l44 C hs0 hL _ pp ?_ FU p8.2 x2 a4 p8.1 0 0 0 h5 hf
    · intro M33 y34 a35 y36 y37 y38 h39 hf
      refine z_iload_n C 1 2 dX11_alone_96 rfl rfl ?_
      refine z_if_ne C 114 dX11_alone_97 (by decide) (fun c40 => ?_) (fun c40 => ?_)
      · replace hf := ite_f c40 hf
        refine z_iload_n C 1 2 dX11_alone_114 rfl rfl ?_
        refine z_iconst C 1 dX11_alone_115 (by decide) ?_
        refine z_icmp_ne C 122 dX11_alone_116 (by decide) (fun c41 => ?_) (fun c41 => ?_)
        · replace hf := ite_f c41 hf
          refine z_iload_n C 1 2 dX11_alone_122 rfl rfl ?_
          refine z_iconst C 2 dX11_alone_123 (by decide) ?_
          refine z_icmp_ne C 135 dX11_alone_124 (by decide) (fun c42 => ?_) (fun c42 => ?_)
          · replace hf := ite_f c42 hf
            refine z_iload_n C 1 2 dX11_alone_135 rfl rfl ?_
            refine z_iconst C 3 dX11_alone_136 (by decide) ?_
            refine z_icmp_eq C 143 dX11_alone_137 (by decide) (fun c43 => ?_) (fun c43 => ?_)
            · replace hf := ite_t c43 hf
              refine z_iload C 4 dX11_alone_143 rfl ?_
              refine z_if_ne C 152 dX11_alone_145 (by decide) (fun c44 => ?_) (fun c44 => ?_)
              · replace hf := ite_f c44 hf
                refine z_iload C 3 dX11_alone_152 rfl ?_
                cases hf
                exact z_iret C rfl dX11_alone_154
              · replace hf := ite_t c44 hf
                refine z_iconst C (-1) dX11_alone_148 (by decide) ?_
                refine z_goto C 154 dX11_alone_149 (by decide) ?_
                cases hf
                exact z_iret C rfl dX11_alone_154
            · replace hf := ite_f c43 hf
              refine z_bipush C (-2) dX11_alone_140 (by decide) ?_
              cases hf
              exact z_iret C rfl dX11_alone_142
          · replace hf := ite_t c42 hf
            refine z_aload_n C 0 0 dX11_alone_127 rfl rfl ?_
            refine z_getR C ok_X11 (lay_c0 hL) 3 (60) (by decide) rfl (lay_r0_3 hL) q_fl_X11_30 dX11_alone_128 ?_
            replace hf := bd_out hf
            obtain ⟨p45, e46, hf⟩ := hf
            refine z_cV1 C [] (tX0_glances l G hL M33  _ e46) lk_X0_glances ok_X0 (lay_c60 hL) q_ml_X11_326 rfl ⟨Nat.le_of_ble_eq_true rfl, Nat.le_of_ble_eq_true rfl⟩ rfl (Nat.le_of_ble_eq_true rfl) ⟨Nat.le_refl _, Nat.le_refl _⟩ dX11_alone_131 ?_
            cases hf
            exact z_iret C rfl dX11_alone_134
        · replace hf := ite_t c41 hf
          refine z_iload C 5 dX11_alone_119 rfl ?_
          cases hf
          exact z_iret C rfl dX11_alone_121
      · replace hf := ite_t c40 hf
        refine z_iconst C 1 dX11_alone_100 (by decide) ?_
        refine z_aload_n C 2 3 dX11_alone_101 rfl rfl ?_
        refine z_getI C ok_X5 (Par_o h39) 2 (by decide) rfl q_fl_X11_323 dX11_alone_102 ?_
        refine z_ishl C dX11_alone_105 ?_
        refine z_iconst C 1 dX11_alone_106 (by decide) ?_
        refine z_isub C dX11_alone_107 ?_
        refine z_iload C 4 dX11_alone_108 rfl ?_
        refine z_iconst C (-1) dX11_alone_110 (by decide) ?_
        refine z_ixor C dX11_alone_111 ?_
        refine z_iand C dX11_alone_112 ?_
        cases hf
        exact z_iret C rfl dX11_alone_113
  · subst c3
    refine z_bipush C (-2) dX11_alone_13 (by decide) ?_
    cases hf
    exact z_iret C rfl dX11_alone_15
set_option maxHeartbeats 4000000 in
set_option maxRecDepth 100000 in
theorem tX11_barred (l : Launch) (G : GG) {K : SK} (hL : Lay K) (M : MM) (x1 : Int32) (x2 : Int32) (x3 : Int32) (pp : (Int32 × MM)) (hf : fX11_barred M x1 x2 x3 = some pp) : Ct l yX11_barred cX11_barred 6 (some .int) 5 0 0 G K M [.ref (G.1 + 0), .int x1, .int x2, .int x3] (some (.int pp.1)) K pp.2 := by
  refine z_enter (lv := [(0, .ref (G.1 + 0)), (1, .int x1), (2, .int x2), (3, .int x3)]) (by decide +kernel) (Nat.le_of_ble_eq_true rfl) rfl ?_
  intro p e s m args below meth c C hnm hs0
  replace C : CX p s m args meth c cX11_barred 6 (some .int) RX11 G := C
  unfold fX11_barred at hf
  refine z_aload_n C 0 0 dX11_barred_0 rfl rfl ?_
  refine z_getR C ok_X11 (lay_c0 hL) 0 (1) (by decide) rfl (lay_r0_0 hL) q_fl_X11_10 dX11_barred_1 ?_
  refine z_iload_n C 1 1 dX11_barred_4 rfl rfl ?_
  replace hf := bd_out hf
  obtain ⟨p1, e2, hf⟩ := hf
  refine z_cV1 C [] (tX9_parishAt l G hL M x1 _ e2) lk_X9_parishAt ok_X9 (lay_c1 hL) q_ml_X11_149 rfl ⟨Nat.le_of_ble_eq_true rfl, Nat.le_of_ble_eq_true rfl⟩ rfl (Nat.le_of_ble_eq_true rfl) ⟨Nat.le_refl _, Nat.le_refl _⟩ dX11_barred_5 ?_
  refine z_qstore C [(4, rfv G p1), (0, .ref (G.1 + 0)), (1, .int x1), (2, .int x2), (3, .int x3)] dX11_barred_8 (by decide) rfl rfl ?_
  refine z_aload_n C 1 0 dX11_barred_10 rfl rfl ?_
  refine z_getR C ok_X11 (lay_c0 hL) 0 (1) (by decide) rfl (lay_r0_0 hL) q_fl_X11_10 dX11_barred_11 ?_
  refine z_iload_n C 3 2 dX11_barred_14 rfl rfl ?_
  replace hf := bd_out hf
  obtain ⟨p3, e4, hf⟩ := hf
  refine z_cV1 C [] (tX9_lawAt l G hL M x2 _ e4) lk_X9_lawAt ok_X9 (lay_c1 hL) q_ml_X11_164 rfl ⟨Nat.le_of_ble_eq_true rfl, Nat.le_of_ble_eq_true rfl⟩ rfl (Nat.le_of_ble_eq_true rfl) ⟨Nat.le_refl _, Nat.le_refl _⟩ dX11_barred_15 ?_
  refine z_qstore C [(5, rfv G p3), (4, rfv G p1), (0, .ref (G.1 + 0)), (1, .int x1), (2, .int x2), (3, .int x3)] dX11_barred_18 (by decide) (by simp [va_rf_cat]) rfl ?_
  refine z_qload C 1 dX11_barred_20 rfl ?_
  refine z_ifnullR C 30 dX11_barred_22 (by decide) (fun c5 => ?_) (fun c5 => ?_)
  · subst c5
    refine z_iconst C (-1) dX11_barred_30 (by decide) ?_
    cases hf
    exact z_iret C rfl dX11_barred_31
  · obtain ⟨a6, rfl⟩ := Option.ne_none_iff_exists'.mp c5
    have h7 := (okf_parishAt hL e2) a6 rfl
    refine z_qload C 0 dX11_barred_25 rfl ?_
    refine z_ifnonnullR C 32 dX11_barred_27 (by decide) (fun c8 => ?_) (fun c8 => ?_)
    · obtain ⟨a9, rfl⟩ := Option.ne_none_iff_exists'.mp c8
      have h10 := (okf_lawAt hL e4) a9 rfl
      refine z_aload_n C 2 0 dX11_barred_32 rfl rfl ?_
      refine z_getR C ok_X11 (lay_c0 hL) 5 (81) (by decide) rfl (lay_r0_5 hL) q_fl_X11_46 dX11_barred_33 ?_
      refine z_aload C 1 dX11_barred_36 rfl ?_
      refine z_aload C 0 dX11_barred_38 rfl ?_
      replace hf := bd_out hf
      obtain ⟨p11, e12, hf⟩ := hf
      refine z_cV0 C [] (tX1_addWall l G hL M a6 h7 a9 h10 _ e12) lk_X1_addWall ok_X1 (lay_c81 hL) q_ml_X11_329 rfl ⟨Nat.le_of_ble_eq_true rfl, Nat.le_of_ble_eq_true rfl⟩ rfl (Nat.le_of_ble_eq_true rfl) ⟨Nat.le_refl _, Nat.le_refl _⟩ dX11_barred_40 ?_
      refine z_aload_n C 2 0 dX11_barred_43 rfl rfl ?_
      refine z_getR C ok_X11 (lay_c0 hL) 5 (81) (by decide) rfl (lay_r0_5 hL) q_fl_X11_46 dX11_barred_44 ?_
      refine z_getI C ok_X1 (lay_c81 hL) 1 (by decide) rfl q_fl_X11_240 dX11_barred_47 ?_
      refine z_iconst C (-1) dX11_barred_50 (by decide) ?_
      refine z_icmp_ne C 56 dX11_barred_51 (by decide) (fun c13 => ?_) (fun c13 => ?_)
      · replace hf := ite_f c13 hf
        refine z_iload_n C 5 3 dX11_barred_56 rfl rfl ?_
        refine z_if_eq C 70 dX11_barred_57 (by decide) (fun c14 => ?_) (fun c14 => ?_)
        · replace hf := ite_t c14 hf
          refine z_aload_n C 2 0 dX11_barred_70 rfl rfl ?_
          refine z_getR C ok_X11 (lay_c0 hL) 5 (81) (by decide) rfl (lay_r0_5 hL) q_fl_X11_46 dX11_barred_71 ?_
          refine z_getI C ok_X1 (lay_c81 hL) 1 (by decide) rfl q_fl_X11_240 dX11_barred_74 ?_
          cases hf
          exact z_iret C rfl dX11_barred_77
        · replace hf := ite_f c14 hf
          refine z_aload_n C 2 0 dX11_barred_60 rfl rfl ?_
          refine z_getR C ok_X11 (lay_c0 hL) 5 (81) (by decide) rfl (lay_r0_5 hL) q_fl_X11_46 dX11_barred_61 ?_
          refine z_getI C ok_X1 (lay_c81 hL) 0 (by decide) rfl q_fl_X11_237 dX11_barred_64 ?_
          refine z_goto C 77 dX11_barred_67 (by decide) ?_
          cases hf
          exact z_iret C rfl dX11_barred_77
      · replace hf := ite_t c13 hf
        refine z_iconst C (-1) dX11_barred_54 (by decide) ?_
        cases hf
        exact z_iret C rfl dX11_barred_55
    · subst c8
      refine z_iconst C (-1) dX11_barred_30 (by decide) ?_
      cases hf
      exact z_iret C rfl dX11_barred_31
set_option maxHeartbeats 4000000 in
set_option maxRecDepth 100000 in
theorem wX11_known_j48 (C : CX p s m args meth c cX11_known 6 (some .int) RX11 G) (hs0 : s.heap.size = G.1 + K.1) (hL : Lay K)   (pp : (Int32 × MM))  (M12 : MM) (y13 : Int32) (a14 : Nat) (a16 : Nat) (h15 : Par K a14) (h17 : Lw K a16) (hf : fX11_known_j48 M12 y13 a14 a16 = some pp) : Z p l e (rmo 4 0 0) s m args below meth c 6 G (MQ below (QC G (some (.int pp.1)) K pp.2) args s 0 0 (AG G)) K 0 0 M12 48 [(0, .ref (G.1 + 0)), (3, .int y13), (4, .ref (G.1 + a14)), (5, .ref (G.1 + a16))] [] := by
  unfold fX11_known_j48 at hf
  refine z_aload_n C 0 0 dX11_known_48 rfl rfl ?_
  refine z_getR C ok_X11 (lay_c0 hL) 3 (60) (by decide) rfl (lay_r0_3 hL) q_fl_X11_30 dX11_known_49 ?_
  refine z_aload C 2 dX11_known_52 rfl ?_
  replace hf := bd_out hf
  obtain ⟨p18, e19, hf⟩ := hf
  refine z_cV0 C [] (tX0_begin l G hL M12 a14 h15 _ e19) lk_X0_begin ok_X0 (lay_c60 hL) q_ml_X11_188 rfl ⟨Nat.le_of_ble_eq_true rfl, Nat.le_of_ble_eq_true rfl⟩ rfl (Nat.le_of_ble_eq_true rfl) ⟨Nat.le_refl _, Nat.le_refl _⟩ dX11_known_54 ?_
  refine z_aload_n C 0 0 dX11_known_57 rfl rfl ?_
  refine z_getR C ok_X11 (lay_c0 hL) 3 (60) (by decide) rfl (lay_r0_3 hL) q_fl_X11_30 dX11_known_58 ?_
  refine z_aload C 3 dX11_known_61 rfl ?_
  refine z_getI C ok_X4 (Lw_o h17) 0 (by decide) rfl q_fl_X11_332 dX11_known_63 ?_
  replace hf := bd_out hf
  obtain ⟨p20, e21, hf⟩ := hf
  refine z_cV1 C [] (tX0_spread l G hL p18 (gI p18 a16 0) _ e21) lk_X0_spread ok_X0 (lay_c60 hL) q_ml_X11_303 rfl ⟨Nat.le_of_ble_eq_true rfl, Nat.le_of_ble_eq_true rfl⟩ rfl (Nat.le_of_ble_eq_true rfl) ⟨Nat.le_refl _, Nat.le_refl _⟩ dX11_known_66 ?_
  refine z_pop C rfl dX11_known_69 ?_
  refine z_iload_n C 1 3 dX11_known_70 rfl rfl ?_
  refine z_iconst C (-1) dX11_known_71 (by decide) ?_
  refine z_icmp_eq C 84 dX11_known_72 (by decide) (fun c22 => ?_) (fun c22 => ?_)
  · replace hf := ite_t c22 hf
    refine z_aload_n C 0 0 dX11_known_84 rfl rfl ?_
    refine z_getR C ok_X11 (lay_c0 hL) 5 (81) (by decide) rfl (lay_r0_5 hL) q_fl_X11_46 dX11_known_85 ?_
    refine z_aload C 2 dX11_known_88 rfl ?_
    replace hf := bd_out hf
    obtain ⟨p23, e24, hf⟩ := hf
    refine z_cV0 C [] (tX1_findKnown l G hL p20.2 a14 h15 _ e24) lk_X1_findKnown ok_X1 (lay_c81 hL) q_ml_X11_338 rfl ⟨Nat.le_of_ble_eq_true rfl, Nat.le_of_ble_eq_true rfl⟩ rfl (Nat.le_of_ble_eq_true rfl) ⟨Nat.le_refl _, Nat.le_refl _⟩ dX11_known_90 ?_
    refine z_aload_n C 0 0 dX11_known_93 rfl rfl ?_
    refine z_getR C ok_X11 (lay_c0 hL) 5 (81) (by decide) rfl (lay_r0_5 hL) q_fl_X11_46 dX11_known_94 ?_
    refine z_getI C ok_X1 (lay_c81 hL) 1 (by decide) rfl q_fl_X11_240 dX11_known_97 ?_
    cases hf
    exact z_iret C rfl dX11_known_100
  · replace hf := ite_f c22 hf
    refine z_aload_n C 0 0 dX11_known_75 rfl rfl ?_
    refine z_getR C ok_X11 (lay_c0 hL) 3 (60) (by decide) rfl (lay_r0_3 hL) q_fl_X11_30 dX11_known_76 ?_
    refine z_iload_n C 1 3 dX11_known_79 rfl rfl ?_
    replace hf := bd_out hf
    obtain ⟨p25, e26, hf⟩ := hf
    refine z_cV1 C [] (tX0_knownIn l G hL p20.2 y13 _ e26) lk_X0_knownIn ok_X0 (lay_c60 hL) q_ml_X11_335 rfl ⟨Nat.le_of_ble_eq_true rfl, Nat.le_of_ble_eq_true rfl⟩ rfl (Nat.le_of_ble_eq_true rfl) ⟨Nat.le_refl _, Nat.le_refl _⟩ dX11_known_80 ?_
    cases hf
    exact z_iret C rfl dX11_known_83
set_option maxHeartbeats 4000000 in
set_option maxRecDepth 100000 in
theorem tX11_known (l : Launch) (G : GG) {K : SK} (hL : Lay K) (M : MM) (x1 : Int32) (x2 : Int32) (x3 : Int32) (pp : (Int32 × MM)) (hf : fX11_known M x1 x2 x3 = some pp) : Ct l yX11_known cX11_known 6 (some .int) 4 0 0 G K M [.ref (G.1 + 0), .int x1, .int x2, .int x3] (some (.int pp.1)) K pp.2 := by
  refine z_enter (lv := [(0, .ref (G.1 + 0)), (1, .int x1), (2, .int x2), (3, .int x3)]) (by decide +kernel) (Nat.le_of_ble_eq_true rfl) rfl ?_
  intro p e s m args below meth c C hnm hs0
  replace C : CX p s m args meth c cX11_known 6 (some .int) RX11 G := C
  unfold fX11_known at hf
  refine z_aload_n C 0 0 dX11_known_0 rfl rfl ?_
  refine z_getR C ok_X11 (lay_c0 hL) 0 (1) (by decide) rfl (lay_r0_0 hL) q_fl_X11_10 dX11_known_1 ?_
  refine z_iload_n C 1 1 dX11_known_4 rfl rfl ?_
  replace hf := bd_out hf
  obtain ⟨p1, e2, hf⟩ := hf
  refine z_cV1 C [] (tX9_parishAt l G hL M x1 _ e2) lk_X9_parishAt ok_X9 (lay_c1 hL) q_ml_X11_149 rfl ⟨Nat.le_of_ble_eq_true rfl, Nat.le_of_ble_eq_true rfl⟩ rfl (Nat.le_of_ble_eq_true rfl) ⟨Nat.le_refl _, Nat.le_refl _⟩ dX11_known_5 ?_
  refine z_qstore C [(4, rfv G p1), (0, .ref (G.1 + 0)), (1, .int x1), (2, .int x2), (3, .int x3)] dX11_known_8 (by decide) rfl rfl ?_
  refine z_aload_n C 1 0 dX11_known_10 rfl rfl ?_
  refine z_getR C ok_X11 (lay_c0 hL) 0 (1) (by decide) rfl (lay_r0_0 hL) q_fl_X11_10 dX11_known_11 ?_
  refine z_iload_n C 3 2 dX11_known_14 rfl rfl ?_
  replace hf := bd_out hf
  obtain ⟨p3, e4, hf⟩ := hf
  refine z_cV1 C [] (tX9_lawAt l G hL M x2 _ e4) lk_X9_lawAt ok_X9 (lay_c1 hL) q_ml_X11_164 rfl ⟨Nat.le_of_ble_eq_true rfl, Nat.le_of_ble_eq_true rfl⟩ rfl (Nat.le_of_ble_eq_true rfl) ⟨Nat.le_refl _, Nat.le_refl _⟩ dX11_known_15 ?_
  refine z_qstore C [(5, rfv G p3), (4, rfv G p1), (0, .ref (G.1 + 0)), (1, .int x1), (2, .int x2), (3, .int x3)] dX11_known_18 (by decide) (by simp [va_rf_cat]) rfl ?_
  refine z_qload C 1 dX11_known_20 rfl ?_
  refine z_ifnullR C 30 dX11_known_22 (by decide) (fun c5 => ?_) (fun c5 => ?_)
  · subst c5
    refine z_iconst C (-1) dX11_known_30 (by decide) ?_
    cases hf
    exact z_iret C rfl dX11_known_31
  · obtain ⟨a6, rfl⟩ := Option.ne_none_iff_exists'.mp c5
    have h7 := (okf_parishAt hL e2) a6 rfl
    refine z_qload C 0 dX11_known_25 rfl ?_
    refine z_ifnonnullR C 32 dX11_known_27 (by decide) (fun c8 => ?_) (fun c8 => ?_)
    · obtain ⟨a9, rfl⟩ := Option.ne_none_iff_exists'.mp c8
      have h10 := (okf_lawAt hL e4) a9 rfl
      refine z_iload_n C 5 3 dX11_known_32 rfl rfl ?_
      refine z_iconst C (-1) dX11_known_33 (by decide) ?_
      refine z_icmp_eq C 48 dX11_known_34 (by decide) (fun c11 => ?_) (fun c11 => ?_)
      · replace hf := ite_t c11 hf
        refine z_lv (lv2 := [(0, .ref (G.1 + 0)), (3, .int x3), (4, .ref (G.1 + a6)), (5, .ref (G.1 + a9))]) [2, 5, 1, 0] rfl ?_
        exact wX11_known_j48 C hs0 hL pp M x3 a6 a9 h7 h10 hf
      · replace hf := ite_f c11 hf
        refine z_aload C 1 dX11_known_37 rfl ?_
        refine z_iload_n C 5 3 dX11_known_39 rfl rfl ?_
        refine z_cV1 C [] (tX5_hasPerson l G hL M a6 h7 x3) lk_X5_hasPerson ok_X5 (Par_o h7) q_ml_X11_199 rfl ⟨Nat.le_of_ble_eq_true rfl, Nat.le_of_ble_eq_true rfl⟩ rfl (Nat.le_of_ble_eq_true rfl) ⟨Nat.le_refl _, Nat.le_refl _⟩ dX11_known_40 ?_
        refine z_if_ne C 48 dX11_known_43 (by decide) (fun c27 => ?_) (fun c27 => ?_)
        · replace hf := ite_f c27 hf
          refine z_lv (lv2 := [(0, .ref (G.1 + 0)), (3, .int x3), (4, .ref (G.1 + a6)), (5, .ref (G.1 + a9))]) [2, 5, 1, 0] rfl ?_
          exact wX11_known_j48 C hs0 hL pp M x3 a6 a9 h7 h10 hf
        · replace hf := ite_t c27 hf
          refine z_iconst C (-1) dX11_known_46 (by decide) ?_
          cases hf
          exact z_iret C rfl dX11_known_47
    · subst c8
      refine z_iconst C (-1) dX11_known_30 (by decide) ?_
      cases hf
      exact z_iret C rfl dX11_known_31
set_option maxHeartbeats 4000000 in
set_option maxRecDepth 100000 in
theorem tX11_count (l : Launch) (G : GG) {K : SK} (hL : Lay K) (M : MM) (x1 : Int32) (pp : Int32) (hf : fX11_count M x1 = some pp) : Ct l yX11_count cX11_count 2 (some .int) 0 0 0 G K M [.ref (G.1 + 0), .int x1] (some (.int pp)) K M := by
  refine z_enter (lv := [(0, .ref (G.1 + 0)), (1, .int x1)]) (by decide +kernel) (Nat.le_of_ble_eq_true rfl) rfl ?_
  intro p e s m args below meth c C hnm hs0
  replace C : CX p s m args meth c cX11_count 2 (some .int) RX11 G := C
  unfold fX11_count at hf
  refine z_iload_n C 1 1 dX11_count_0 rfl rfl ?_
  refine z_if_lt C 9 dX11_count_1 (by decide) (fun c1 => ?_) (fun c1 => ?_)
  · replace hf := ite_t c1 hf
    refine z_bipush C (-2) dX11_count_9 (by decide) ?_
    refine z_goto C 23 dX11_count_11 (by decide) ?_
    cases hf
    exact z_iret C rfl dX11_count_23
  · replace hf := ite_f c1 hf
    refine z_iload_n C 1 1 dX11_count_4 rfl rfl ?_
    refine z_iconst C 4 dX11_count_5 (by decide) ?_
    refine z_icmp_lt C 14 dX11_count_6 (by decide) (fun c2 => ?_) (fun c2 => ?_)
    · replace hf := ite_t c2 hf
      refine z_aload_n C 0 0 dX11_count_14 rfl rfl ?_
      refine z_getR C ok_X11 (lay_c0 hL) 0 (1) (by decide) rfl (lay_r0_0 hL) q_fl_X11_10 dX11_count_15 ?_
      refine z_getR C ok_X9 (lay_c1 hL) 0 (2) (by decide) rfl (lay_r1_0 hL) q_fl_X11_78 dX11_count_18 ?_
      refine z_iload_n C 1 1 dX11_count_21 rfl rfl ?_
      replace hf := gd_out hf
      obtain ⟨g3, hf⟩ := hf
      refine z_iald C (lay_c2 hL) (inb_in g3) dX11_count_22 ?_
      cases hf
      exact z_iret C rfl dX11_count_23
    · replace hf := ite_f c2 hf
      refine z_bipush C (-2) dX11_count_9 (by decide) ?_
      refine z_goto C 23 dX11_count_11 (by decide) ?_
      cases hf
      exact z_iret C rfl dX11_count_23
end
