theorem dJ6_bitCount_0f7a4_0 : decode cJ6_bitCount_0f7a4 0 = .ok (.iload_n 0, 1) := by decide +kernel
theorem dJ6_bitCount_0f7a4_1 : decode cJ6_bitCount_0f7a4 1 = .ok (.iload_n 0, 1) := by decide +kernel
theorem dJ6_bitCount_0f7a4_2 : decode cJ6_bitCount_0f7a4 2 = .ok (.iconst 1, 1) := by decide +kernel
theorem dJ6_bitCount_0f7a4_3 : decode cJ6_bitCount_0f7a4 3 = .ok (.iushr, 1) := by decide +kernel
theorem dJ6_bitCount_0f7a4_4 : decode cJ6_bitCount_0f7a4 4 = .ok (.ldc_w 265, 3) := by decide +kernel
theorem dJ6_bitCount_0f7a4_7 : decode cJ6_bitCount_0f7a4 7 = .ok (.iand, 1) := by decide +kernel
theorem dJ6_bitCount_0f7a4_8 : decode cJ6_bitCount_0f7a4 8 = .ok (.isub, 1) := by decide +kernel
theorem dJ6_bitCount_0f7a4_9 : decode cJ6_bitCount_0f7a4 9 = .ok (.istore_n 0, 1) := by decide +kernel
theorem dJ6_bitCount_0f7a4_10 : decode cJ6_bitCount_0f7a4 10 = .ok (.iload_n 0, 1) := by decide +kernel
theorem dJ6_bitCount_0f7a4_11 : decode cJ6_bitCount_0f7a4 11 = .ok (.ldc_w 266, 3) := by decide +kernel
theorem dJ6_bitCount_0f7a4_14 : decode cJ6_bitCount_0f7a4 14 = .ok (.iand, 1) := by decide +kernel
theorem dJ6_bitCount_0f7a4_15 : decode cJ6_bitCount_0f7a4 15 = .ok (.iload_n 0, 1) := by decide +kernel
theorem dJ6_bitCount_0f7a4_16 : decode cJ6_bitCount_0f7a4 16 = .ok (.iconst 2, 1) := by decide +kernel
theorem dJ6_bitCount_0f7a4_17 : decode cJ6_bitCount_0f7a4 17 = .ok (.iushr, 1) := by decide +kernel
theorem dJ6_bitCount_0f7a4_18 : decode cJ6_bitCount_0f7a4 18 = .ok (.ldc_w 266, 3) := by decide +kernel
theorem dJ6_bitCount_0f7a4_21 : decode cJ6_bitCount_0f7a4 21 = .ok (.iand, 1) := by decide +kernel
theorem dJ6_bitCount_0f7a4_22 : decode cJ6_bitCount_0f7a4 22 = .ok (.iadd, 1) := by decide +kernel
theorem dJ6_bitCount_0f7a4_23 : decode cJ6_bitCount_0f7a4 23 = .ok (.istore_n 0, 1) := by decide +kernel
theorem dJ6_bitCount_0f7a4_24 : decode cJ6_bitCount_0f7a4 24 = .ok (.iload_n 0, 1) := by decide +kernel
theorem dJ6_bitCount_0f7a4_25 : decode cJ6_bitCount_0f7a4 25 = .ok (.iload_n 0, 1) := by decide +kernel
theorem dJ6_bitCount_0f7a4_26 : decode cJ6_bitCount_0f7a4 26 = .ok (.iconst 4, 1) := by decide +kernel
theorem dJ6_bitCount_0f7a4_27 : decode cJ6_bitCount_0f7a4 27 = .ok (.iushr, 1) := by decide +kernel
theorem dJ6_bitCount_0f7a4_28 : decode cJ6_bitCount_0f7a4 28 = .ok (.iadd, 1) := by decide +kernel
theorem dJ6_bitCount_0f7a4_29 : decode cJ6_bitCount_0f7a4 29 = .ok (.ldc_w 267, 3) := by decide +kernel
theorem dJ6_bitCount_0f7a4_32 : decode cJ6_bitCount_0f7a4 32 = .ok (.iand, 1) := by decide +kernel
theorem dJ6_bitCount_0f7a4_33 : decode cJ6_bitCount_0f7a4 33 = .ok (.istore_n 0, 1) := by decide +kernel
theorem dJ6_bitCount_0f7a4_34 : decode cJ6_bitCount_0f7a4 34 = .ok (.iload_n 0, 1) := by decide +kernel
theorem dJ6_bitCount_0f7a4_35 : decode cJ6_bitCount_0f7a4 35 = .ok (.iload_n 0, 1) := by decide +kernel
theorem dJ6_bitCount_0f7a4_36 : decode cJ6_bitCount_0f7a4 36 = .ok (.bipush 8, 2) := by decide +kernel
theorem dJ6_bitCount_0f7a4_38 : decode cJ6_bitCount_0f7a4 38 = .ok (.iushr, 1) := by decide +kernel
theorem dJ6_bitCount_0f7a4_39 : decode cJ6_bitCount_0f7a4 39 = .ok (.iadd, 1) := by decide +kernel
theorem dJ6_bitCount_0f7a4_40 : decode cJ6_bitCount_0f7a4 40 = .ok (.istore_n 0, 1) := by decide +kernel
theorem dJ6_bitCount_0f7a4_41 : decode cJ6_bitCount_0f7a4 41 = .ok (.iload_n 0, 1) := by decide +kernel
theorem dJ6_bitCount_0f7a4_42 : decode cJ6_bitCount_0f7a4 42 = .ok (.iload_n 0, 1) := by decide +kernel
theorem dJ6_bitCount_0f7a4_43 : decode cJ6_bitCount_0f7a4 43 = .ok (.bipush 16, 2) := by decide +kernel
theorem dJ6_bitCount_0f7a4_45 : decode cJ6_bitCount_0f7a4 45 = .ok (.iushr, 1) := by decide +kernel
theorem dJ6_bitCount_0f7a4_46 : decode cJ6_bitCount_0f7a4 46 = .ok (.iadd, 1) := by decide +kernel
theorem dJ6_bitCount_0f7a4_47 : decode cJ6_bitCount_0f7a4 47 = .ok (.istore_n 0, 1) := by decide +kernel
theorem dJ6_bitCount_0f7a4_48 : decode cJ6_bitCount_0f7a4 48 = .ok (.iload_n 0, 1) := by decide +kernel
theorem dJ6_bitCount_0f7a4_49 : decode cJ6_bitCount_0f7a4 49 = .ok (.bipush 63, 2) := by decide +kernel
theorem dJ6_bitCount_0f7a4_51 : decode cJ6_bitCount_0f7a4 51 = .ok (.iand, 1) := by decide +kernel
theorem dJ6_bitCount_0f7a4_52 : decode cJ6_bitCount_0f7a4 52 = .ok (.ireturn, 1) := by decide +kernel
theorem dJ7_fill_53178_0 : decode cJ7_fill_53178 0 = .ok (.iconst 0, 1) := by decide +kernel
theorem dJ7_fill_53178_1 : decode cJ7_fill_53178 1 = .ok (.istore_n 2, 1) := by decide +kernel
theorem dJ7_fill_53178_2 : decode cJ7_fill_53178 2 = .ok (.aload_n 0, 1) := by decide +kernel
theorem dJ7_fill_53178_3 : decode cJ7_fill_53178 3 = .ok (.arraylength, 1) := by decide +kernel
theorem dJ7_fill_53178_4 : decode cJ7_fill_53178 4 = .ok (.istore_n 3, 1) := by decide +kernel
theorem dJ7_fill_53178_5 : decode cJ7_fill_53178 5 = .ok (.iload_n 2, 1) := by decide +kernel
theorem dJ7_fill_53178_6 : decode cJ7_fill_53178 6 = .ok (.iload_n 3, 1) := by decide +kernel
theorem dJ7_fill_53178_7 : decode cJ7_fill_53178 7 = .ok (.if_icmp .ge 13, 3) := by decide +kernel
theorem dJ7_fill_53178_10 : decode cJ7_fill_53178 10 = .ok (.aload_n 0, 1) := by decide +kernel
theorem dJ7_fill_53178_11 : decode cJ7_fill_53178 11 = .ok (.iload_n 2, 1) := by decide +kernel
theorem dJ7_fill_53178_12 : decode cJ7_fill_53178 12 = .ok (.iload_n 1, 1) := by decide +kernel
theorem dJ7_fill_53178_13 : decode cJ7_fill_53178 13 = .ok (.iastore, 1) := by decide +kernel
theorem dJ7_fill_53178_14 : decode cJ7_fill_53178 14 = .ok (.iinc 2 1, 3) := by decide +kernel
theorem dJ7_fill_53178_17 : decode cJ7_fill_53178 17 = .ok (.goto (-12), 3) := by decide +kernel
theorem dJ7_fill_53178_20 : decode cJ7_fill_53178 20 = .ok (.return_, 1) := by decide +kernel
theorem dJ0_isLatin1_aae02_0 : decode cJ0_isLatin1_aae02 0 = .ok (.getstatic 38, 3) := by decide +kernel
theorem dJ0_isLatin1_aae02_3 : decode cJ0_isLatin1_aae02 3 = .ok (.ifCond .eq 14, 3) := by decide +kernel
theorem dJ0_isLatin1_aae02_6 : decode cJ0_isLatin1_aae02 6 = .ok (.aload_n 0, 1) := by decide +kernel
theorem dJ0_isLatin1_aae02_7 : decode cJ0_isLatin1_aae02 7 = .ok (.getfield 15, 3) := by decide +kernel
theorem dJ0_isLatin1_aae02_10 : decode cJ0_isLatin1_aae02 10 = .ok (.ifCond .ne 7, 3) := by decide +kernel
theorem dJ0_isLatin1_aae02_13 : decode cJ0_isLatin1_aae02 13 = .ok (.iconst 1, 1) := by decide +kernel
theorem dJ0_isLatin1_aae02_14 : decode cJ0_isLatin1_aae02 14 = .ok (.goto 4, 3) := by decide +kernel
theorem dJ0_isLatin1_aae02_17 : decode cJ0_isLatin1_aae02 17 = .ok (.iconst 0, 1) := by decide +kernel
theorem dJ0_isLatin1_aae02_18 : decode cJ0_isLatin1_aae02 18 = .ok (.ireturn, 1) := by decide +kernel
theorem dJ3_checkIndex_8e157_0 : decode cJ3_checkIndex_8e157 0 = .ok (.iload_n 0, 1) := by decide +kernel
theorem dJ3_checkIndex_8e157_1 : decode cJ3_checkIndex_8e157 1 = .ok (.ifCond .lt 8, 3) := by decide +kernel
theorem dJ3_checkIndex_8e157_4 : decode cJ3_checkIndex_8e157 4 = .ok (.iload_n 0, 1) := by decide +kernel
theorem dJ3_checkIndex_8e157_5 : decode cJ3_checkIndex_8e157 5 = .ok (.iload_n 1, 1) := by decide +kernel
theorem dJ3_checkIndex_8e157_6 : decode cJ3_checkIndex_8e157 6 = .ok (.if_icmp .lt 10, 3) := by decide +kernel
theorem dJ3_checkIndex_8e157_9 : decode cJ3_checkIndex_8e157 9 = .ok (.aload_n 2, 1) := by decide +kernel
theorem dJ3_checkIndex_8e157_10 : decode cJ3_checkIndex_8e157 10 = .ok (.iload_n 0, 1) := by decide +kernel
theorem dJ3_checkIndex_8e157_11 : decode cJ3_checkIndex_8e157 11 = .ok (.iload_n 1, 1) := by decide +kernel
theorem dJ3_checkIndex_8e157_12 : decode cJ3_checkIndex_8e157 12 = .ok (.invokestatic 95, 3) := by decide +kernel
theorem dJ3_checkIndex_8e157_15 : decode cJ3_checkIndex_8e157 15 = .ok (.athrow, 1) := by decide +kernel
theorem dJ3_checkIndex_8e157_16 : decode cJ3_checkIndex_8e157 16 = .ok (.iload_n 0, 1) := by decide +kernel
theorem dJ3_checkIndex_8e157_17 : decode cJ3_checkIndex_8e157 17 = .ok (.ireturn, 1) := by decide +kernel
theorem dJ0_checkIndex_df160_0 : decode cJ0_checkIndex_df160 0 = .ok (.iload_n 0, 1) := by decide +kernel
theorem dJ0_checkIndex_df160_1 : decode cJ0_checkIndex_df160 1 = .ok (.iload_n 1, 1) := by decide +kernel
theorem dJ0_checkIndex_df160_2 : decode cJ0_checkIndex_df160 2 = .ok (.getstatic 1053, 3) := by decide +kernel
theorem dJ0_checkIndex_df160_5 : decode cJ0_checkIndex_df160 5 = .ok (.invokestatic 1059, 3) := by decide +kernel
theorem dJ0_checkIndex_df160_8 : decode cJ0_checkIndex_df160 8 = .ok (.pop, 1) := by decide +kernel
theorem dJ0_checkIndex_df160_9 : decode cJ0_checkIndex_df160 9 = .ok (.return_, 1) := by decide +kernel
theorem dJ1_charAt_3b067_0 : decode cJ1_charAt_3b067 0 = .ok (.iload_n 1, 1) := by decide +kernel
theorem dJ1_charAt_3b067_1 : decode cJ1_charAt_3b067 1 = .ok (.aload_n 0, 1) := by decide +kernel
theorem dJ1_charAt_3b067_2 : decode cJ1_charAt_3b067 2 = .ok (.arraylength, 1) := by decide +kernel
theorem dJ1_charAt_3b067_3 : decode cJ1_charAt_3b067 3 = .ok (.invokestatic 9, 3) := by decide +kernel
theorem dJ1_charAt_3b067_6 : decode cJ1_charAt_3b067 6 = .ok (.aload_n 0, 1) := by decide +kernel
theorem dJ1_charAt_3b067_7 : decode cJ1_charAt_3b067 7 = .ok (.iload_n 1, 1) := by decide +kernel
theorem dJ1_charAt_3b067_8 : decode cJ1_charAt_3b067 8 = .ok (.baload, 1) := by decide +kernel
theorem dJ1_charAt_3b067_9 : decode cJ1_charAt_3b067 9 = .ok (.sipush 255, 3) := by decide +kernel
theorem dJ1_charAt_3b067_12 : decode cJ1_charAt_3b067 12 = .ok (.iand, 1) := by decide +kernel
theorem dJ1_charAt_3b067_13 : decode cJ1_charAt_3b067 13 = .ok (.i2c, 1) := by decide +kernel
theorem dJ1_charAt_3b067_14 : decode cJ1_charAt_3b067 14 = .ok (.ireturn, 1) := by decide +kernel
theorem dJ0_charAt_5068e_0 : decode cJ0_charAt_5068e 0 = .ok (.aload_n 0, 1) := by decide +kernel
theorem dJ0_charAt_5068e_1 : decode cJ0_charAt_5068e 1 = .ok (.invokevirtual 492, 3) := by decide +kernel
theorem dJ0_charAt_5068e_4 : decode cJ0_charAt_5068e 4 = .ok (.ifCond .eq 12, 3) := by decide +kernel
theorem dJ0_charAt_5068e_7 : decode cJ0_charAt_5068e 7 = .ok (.aload_n 0, 1) := by decide +kernel
theorem dJ0_charAt_5068e_8 : decode cJ0_charAt_5068e 8 = .ok (.getfield 9, 3) := by decide +kernel
theorem dJ0_charAt_5068e_11 : decode cJ0_charAt_5068e 11 = .ok (.iload_n 1, 1) := by decide +kernel
theorem dJ0_charAt_5068e_12 : decode cJ0_charAt_5068e 12 = .ok (.invokestatic 495, 3) := by decide +kernel
theorem dJ0_charAt_5068e_15 : decode cJ0_charAt_5068e 15 = .ok (.ireturn, 1) := by decide +kernel
theorem dJ0_charAt_5068e_16 : decode cJ0_charAt_5068e 16 = .ok (.aload_n 0, 1) := by decide +kernel
theorem dJ0_charAt_5068e_17 : decode cJ0_charAt_5068e 17 = .ok (.getfield 9, 3) := by decide +kernel
theorem dJ0_charAt_5068e_20 : decode cJ0_charAt_5068e 20 = .ok (.iload_n 1, 1) := by decide +kernel
theorem dJ0_charAt_5068e_21 : decode cJ0_charAt_5068e 21 = .ok (.invokestatic 498, 3) := by decide +kernel
theorem dJ0_charAt_5068e_24 : decode cJ0_charAt_5068e 24 = .ok (.ireturn, 1) := by decide +kernel
theorem dJ0_coder_7d493_0 : decode cJ0_coder_7d493 0 = .ok (.getstatic 38, 3) := by decide +kernel
theorem dJ0_coder_7d493_3 : decode cJ0_coder_7d493 3 = .ok (.ifCond .eq 10, 3) := by decide +kernel
theorem dJ0_coder_7d493_6 : decode cJ0_coder_7d493 6 = .ok (.aload_n 0, 1) := by decide +kernel
theorem dJ0_coder_7d493_7 : decode cJ0_coder_7d493 7 = .ok (.getfield 15, 3) := by decide +kernel
theorem dJ0_coder_7d493_10 : decode cJ0_coder_7d493 10 = .ok (.goto 4, 3) := by decide +kernel
theorem dJ0_coder_7d493_13 : decode cJ0_coder_7d493 13 = .ok (.iconst 1, 1) := by decide +kernel
theorem dJ0_coder_7d493_14 : decode cJ0_coder_7d493 14 = .ok (.ireturn, 1) := by decide +kernel
theorem dJ0_length_8abf5_0 : decode cJ0_length_8abf5 0 = .ok (.aload_n 0, 1) := by decide +kernel
theorem dJ0_length_8abf5_1 : decode cJ0_length_8abf5 1 = .ok (.getfield 9, 3) := by decide +kernel
theorem dJ0_length_8abf5_4 : decode cJ0_length_8abf5 4 = .ok (.arraylength, 1) := by decide +kernel
theorem dJ0_length_8abf5_5 : decode cJ0_length_8abf5 5 = .ok (.aload_n 0, 1) := by decide +kernel
theorem dJ0_length_8abf5_6 : decode cJ0_length_8abf5 6 = .ok (.invokevirtual 335, 3) := by decide +kernel
theorem dJ0_length_8abf5_9 : decode cJ0_length_8abf5 9 = .ok (.ishr, 1) := by decide +kernel
theorem dJ0_length_8abf5_10 : decode cJ0_length_8abf5 10 = .ok (.ireturn, 1) := by decide +kernel
section
variable {p : Program} {l : Launch} {e : Env} {s : State} {m : MethodId} {args : Array Value} {below : List Frame} {meth : Method} {c : Code} {G : GG} {K : SK}
set_option maxHeartbeats 4000000 in
set_option maxRecDepth 100000 in
theorem tJ6_bitCount_0f7a4 (l : Launch) (G : GG) {K : SK} (M : MM) (x0 : Int32) : Ct l yJ6_bitCount_0f7a4 cJ6_bitCount_0f7a4 1 (some .int) 0 0 0 G K M [.int x0] (some (.int (fJ6_bitCount_0f7a4 x0))) K M := by
  generalize hf : fJ6_bitCount_0f7a4 x0 = pp
  refine z_enter (lv := [(0, .int x0)]) (by decide +kernel) (Nat.le_of_ble_eq_true rfl) rfl ?_
  intro p e s m args below meth c C hnm hs0
  replace C : CX p s m args meth c cJ6_bitCount_0f7a4 1 (some .int) RJ6 G := C
  unfold fJ6_bitCount_0f7a4 at hf
  refine z_iload_n C 0 0 dJ6_bitCount_0f7a4_0 rfl rfl ?_
  refine z_iload_n C 0 0 dJ6_bitCount_0f7a4_1 rfl rfl ?_
  refine z_iconst C 1 dJ6_bitCount_0f7a4_2 (by decide) ?_
  refine z_iushr C dJ6_bitCount_0f7a4_3 ?_
  refine z_ldcw C 1431655765 q_ct_J6_265 dJ6_bitCount_0f7a4_4 ?_
  refine z_iand C dJ6_bitCount_0f7a4_7 ?_
  refine z_isub C dJ6_bitCount_0f7a4_8 ?_
  refine z_topi (fun v1 e2 => ?_)
  replace hf := bnd_out e2 hf
  refine z_istore_n C [(0, .int v1)] dJ6_bitCount_0f7a4_9 rfl (by decide) rfl rfl ?_
  refine z_iload_n C 0 0 dJ6_bitCount_0f7a4_10 rfl rfl ?_
  refine z_ldcw C 858993459 q_ct_J6_266 dJ6_bitCount_0f7a4_11 ?_
  refine z_iand C dJ6_bitCount_0f7a4_14 ?_
  refine z_iload_n C 0 0 dJ6_bitCount_0f7a4_15 rfl rfl ?_
  refine z_iconst C 2 dJ6_bitCount_0f7a4_16 (by decide) ?_
  refine z_iushr C dJ6_bitCount_0f7a4_17 ?_
  refine z_ldcw C 858993459 q_ct_J6_266 dJ6_bitCount_0f7a4_18 ?_
  refine z_iand C dJ6_bitCount_0f7a4_21 ?_
  refine z_iadd C dJ6_bitCount_0f7a4_22 ?_
  refine z_topi (fun v3 e4 => ?_)
  replace hf := bnd_out e4 hf
  refine z_istore_n C [(0, .int v3)] dJ6_bitCount_0f7a4_23 rfl (by decide) rfl rfl ?_
  refine z_iload_n C 0 0 dJ6_bitCount_0f7a4_24 rfl rfl ?_
  refine z_iload_n C 0 0 dJ6_bitCount_0f7a4_25 rfl rfl ?_
  refine z_iconst C 4 dJ6_bitCount_0f7a4_26 (by decide) ?_
  refine z_iushr C dJ6_bitCount_0f7a4_27 ?_
  refine z_iadd C dJ6_bitCount_0f7a4_28 ?_
  refine z_ldcw C 252645135 q_ct_J6_267 dJ6_bitCount_0f7a4_29 ?_
  refine z_iand C dJ6_bitCount_0f7a4_32 ?_
  refine z_topi (fun v5 e6 => ?_)
  replace hf := bnd_out e6 hf
  refine z_istore_n C [(0, .int v5)] dJ6_bitCount_0f7a4_33 rfl (by decide) rfl rfl ?_
  refine z_iload_n C 0 0 dJ6_bitCount_0f7a4_34 rfl rfl ?_
  refine z_iload_n C 0 0 dJ6_bitCount_0f7a4_35 rfl rfl ?_
  refine z_bipush C 8 dJ6_bitCount_0f7a4_36 (by decide) ?_
  refine z_iushr C dJ6_bitCount_0f7a4_38 ?_
  refine z_iadd C dJ6_bitCount_0f7a4_39 ?_
  refine z_topi (fun v7 e8 => ?_)
  replace hf := bnd_out e8 hf
  refine z_istore_n C [(0, .int v7)] dJ6_bitCount_0f7a4_40 rfl (by decide) rfl rfl ?_
  refine z_iload_n C 0 0 dJ6_bitCount_0f7a4_41 rfl rfl ?_
  refine z_iload_n C 0 0 dJ6_bitCount_0f7a4_42 rfl rfl ?_
  refine z_bipush C 16 dJ6_bitCount_0f7a4_43 (by decide) ?_
  refine z_iushr C dJ6_bitCount_0f7a4_45 ?_
  refine z_iadd C dJ6_bitCount_0f7a4_46 ?_
  refine z_topi (fun v9 e10 => ?_)
  replace hf := bnd_out e10 hf
  refine z_istore_n C [(0, .int v9)] dJ6_bitCount_0f7a4_47 rfl (by decide) rfl rfl ?_
  refine z_iload_n C 0 0 dJ6_bitCount_0f7a4_48 rfl rfl ?_
  refine z_bipush C 63 dJ6_bitCount_0f7a4_49 (by decide) ?_
  refine z_iand C dJ6_bitCount_0f7a4_51 ?_
  cases hf
  exact z_iret C rfl dJ6_bitCount_0f7a4_52
set_option maxHeartbeats 4000000 in
set_option maxRecDepth 100000 in
theorem wJ7_fill_53178_l5 (C : CX p s m args meth c cJ7_fill_53178 4 none RJ7 G) (hs0 : s.heap.size = G.1 + K.1) (a0 : Nat) (n0 : Nat) (h0 : isC K a0 20 n0)  (pp : MM)  : ∀ (n : Nat) (M3 : MM) (y4 : Int32) (y5 : Int32) (y6 : Int32) (hf : fJ7_fill_53178_l5 a0 n0 n M3 y4 y5 y6 = some pp), Z p l e (rmo 0 0 0) s m args below meth c 4 G (MQ below (QC G none K pp) args s 0 0 (AG G)) K 0 0 M3 5 [(0, .ref (G.1 + a0)), (1, .int y4), (2, .int y5), (3, .int y6)] [] := by
  intro n
  induction n with
  | zero => intro M3 y4 y5 y6 hf; exact nomatch (show (none : Option MM) = some pp from hf)
  | succ n ih =>
    intro M3 y4 y5 y6 hf
    rw [fJ7_fill_53178_l5.eq_2] at hf
    refine z_iload_n C 2 2 dJ7_fill_53178_5 rfl rfl ?_
    refine z_iload_n C 3 3 dJ7_fill_53178_6 rfl rfl ?_
    refine z_icmp_ge C 20 dJ7_fill_53178_7 (by decide) (fun c7 => ?_) (fun c7 => ?_)
    · replace hf := ite_t c7 hf
      cases hf
      exact z_vret C rfl dJ7_fill_53178_20
    · replace hf := ite_f c7 hf
      refine z_aload_n C 0 0 dJ7_fill_53178_10 rfl rfl ?_
      refine z_iload_n C 2 2 dJ7_fill_53178_11 rfl rfl ?_
      refine z_iload_n C 1 1 dJ7_fill_53178_12 rfl rfl ?_
      replace hf := gd_out hf
      obtain ⟨g8, hf⟩ := hf
      refine z_iast C h0 (inb_in g8) dJ7_fill_53178_13 ?_
      refine z_M (fun M9 e10 => ?_)
      replace hf := bnd_out e10 hf
      refine z_iinc C 2 (y5 + 1) [(2, .int (y5 + 1)), (0, .ref (G.1 + a0)), (1, .int y4), (3, .int y6)] dJ7_fill_53178_14 rfl rfl (by decide) rfl rfl ?_
      refine z_goto C 5 dJ7_fill_53178_17 (by decide) ?_
      refine z_lv (lv2 := [(0, .ref (G.1 + a0)), (1, .int y4), (2, .int (y5 + 1)), (3, .int y6)]) [1, 2, 0, 3] rfl ?_
      exact ih M9 y4 (y5 + 1) y6  hf
set_option maxHeartbeats 4000000 in
set_option maxRecDepth 100000 in
theorem tJ7_fill_53178 (l : Launch) (G : GG) {K : SK} (M : MM) (a0 : Nat) (n0 : Nat) (h0 : isC K a0 20 n0) (x1 : Int32) (pp : MM) (hf : fJ7_fill_53178 M a0 n0 x1 = some pp) : Ct l yJ7_fill_53178 cJ7_fill_53178 4 none 0 0 0 G K M [.ref (G.1 + a0), .int x1] none K pp := by
  refine z_enter (lv := [(0, .ref (G.1 + a0)), (1, .int x1)]) (by decide +kernel) (Nat.le_of_ble_eq_true rfl) rfl ?_
  intro p e s m args below meth c C hnm hs0
  replace C : CX p s m args meth c cJ7_fill_53178 4 none RJ7 G := C
  unfold fJ7_fill_53178 at hf
  refine z_iconst C 0 dJ7_fill_53178_0 (by decide) ?_
  refine z_istore_n C [(2, .int 0), (0, .ref (G.1 + a0)), (1, .int x1)] dJ7_fill_53178_1 rfl (by decide) rfl rfl ?_
  refine z_aload_n C 1 0 dJ7_fill_53178_2 rfl rfl ?_
  refine z_alen C 0 _ h0 (by decide) rfl dJ7_fill_53178_3 ?_
  refine z_topi (fun v1 e2 => ?_)
  replace hf := bnd_out e2 hf
  refine z_istore_n C [(3, .int v1), (2, .int 0), (0, .ref (G.1 + a0)), (1, .int x1)] dJ7_fill_53178_4 rfl (by decide) rfl rfl ?_
  refine z_lv (lv2 := [(0, .ref (G.1 + a0)), (1, .int x1), (2, .int 0), (3, .int v1)]) [2, 3, 1, 0] rfl ?_
  exact wJ7_fill_53178_l5 C hs0 a0 n0 h0 pp FU M x1 0 v1 hf
set_option maxHeartbeats 4000000 in
set_option maxRecDepth 100000 in
theorem tJ0_isLatin1_aae02 (l : Launch) (G : GG) {K : SK} (M : MM) (w0 : Nat) (h0 : w0 < 21) : Ct l yJ0_isLatin1_aae02 cJ0_isLatin1_aae02 1 (some .boolean) 0 0 0 G K M [.ref (G.2.2.2 (100 + w0))] (some (.int (fJ0_isLatin1_aae02 w0))) K M := by
  generalize hf : fJ0_isLatin1_aae02 w0 = pp
  refine z_enter (lv := [(0, .ref (G.2.2.2 (100 + w0)))]) (by decide +kernel) (Nat.le_of_ble_eq_true rfl) rfl ?_
  intro p e s m args below meth c C hnm hs0
  replace C : CX p s m args meth c cJ0_isLatin1_aae02 1 (some .boolean) RJ0 G := C
  unfold fJ0_isLatin1_aae02 at hf
  refine z_compact C q_fl_J0_38 dJ0_isLatin1_aae02_0 ?_
  refine z_if_eq C 17 dJ0_isLatin1_aae02_3 (by decide) (fun h => absurd h (by decide)) (fun _ => ?_)
  refine z_aload_n C 0 0 dJ0_isLatin1_aae02_6 rfl rfl ?_
  refine z_scod C w0 h0 q_fl_J0_15 dJ0_isLatin1_aae02_7 ?_
  refine z_if_ne C 17 dJ0_isLatin1_aae02_10 (by decide) (fun h => absurd (by decide) h) (fun _ => ?_)
  refine z_iconst C 1 dJ0_isLatin1_aae02_13 (by decide) ?_
  refine z_goto C 18 dJ0_isLatin1_aae02_14 (by decide) ?_
  cases hf
  exact z_zret C rfl nb1 dJ0_isLatin1_aae02_18
set_option maxHeartbeats 4000000 in
set_option maxRecDepth 100000 in
theorem tJ3_checkIndex_8e157 (l : Launch) (G : GG) {K : SK} (M : MM) (x0 : Int32) (x1 : Int32) (o2 : Option Nat) (pp : Int32) (hf : fJ3_checkIndex_8e157 x0 x1 = some pp) : Ct l yJ3_checkIndex_8e157 cJ3_checkIndex_8e157 3 (some .int) 0 0 0 G K M [.int x0, .int x1, va_rf o2] (some (.int pp)) K M := by
  rcases o2 with _ | o2
  · refine z_enter (lv := [(0, .int x0), (1, .int x1), (2, va_rf none)]) (by decide +kernel) (Nat.le_of_ble_eq_true rfl) rfl ?_
    intro p e s m args below meth c C hnm hs0
    replace C : CX p s m args meth c cJ3_checkIndex_8e157 3 (some .int) RJ3 G := C
    unfold fJ3_checkIndex_8e157 at hf
    refine z_iload_n C 0 0 dJ3_checkIndex_8e157_0 rfl rfl ?_
    refine z_if_lt C 9 dJ3_checkIndex_8e157_1 (by decide) (fun c1 => ?_) (fun c1 => ?_)
    · replace hf := ite_t c1 hf
      cases hf
    · replace hf := ite_f c1 hf
      refine z_iload_n C 0 0 dJ3_checkIndex_8e157_4 rfl rfl ?_
      refine z_iload_n C 1 1 dJ3_checkIndex_8e157_5 rfl rfl ?_
      refine z_icmp_lt C 16 dJ3_checkIndex_8e157_6 (by decide) (fun c2 => ?_) (fun c2 => ?_)
      · replace hf := ite_t c2 hf
        refine z_iload_n C 0 0 dJ3_checkIndex_8e157_16 rfl rfl ?_
        cases hf
        exact z_iret C rfl dJ3_checkIndex_8e157_17
      · replace hf := ite_f c2 hf
        cases hf
  · refine z_enter (lv := [(0, .int x0), (1, .int x1), (2, va_rf (some o2))]) (by decide +kernel) (Nat.le_of_ble_eq_true rfl) rfl ?_
    intro p e s m args below meth c C hnm hs0
    replace C : CX p s m args meth c cJ3_checkIndex_8e157 3 (some .int) RJ3 G := C
    unfold fJ3_checkIndex_8e157 at hf
    refine z_iload_n C 0 0 dJ3_checkIndex_8e157_0 rfl rfl ?_
    refine z_if_lt C 9 dJ3_checkIndex_8e157_1 (by decide) (fun c1 => ?_) (fun c1 => ?_)
    · replace hf := ite_t c1 hf
      cases hf
    · replace hf := ite_f c1 hf
      refine z_iload_n C 0 0 dJ3_checkIndex_8e157_4 rfl rfl ?_
      refine z_iload_n C 1 1 dJ3_checkIndex_8e157_5 rfl rfl ?_
      refine z_icmp_lt C 16 dJ3_checkIndex_8e157_6 (by decide) (fun c2 => ?_) (fun c2 => ?_)
      · replace hf := ite_t c2 hf
        refine z_iload_n C 0 0 dJ3_checkIndex_8e157_16 rfl rfl ?_
        cases hf
        exact z_iret C rfl dJ3_checkIndex_8e157_17
      · replace hf := ite_f c2 hf
        cases hf
set_option maxHeartbeats 4000000 in
set_option maxRecDepth 100000 in
theorem tJ0_checkIndex_df160 (l : Launch) (G : GG) {K : SK} (M : MM) (x0 : Int32) (x1 : Int32) (pp : Unit) (hf : fJ0_checkIndex_df160 x0 x1 = some pp) : Ct l yJ0_checkIndex_df160 cJ0_checkIndex_df160 2 none 1 0 0 G K M [.int x0, .int x1] none K M := by
  refine z_enter (lv := [(0, .int x0), (1, .int x1)]) (by decide +kernel) (Nat.le_of_ble_eq_true rfl) rfl ?_
  intro p e s m args below meth c C hnm hs0
  replace C : CX p s m args meth c cJ0_checkIndex_df160 2 none RJ0 G := C
  unfold fJ0_checkIndex_df160 at hf
  refine z_iload_n C 0 0 dJ0_checkIndex_df160_0 rfl rfl ?_
  refine z_iload_n C 1 1 dJ0_checkIndex_df160_1 rfl rfl ?_
  refine z_former C q_fl_J0_1053 dJ0_checkIndex_df160_2 (fun o1 => ?_)
  replace hf := bd_out hf
  obtain ⟨p2, e3, hf⟩ := hf
  refine z_cS1 C [] (tJ3_checkIndex_8e157 l G M x0 x1 o1 _ e3) lk_J3_checkIndex_8e157 q_ml_J0_1059 rfl ⟨Nat.le_of_ble_eq_true rfl, Nat.le_of_ble_eq_true rfl⟩ rfl (Nat.le_of_ble_eq_true rfl) ⟨Nat.le_refl _, Nat.le_refl _⟩ dJ0_checkIndex_df160_5 ?_
  refine z_pop C rfl dJ0_checkIndex_df160_8 ?_
  cases hf
  exact z_vret C rfl dJ0_checkIndex_df160_9
set_option maxHeartbeats 4000000 in
set_option maxRecDepth 100000 in
theorem tJ1_charAt_3b067 (l : Launch) (G : GG) {K : SK} (M : MM) (w0 : Nat) (h0 : w0 < 21) (x1 : Int32) (pp : Int32) (hf : fJ1_charAt_3b067 w0 x1 = some pp) : Ct l yJ1_charAt_3b067 cJ1_charAt_3b067 2 (some .char) 2 0 0 G K M [.ref (G.2.2.2 (200 + w0)), .int x1] (some (.int pp)) K M := by
  refine z_enter (lv := [(0, .ref (G.2.2.2 (200 + w0))), (1, .int x1)]) (by decide +kernel) (Nat.le_of_ble_eq_true rfl) rfl ?_
  intro p e s m args below meth c C hnm hs0
  replace C : CX p s m args meth c cJ1_charAt_3b067 2 (some .char) RJ1 G := C
  unfold fJ1_charAt_3b067 at hf
  refine z_iload_n C 1 1 dJ1_charAt_3b067_0 rfl rfl ?_
  refine z_aload_n C 0 0 dJ1_charAt_3b067_1 rfl rfl ?_
  refine z_slen C w0 h0 dJ1_charAt_3b067_2 ?_
  replace hf := bd_out hf
  obtain ⟨p1, e2, hf⟩ := hf
  refine z_cS0 C [] (tJ0_checkIndex_df160 l G M x1 (nI (strLen.getD w0 0)) _ e2) lk_J0_checkIndex_df160 q_ml_J1_9 rfl ⟨Nat.le_of_ble_eq_true rfl, Nat.le_of_ble_eq_true rfl⟩ rfl (Nat.le_of_ble_eq_true rfl) ⟨Nat.le_refl _, Nat.le_refl _⟩ dJ1_charAt_3b067_3 ?_
  refine z_aload_n C 0 0 dJ1_charAt_3b067_6 rfl rfl ?_
  refine z_iload_n C 1 1 dJ1_charAt_3b067_7 rfl rfl ?_
  replace hf := gd_out hf
  obtain ⟨g3, hf⟩ := hf
  refine z_sbald C w0 h0 (inb_in g3) dJ1_charAt_3b067_8 ?_
  refine z_sipush C 255 dJ1_charAt_3b067_9 (by decide) ?_
  refine z_iand C dJ1_charAt_3b067_12 ?_
  refine z_i2c C dJ1_charAt_3b067_13 ?_
  cases hf
  exact z_zret C rfl (pk_nc _) dJ1_charAt_3b067_14
set_option maxHeartbeats 4000000 in
set_option maxRecDepth 100000 in
theorem tJ0_charAt_5068e (l : Launch) (G : GG) {K : SK} (M : MM) (w0 : Nat) (h0 : w0 < 21) (x1 : Int32) (pp : Int32) (hf : fJ0_charAt_5068e w0 x1 = some pp) : Ct l yJ0_charAt_5068e cJ0_charAt_5068e 2 (some .char) 3 0 0 G K M [.ref (G.2.2.2 (100 + w0)), .int x1] (some (.int pp)) K M := by
  refine z_enter (lv := [(0, .ref (G.2.2.2 (100 + w0))), (1, .int x1)]) (by decide +kernel) (Nat.le_of_ble_eq_true rfl) rfl ?_
  intro p e s m args below meth c C hnm hs0
  replace C : CX p s m args meth c cJ0_charAt_5068e 2 (some .char) RJ0 G := C
  unfold fJ0_charAt_5068e at hf
  refine z_aload_n C 0 0 dJ0_charAt_5068e_0 rfl rfl ?_
  refine z_cT1 C [] w0 h0 (tJ0_isLatin1_aae02 l G M w0 h0) lk_J0_isLatin1_aae02 rfl q_ml_J0_492 rfl ⟨Nat.le_of_ble_eq_true rfl, Nat.le_of_ble_eq_true rfl⟩ rfl (Nat.le_of_ble_eq_true rfl) ⟨Nat.le_refl _, Nat.le_refl _⟩ dJ0_charAt_5068e_1 ?_
  refine z_if_eq C 16 dJ0_charAt_5068e_4 (by decide) (fun c1 => ?_) (fun c1 => ?_)
  · replace hf := ite_t c1 hf
    cases hf
  · replace hf := ite_f c1 hf
    refine z_aload_n C 0 0 dJ0_charAt_5068e_7 rfl rfl ?_
    refine z_sval C w0 h0 q_fl_J0_9 dJ0_charAt_5068e_8 ?_
    refine z_iload_n C 1 1 dJ0_charAt_5068e_11 rfl rfl ?_
    replace hf := bd_out hf
    obtain ⟨p2, e3, hf⟩ := hf
    refine z_cS1 C [] (tJ1_charAt_3b067 l G M w0 h0 x1 _ e3) lk_J1_charAt_3b067 q_ml_J0_495 rfl ⟨Nat.le_of_ble_eq_true rfl, Nat.le_of_ble_eq_true rfl⟩ rfl (Nat.le_of_ble_eq_true rfl) ⟨Nat.le_refl _, Nat.le_refl _⟩ dJ0_charAt_5068e_12 ?_
    replace hf := gd_out hf
    obtain ⟨g4, hf⟩ := hf
    cases hf
    exact z_zret C rfl (ischr_n g4) dJ0_charAt_5068e_15
set_option maxHeartbeats 4000000 in
set_option maxRecDepth 100000 in
theorem tJ0_coder_7d493 (l : Launch) (G : GG) {K : SK} (M : MM) (w0 : Nat) (h0 : w0 < 21) : Ct l yJ0_coder_7d493 cJ0_coder_7d493 1 (some .byte) 0 0 0 G K M [.ref (G.2.2.2 (100 + w0))] (some (.int (fJ0_coder_7d493 w0))) K M := by
  generalize hf : fJ0_coder_7d493 w0 = pp
  refine z_enter (lv := [(0, .ref (G.2.2.2 (100 + w0)))]) (by decide +kernel) (Nat.le_of_ble_eq_true rfl) rfl ?_
  intro p e s m args below meth c C hnm hs0
  replace C : CX p s m args meth c cJ0_coder_7d493 1 (some .byte) RJ0 G := C
  unfold fJ0_coder_7d493 at hf
  refine z_compact C q_fl_J0_38 dJ0_coder_7d493_0 ?_
  refine z_if_eq C 13 dJ0_coder_7d493_3 (by decide) (fun h => absurd h (by decide)) (fun _ => ?_)
  refine z_aload_n C 0 0 dJ0_coder_7d493_6 rfl rfl ?_
  refine z_scod C w0 h0 q_fl_J0_15 dJ0_coder_7d493_7 ?_
  refine z_goto C 14 dJ0_coder_7d493_10 (by decide) ?_
  cases hf
  exact z_zret C rfl nby0 dJ0_coder_7d493_14
set_option maxHeartbeats 4000000 in
set_option maxRecDepth 100000 in
theorem tJ0_length_8abf5 (l : Launch) (G : GG) {K : SK} (M : MM) (w0 : Nat) (h0 : w0 < 21) : Ct l yJ0_length_8abf5 cJ0_length_8abf5 1 (some .int) 1 0 0 G K M [.ref (G.2.2.2 (100 + w0))] (some (.int (fJ0_length_8abf5 w0))) K M := by
  generalize hf : fJ0_length_8abf5 w0 = pp
  refine z_enter (lv := [(0, .ref (G.2.2.2 (100 + w0)))]) (by decide +kernel) (Nat.le_of_ble_eq_true rfl) rfl ?_
  intro p e s m args below meth c C hnm hs0
  replace C : CX p s m args meth c cJ0_length_8abf5 1 (some .int) RJ0 G := C
  unfold fJ0_length_8abf5 at hf
  refine z_aload_n C 0 0 dJ0_length_8abf5_0 rfl rfl ?_
  refine z_sval C w0 h0 q_fl_J0_9 dJ0_length_8abf5_1 ?_
  refine z_slen C w0 h0 dJ0_length_8abf5_4 ?_
  refine z_aload_n C 0 0 dJ0_length_8abf5_5 rfl rfl ?_
  refine z_cT1 C [.int (nI (strLen.getD w0 0))] w0 h0 (tJ0_coder_7d493 l G M w0 h0) lk_J0_coder_7d493 rfl q_ml_J0_335 rfl ⟨Nat.le_of_ble_eq_true rfl, Nat.le_of_ble_eq_true rfl⟩ rfl (Nat.le_of_ble_eq_true rfl) ⟨Nat.le_refl _, Nat.le_refl _⟩ dJ0_length_8abf5_6 ?_
  refine z_ishr C dJ0_length_8abf5_9 ?_
  cases hf
  exact z_iret C rfl dJ0_length_8abf5_10
end
