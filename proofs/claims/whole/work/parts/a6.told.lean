theorem dX9_copyFrom_0 : decode cX9_copyFrom 0 = .ok (.aload_n 1, 1) := by decide +kernel
theorem dX9_copyFrom_1 : decode cX9_copyFrom 1 = .ok (.getfield 9, 3) := by decide +kernel
theorem dX9_copyFrom_4 : decode cX9_copyFrom 4 = .ok (.iconst 0, 1) := by decide +kernel
theorem dX9_copyFrom_5 : decode cX9_copyFrom 5 = .ok (.aload_n 0, 1) := by decide +kernel
theorem dX9_copyFrom_6 : decode cX9_copyFrom 6 = .ok (.getfield 9, 3) := by decide +kernel
theorem dX9_copyFrom_9 : decode cX9_copyFrom 9 = .ok (.iconst 0, 1) := by decide +kernel
theorem dX9_copyFrom_10 : decode cX9_copyFrom 10 = .ok (.iconst 4, 1) := by decide +kernel
theorem dX9_copyFrom_11 : decode cX9_copyFrom 11 = .ok (.invokestatic 51, 3) := by decide +kernel
theorem dX9_copyFrom_14 : decode cX9_copyFrom 14 = .ok (.iconst 0, 1) := by decide +kernel
theorem dX9_copyFrom_15 : decode cX9_copyFrom 15 = .ok (.istore_n 2, 1) := by decide +kernel
theorem dX9_copyFrom_16 : decode cX9_copyFrom 16 = .ok (.iload_n 2, 1) := by decide +kernel
theorem dX9_copyFrom_17 : decode cX9_copyFrom 17 = .ok (.iconst 2, 1) := by decide +kernel
theorem dX9_copyFrom_18 : decode cX9_copyFrom 18 = .ok (.if_icmp .ge 69, 3) := by decide +kernel
theorem dX9_copyFrom_21 : decode cX9_copyFrom 21 = .ok (.aload_n 0, 1) := by decide +kernel
theorem dX9_copyFrom_22 : decode cX9_copyFrom 22 = .ok (.getfield 17, 3) := by decide +kernel
theorem dX9_copyFrom_25 : decode cX9_copyFrom 25 = .ok (.iload_n 2, 1) := by decide +kernel
theorem dX9_copyFrom_26 : decode cX9_copyFrom 26 = .ok (.aaload, 1) := by decide +kernel
theorem dX9_copyFrom_27 : decode cX9_copyFrom 27 = .ok (.aload_n 1, 1) := by decide +kernel
theorem dX9_copyFrom_28 : decode cX9_copyFrom 28 = .ok (.getfield 17, 3) := by decide +kernel
theorem dX9_copyFrom_31 : decode cX9_copyFrom 31 = .ok (.iload_n 2, 1) := by decide +kernel
theorem dX9_copyFrom_32 : decode cX9_copyFrom 32 = .ok (.aaload, 1) := by decide +kernel
theorem dX9_copyFrom_33 : decode cX9_copyFrom 33 = .ok (.invokevirtual 57, 3) := by decide +kernel
theorem dX9_copyFrom_36 : decode cX9_copyFrom 36 = .ok (.aload_n 0, 1) := by decide +kernel
theorem dX9_copyFrom_37 : decode cX9_copyFrom 37 = .ok (.getfield 23, 3) := by decide +kernel
theorem dX9_copyFrom_40 : decode cX9_copyFrom 40 = .ok (.iload_n 2, 1) := by decide +kernel
theorem dX9_copyFrom_41 : decode cX9_copyFrom 41 = .ok (.aaload, 1) := by decide +kernel
theorem dX9_copyFrom_42 : decode cX9_copyFrom 42 = .ok (.aload_n 1, 1) := by decide +kernel
theorem dX9_copyFrom_43 : decode cX9_copyFrom 43 = .ok (.getfield 23, 3) := by decide +kernel
theorem dX9_copyFrom_46 : decode cX9_copyFrom 46 = .ok (.iload_n 2, 1) := by decide +kernel
theorem dX9_copyFrom_47 : decode cX9_copyFrom 47 = .ok (.aaload, 1) := by decide +kernel
theorem dX9_copyFrom_48 : decode cX9_copyFrom 48 = .ok (.invokevirtual 61, 3) := by decide +kernel
theorem dX9_copyFrom_51 : decode cX9_copyFrom 51 = .ok (.aload_n 0, 1) := by decide +kernel
theorem dX9_copyFrom_52 : decode cX9_copyFrom 52 = .ok (.getfield 29, 3) := by decide +kernel
theorem dX9_copyFrom_55 : decode cX9_copyFrom 55 = .ok (.iload_n 2, 1) := by decide +kernel
theorem dX9_copyFrom_56 : decode cX9_copyFrom 56 = .ok (.aaload, 1) := by decide +kernel
theorem dX9_copyFrom_57 : decode cX9_copyFrom 57 = .ok (.aload_n 1, 1) := by decide +kernel
theorem dX9_copyFrom_58 : decode cX9_copyFrom 58 = .ok (.getfield 29, 3) := by decide +kernel
theorem dX9_copyFrom_61 : decode cX9_copyFrom 61 = .ok (.iload_n 2, 1) := by decide +kernel
theorem dX9_copyFrom_62 : decode cX9_copyFrom 62 = .ok (.aaload, 1) := by decide +kernel
theorem dX9_copyFrom_63 : decode cX9_copyFrom 63 = .ok (.invokevirtual 64, 3) := by decide +kernel
theorem dX9_copyFrom_66 : decode cX9_copyFrom 66 = .ok (.aload_n 0, 1) := by decide +kernel
theorem dX9_copyFrom_67 : decode cX9_copyFrom 67 = .ok (.getfield 35, 3) := by decide +kernel
theorem dX9_copyFrom_70 : decode cX9_copyFrom 70 = .ok (.iload_n 2, 1) := by decide +kernel
theorem dX9_copyFrom_71 : decode cX9_copyFrom 71 = .ok (.aaload, 1) := by decide +kernel
theorem dX9_copyFrom_72 : decode cX9_copyFrom 72 = .ok (.aload_n 1, 1) := by decide +kernel
theorem dX9_copyFrom_73 : decode cX9_copyFrom 73 = .ok (.getfield 35, 3) := by decide +kernel
theorem dX9_copyFrom_76 : decode cX9_copyFrom 76 = .ok (.iload_n 2, 1) := by decide +kernel
theorem dX9_copyFrom_77 : decode cX9_copyFrom 77 = .ok (.aaload, 1) := by decide +kernel
theorem dX9_copyFrom_78 : decode cX9_copyFrom 78 = .ok (.invokevirtual 67, 3) := by decide +kernel
theorem dX9_copyFrom_81 : decode cX9_copyFrom 81 = .ok (.iinc 2 1, 3) := by decide +kernel
theorem dX9_copyFrom_84 : decode cX9_copyFrom 84 = .ok (.goto (-68), 3) := by decide +kernel
theorem dX9_copyFrom_87 : decode cX9_copyFrom 87 = .ok (.aload_n 1, 1) := by decide +kernel
theorem dX9_copyFrom_88 : decode cX9_copyFrom 88 = .ok (.getfield 43, 3) := by decide +kernel
theorem dX9_copyFrom_91 : decode cX9_copyFrom 91 = .ok (.iconst 0, 1) := by decide +kernel
theorem dX9_copyFrom_92 : decode cX9_copyFrom 92 = .ok (.aload_n 0, 1) := by decide +kernel
theorem dX9_copyFrom_93 : decode cX9_copyFrom 93 = .ok (.getfield 43, 3) := by decide +kernel
theorem dX9_copyFrom_96 : decode cX9_copyFrom 96 = .ok (.iconst 0, 1) := by decide +kernel
theorem dX9_copyFrom_97 : decode cX9_copyFrom 97 = .ok (.sipush 600, 3) := by decide +kernel
theorem dX9_copyFrom_100 : decode cX9_copyFrom 100 = .ok (.invokestatic 51, 3) := by decide +kernel
theorem dX9_copyFrom_103 : decode cX9_copyFrom 103 = .ok (.aload_n 0, 1) := by decide +kernel
theorem dX9_copyFrom_104 : decode cX9_copyFrom 104 = .ok (.aload_n 1, 1) := by decide +kernel
theorem dX9_copyFrom_105 : decode cX9_copyFrom 105 = .ok (.getfield 70, 3) := by decide +kernel
theorem dX9_copyFrom_108 : decode cX9_copyFrom 108 = .ok (.putfield 70, 3) := by decide +kernel
theorem dX9_copyFrom_111 : decode cX9_copyFrom 111 = .ok (.aload_n 0, 1) := by decide +kernel
theorem dX9_copyFrom_112 : decode cX9_copyFrom 112 = .ok (.aload_n 1, 1) := by decide +kernel
theorem dX9_copyFrom_113 : decode cX9_copyFrom 113 = .ok (.getfield 73, 3) := by decide +kernel
theorem dX9_copyFrom_116 : decode cX9_copyFrom 116 = .ok (.putfield 73, 3) := by decide +kernel
theorem dX9_copyFrom_119 : decode cX9_copyFrom 119 = .ok (.aload_n 0, 1) := by decide +kernel
theorem dX9_copyFrom_120 : decode cX9_copyFrom 120 = .ok (.aload_n 1, 1) := by decide +kernel
theorem dX9_copyFrom_121 : decode cX9_copyFrom 121 = .ok (.getfield 47, 3) := by decide +kernel
theorem dX9_copyFrom_124 : decode cX9_copyFrom 124 = .ok (.putfield 47, 3) := by decide +kernel
theorem dX9_copyFrom_127 : decode cX9_copyFrom 127 = .ok (.return_, 1) := by decide +kernel
theorem dX9_addBytes_0 : decode cX9_addBytes 0 = .ok (.bipush 24, 2) := by decide +kernel
theorem dX9_addBytes_2 : decode cX9_addBytes 2 = .ok (.istore_n 2, 1) := by decide +kernel
theorem dX9_addBytes_3 : decode cX9_addBytes 3 = .ok (.iload_n 2, 1) := by decide +kernel
theorem dX9_addBytes_4 : decode cX9_addBytes 4 = .ok (.ifCond .lt 42, 3) := by decide +kernel
theorem dX9_addBytes_7 : decode cX9_addBytes 7 = .ok (.aload_n 0, 1) := by decide +kernel
theorem dX9_addBytes_8 : decode cX9_addBytes 8 = .ok (.getfield 70, 3) := by decide +kernel
theorem dX9_addBytes_11 : decode cX9_addBytes 11 = .ok (.sipush 600, 3) := by decide +kernel
theorem dX9_addBytes_14 : decode cX9_addBytes 14 = .ok (.if_icmp .ge 32, 3) := by decide +kernel
theorem dX9_addBytes_17 : decode cX9_addBytes 17 = .ok (.aload_n 0, 1) := by decide +kernel
theorem dX9_addBytes_18 : decode cX9_addBytes 18 = .ok (.getfield 43, 3) := by decide +kernel
theorem dX9_addBytes_21 : decode cX9_addBytes 21 = .ok (.aload_n 0, 1) := by decide +kernel
theorem dX9_addBytes_22 : decode cX9_addBytes 22 = .ok (.getfield 70, 3) := by decide +kernel
theorem dX9_addBytes_25 : decode cX9_addBytes 25 = .ok (.iload_n 1, 1) := by decide +kernel
theorem dX9_addBytes_26 : decode cX9_addBytes 26 = .ok (.iload_n 2, 1) := by decide +kernel
theorem dX9_addBytes_27 : decode cX9_addBytes 27 = .ok (.iushr, 1) := by decide +kernel
theorem dX9_addBytes_28 : decode cX9_addBytes 28 = .ok (.i2b, 1) := by decide +kernel
theorem dX9_addBytes_29 : decode cX9_addBytes 29 = .ok (.bastore, 1) := by decide +kernel
theorem dX9_addBytes_30 : decode cX9_addBytes 30 = .ok (.aload_n 0, 1) := by decide +kernel
theorem dX9_addBytes_31 : decode cX9_addBytes 31 = .ok (.dup, 1) := by decide +kernel
theorem dX9_addBytes_32 : decode cX9_addBytes 32 = .ok (.getfield 70, 3) := by decide +kernel
theorem dX9_addBytes_35 : decode cX9_addBytes 35 = .ok (.iconst 1, 1) := by decide +kernel
theorem dX9_addBytes_36 : decode cX9_addBytes 36 = .ok (.iadd, 1) := by decide +kernel
theorem dX9_addBytes_37 : decode cX9_addBytes 37 = .ok (.putfield 70, 3) := by decide +kernel
theorem dX9_addBytes_40 : decode cX9_addBytes 40 = .ok (.iinc 2 (-8), 3) := by decide +kernel
theorem dX9_addBytes_43 : decode cX9_addBytes 43 = .ok (.goto (-40), 3) := by decide +kernel
theorem dX9_addBytes_46 : decode cX9_addBytes 46 = .ok (.return_, 1) := by decide +kernel
theorem dX9_has_0 : decode cX9_has 0 = .ok (.iload_n 2, 1) := by decide +kernel
theorem dX9_has_1 : decode cX9_has 1 = .ok (.ifCond .lt 22, 3) := by decide +kernel
theorem dX9_has_4 : decode cX9_has 4 = .ok (.iload_n 2, 1) := by decide +kernel
theorem dX9_has_5 : decode cX9_has 5 = .ok (.aload_n 0, 1) := by decide +kernel
theorem dX9_has_6 : decode cX9_has 6 = .ok (.getfield 9, 3) := by decide +kernel
theorem dX9_has_9 : decode cX9_has 9 = .ok (.iload_n 1, 1) := by decide +kernel
theorem dX9_has_10 : decode cX9_has 10 = .ok (.iaload, 1) := by decide +kernel
theorem dX9_has_11 : decode cX9_has 11 = .ok (.if_icmp .ge 12, 3) := by decide +kernel
theorem dX9_has_14 : decode cX9_has 14 = .ok (.iload_n 2, 1) := by decide +kernel
theorem dX9_has_15 : decode cX9_has 15 = .ok (.iconst 2, 1) := by decide +kernel
theorem dX9_has_16 : decode cX9_has 16 = .ok (.if_icmp .ge 7, 3) := by decide +kernel
theorem dX9_has_19 : decode cX9_has 19 = .ok (.iconst 1, 1) := by decide +kernel
theorem dX9_has_20 : decode cX9_has 20 = .ok (.goto 4, 3) := by decide +kernel
theorem dX9_has_23 : decode cX9_has 23 = .ok (.iconst 0, 1) := by decide +kernel
theorem dX9_has_24 : decode cX9_has 24 = .ok (.ireturn, 1) := by decide +kernel
theorem dX9_parishAt_0 : decode cX9_parishAt 0 = .ok (.aload_n 0, 1) := by decide +kernel
theorem dX9_parishAt_1 : decode cX9_parishAt 1 = .ok (.iconst 0, 1) := by decide +kernel
theorem dX9_parishAt_2 : decode cX9_parishAt 2 = .ok (.iload_n 1, 1) := by decide +kernel
theorem dX9_parishAt_3 : decode cX9_parishAt 3 = .ok (.invokevirtual 76, 3) := by decide +kernel
theorem dX9_parishAt_6 : decode cX9_parishAt 6 = .ok (.ifCond .eq 12, 3) := by decide +kernel
theorem dX9_parishAt_9 : decode cX9_parishAt 9 = .ok (.aload_n 0, 1) := by decide +kernel
theorem dX9_parishAt_10 : decode cX9_parishAt 10 = .ok (.getfield 17, 3) := by decide +kernel
theorem dX9_parishAt_13 : decode cX9_parishAt 13 = .ok (.iload_n 1, 1) := by decide +kernel
theorem dX9_parishAt_14 : decode cX9_parishAt 14 = .ok (.aaload, 1) := by decide +kernel
theorem dX9_parishAt_15 : decode cX9_parishAt 15 = .ok (.goto 4, 3) := by decide +kernel
theorem dX9_parishAt_18 : decode cX9_parishAt 18 = .ok (.aconst_null, 1) := by decide +kernel
theorem dX9_parishAt_19 : decode cX9_parishAt 19 = .ok (.areturn, 1) := by decide +kernel
theorem dX9_lawAt_0 : decode cX9_lawAt 0 = .ok (.aload_n 0, 1) := by decide +kernel
theorem dX9_lawAt_1 : decode cX9_lawAt 1 = .ok (.iconst 1, 1) := by decide +kernel
theorem dX9_lawAt_2 : decode cX9_lawAt 2 = .ok (.iload_n 1, 1) := by decide +kernel
theorem dX9_lawAt_3 : decode cX9_lawAt 3 = .ok (.invokevirtual 76, 3) := by decide +kernel
theorem dX9_lawAt_6 : decode cX9_lawAt 6 = .ok (.ifCond .eq 12, 3) := by decide +kernel
theorem dX9_lawAt_9 : decode cX9_lawAt 9 = .ok (.aload_n 0, 1) := by decide +kernel
theorem dX9_lawAt_10 : decode cX9_lawAt 10 = .ok (.getfield 23, 3) := by decide +kernel
theorem dX9_lawAt_13 : decode cX9_lawAt 13 = .ok (.iload_n 1, 1) := by decide +kernel
theorem dX9_lawAt_14 : decode cX9_lawAt 14 = .ok (.aaload, 1) := by decide +kernel
theorem dX9_lawAt_15 : decode cX9_lawAt 15 = .ok (.goto 4, 3) := by decide +kernel
theorem dX9_lawAt_18 : decode cX9_lawAt 18 = .ok (.aconst_null, 1) := by decide +kernel
theorem dX9_lawAt_19 : decode cX9_lawAt 19 = .ok (.areturn, 1) := by decide +kernel
theorem dX9_eveningAt_0 : decode cX9_eveningAt 0 = .ok (.aload_n 0, 1) := by decide +kernel
theorem dX9_eveningAt_1 : decode cX9_eveningAt 1 = .ok (.iconst 2, 1) := by decide +kernel
theorem dX9_eveningAt_2 : decode cX9_eveningAt 2 = .ok (.iload_n 1, 1) := by decide +kernel
theorem dX9_eveningAt_3 : decode cX9_eveningAt 3 = .ok (.invokevirtual 76, 3) := by decide +kernel
theorem dX9_eveningAt_6 : decode cX9_eveningAt 6 = .ok (.ifCond .eq 12, 3) := by decide +kernel
theorem dX9_eveningAt_9 : decode cX9_eveningAt 9 = .ok (.aload_n 0, 1) := by decide +kernel
theorem dX9_eveningAt_10 : decode cX9_eveningAt 10 = .ok (.getfield 29, 3) := by decide +kernel
theorem dX9_eveningAt_13 : decode cX9_eveningAt 13 = .ok (.iload_n 1, 1) := by decide +kernel
theorem dX9_eveningAt_14 : decode cX9_eveningAt 14 = .ok (.aaload, 1) := by decide +kernel
theorem dX9_eveningAt_15 : decode cX9_eveningAt 15 = .ok (.goto 4, 3) := by decide +kernel
theorem dX9_eveningAt_18 : decode cX9_eveningAt 18 = .ok (.aconst_null, 1) := by decide +kernel
theorem dX9_eveningAt_19 : decode cX9_eveningAt 19 = .ok (.areturn, 1) := by decide +kernel
theorem dX9_sightAt_0 : decode cX9_sightAt 0 = .ok (.aload_n 0, 1) := by decide +kernel
theorem dX9_sightAt_1 : decode cX9_sightAt 1 = .ok (.iconst 3, 1) := by decide +kernel
theorem dX9_sightAt_2 : decode cX9_sightAt 2 = .ok (.iload_n 1, 1) := by decide +kernel
theorem dX9_sightAt_3 : decode cX9_sightAt 3 = .ok (.invokevirtual 76, 3) := by decide +kernel
theorem dX9_sightAt_6 : decode cX9_sightAt 6 = .ok (.ifCond .eq 12, 3) := by decide +kernel
theorem dX9_sightAt_9 : decode cX9_sightAt 9 = .ok (.aload_n 0, 1) := by decide +kernel
theorem dX9_sightAt_10 : decode cX9_sightAt 10 = .ok (.getfield 35, 3) := by decide +kernel
theorem dX9_sightAt_13 : decode cX9_sightAt 13 = .ok (.iload_n 1, 1) := by decide +kernel
theorem dX9_sightAt_14 : decode cX9_sightAt 14 = .ok (.aaload, 1) := by decide +kernel
theorem dX9_sightAt_15 : decode cX9_sightAt 15 = .ok (.goto 4, 3) := by decide +kernel
theorem dX9_sightAt_18 : decode cX9_sightAt 18 = .ok (.aconst_null, 1) := by decide +kernel
theorem dX9_sightAt_19 : decode cX9_sightAt 19 = .ok (.areturn, 1) := by decide +kernel
section
variable {p : Program} {l : Launch} {e : Env} {s : State} {m : MethodId} {args : Array Value} {below : List Frame} {meth : Method} {c : Code} {G : GG} {K : SK}
set_option maxHeartbeats 4000000 in
set_option maxRecDepth 100000 in
theorem wX9_copyFrom_l16 (C : CX p s m args meth c cX9_copyFrom 3 none RX9 G) (hs0 : s.heap.size = G.1 + K.1) (hL : Lay K) (a0 : Nat) (h0 : Td K a0) (a1 : Nat) (h1 : Td K a1) (k87 : MM → Option MM) (pp : MM) (hk87 : ∀ (M6 : MM), k87 M6 = some pp → Z p l e (rmo 2 0 0) s m args below meth c 3 G (MQ below (QC G none K pp) args s 0 0 (AG G)) K 0 0 M6 87 [(0, .ref (G.1 + a0)), (1, .ref (G.1 + a1))] []) : ∀ (n : Nat) (M3 : MM) (y4 : Int32) (hf : fX9_copyFrom_l16 a0 a1 k87 n M3 y4 = some pp), Z p l e (rmo 2 0 0) s m args below meth c 3 G (MQ below (QC G none K pp) args s 0 0 (AG G)) K 0 0 M3 16 [(0, .ref (G.1 + a0)), (1, .ref (G.1 + a1)), (2, .int y4)] [] := by
  intro n
  induction n with
  | zero => intro M3 y4 hf; exact nomatch (show (none : Option MM) = some pp from hf)
  | succ n ih =>
    intro M3 y4 hf
    rw [fX9_copyFrom_l16.eq_2] at hf
    refine z_iload_n C 2 2 dX9_copyFrom_16 rfl rfl ?_
    refine z_iconst C 2 dX9_copyFrom_17 (by decide) ?_
    refine z_icmp_ge C 87 dX9_copyFrom_18 (by decide) (fun c5 => ?_) (fun c5 => ?_)
    · replace hf := ite_t c5 hf
      refine z_lv (lv2 := [(0, .ref (G.1 + a0)), (1, .ref (G.1 + a1))]) [0, 1] rfl ?_
      exact hk87 M3  hf
    · replace hf := ite_f c5 hf
      refine z_aload_n C 0 0 dX9_copyFrom_21 rfl rfl ?_
      refine z_getR C ok_X9 (Td_o h0) 1 (a0 + 2) (by decide) rfl (Td_r0_1 h0) q_fl_X9_17 dX9_copyFrom_22 ?_
      refine z_iload_n C 2 2 dX9_copyFrom_25 rfl rfl ?_
      replace hf := gd_out hf
      obtain ⟨g7, hf⟩ := hf
      refine z_aaldR C 4 RX5 (Td_c2 h0) (by decide) rfl (inb_in g7) (Td_parishes h0 (inb_in g7)).1 dX9_copyFrom_26 ?_
      refine z_aload_n C 1 1 dX9_copyFrom_27 rfl rfl ?_
      refine z_getR C ok_X9 (Td_o h1) 1 (a1 + 2) (by decide) rfl (Td_r0_1 h1) q_fl_X9_17 dX9_copyFrom_28 ?_
      refine z_iload_n C 2 2 dX9_copyFrom_31 rfl rfl ?_
      replace hf := gd_out hf
      obtain ⟨g8, hf⟩ := hf
      refine z_aaldR C 4 RX5 (Td_c2 h1) (by decide) rfl (inb_in g8) (Td_parishes h1 (inb_in g8)).1 dX9_copyFrom_32 ?_
      replace hf := bd_out hf
      obtain ⟨p9, e10, hf⟩ := hf
      refine z_cV0 C [] (tX5_copyFrom l G hL M3 (a0 + (6 + 16 * ix y4)) (Td_parishes h0 (inb_in g7)).2 (a1 + (6 + 16 * ix y4)) (Td_parishes h1 (inb_in g8)).2 _ e10) lk_X5_copyFrom ok_X5 (Par_o (Td_parishes h0 (inb_in g7)).2) q_ml_X9_57 rfl ⟨Nat.le_of_ble_eq_true rfl, Nat.le_of_ble_eq_true rfl⟩ rfl (Nat.le_of_ble_eq_true rfl) ⟨Nat.le_refl _, Nat.le_refl _⟩ dX9_copyFrom_33 ?_
      refine z_aload_n C 0 0 dX9_copyFrom_36 rfl rfl ?_
      refine z_getR C ok_X9 (Td_o h0) 2 (a0 + 3) (by decide) rfl (Td_r0_2 h0) q_fl_X9_23 dX9_copyFrom_37 ?_
      refine z_iload_n C 2 2 dX9_copyFrom_40 rfl rfl ?_
      replace hf := gd_out hf
      obtain ⟨g11, hf⟩ := hf
      refine z_aaldR C 5 RX4 (Td_c3 h0) (by decide) rfl (inb_in g11) (Td_laws h0 (inb_in g11)).1 dX9_copyFrom_41 ?_
      refine z_aload_n C 1 1 dX9_copyFrom_42 rfl rfl ?_
      refine z_getR C ok_X9 (Td_o h1) 2 (a1 + 3) (by decide) rfl (Td_r0_2 h1) q_fl_X9_23 dX9_copyFrom_43 ?_
      refine z_iload_n C 2 2 dX9_copyFrom_46 rfl rfl ?_
      replace hf := gd_out hf
      obtain ⟨g12, hf⟩ := hf
      refine z_aaldR C 5 RX4 (Td_c3 h1) (by decide) rfl (inb_in g12) (Td_laws h1 (inb_in g12)).1 dX9_copyFrom_47 ?_
      replace hf := bd_out hf
      obtain ⟨p13, e14, hf⟩ := hf
      refine z_cV0 C [] (tX4_copyFrom l G hL p9 (a0 + (15 + 16 * ix y4)) (Td_laws h0 (inb_in g11)).2 (a1 + (15 + 16 * ix y4)) (Td_laws h1 (inb_in g12)).2 _ e14) lk_X4_copyFrom ok_X4 (Lw_o (Td_laws h0 (inb_in g11)).2) q_ml_X9_61 rfl ⟨Nat.le_of_ble_eq_true rfl, Nat.le_of_ble_eq_true rfl⟩ rfl (Nat.le_of_ble_eq_true rfl) ⟨Nat.le_refl _, Nat.le_refl _⟩ dX9_copyFrom_48 ?_
      refine z_aload_n C 0 0 dX9_copyFrom_51 rfl rfl ?_
      refine z_getR C ok_X9 (Td_o h0) 3 (a0 + 4) (by decide) rfl (Td_r0_3 h0) q_fl_X9_29 dX9_copyFrom_52 ?_
      refine z_iload_n C 2 2 dX9_copyFrom_55 rfl rfl ?_
      replace hf := gd_out hf
      obtain ⟨g15, hf⟩ := hf
      refine z_aaldR C 6 RX2 (Td_c4 h0) (by decide) rfl (inb_in g15) (Td_evenings h0 (inb_in g15)).1 dX9_copyFrom_56 ?_
      refine z_aload_n C 1 1 dX9_copyFrom_57 rfl rfl ?_
      refine z_getR C ok_X9 (Td_o h1) 3 (a1 + 4) (by decide) rfl (Td_r0_3 h1) q_fl_X9_29 dX9_copyFrom_58 ?_
      refine z_iload_n C 2 2 dX9_copyFrom_61 rfl rfl ?_
      replace hf := gd_out hf
      obtain ⟨g16, hf⟩ := hf
      refine z_aaldR C 6 RX2 (Td_c4 h1) (by decide) rfl (inb_in g16) (Td_evenings h1 (inb_in g16)).1 dX9_copyFrom_62 ?_
      replace hf := bd_out hf
      obtain ⟨p17, e18, hf⟩ := hf
      refine z_cV0 C [] (tX2_copyFrom l G hL p13 (a0 + (16 + 16 * ix y4)) (Td_evenings h0 (inb_in g15)).2 (a1 + (16 + 16 * ix y4)) (Td_evenings h1 (inb_in g16)).2 _ e18) lk_X2_copyFrom ok_X2 (Ev_o (Td_evenings h0 (inb_in g15)).2) q_ml_X9_64 rfl ⟨Nat.le_of_ble_eq_true rfl, Nat.le_of_ble_eq_true rfl⟩ rfl (Nat.le_of_ble_eq_true rfl) ⟨Nat.le_refl _, Nat.le_refl _⟩ dX9_copyFrom_63 ?_
      refine z_aload_n C 0 0 dX9_copyFrom_66 rfl rfl ?_
      refine z_getR C ok_X9 (Td_o h0) 4 (a0 + 5) (by decide) rfl (Td_r0_4 h0) q_fl_X9_35 dX9_copyFrom_67 ?_
      refine z_iload_n C 2 2 dX9_copyFrom_70 rfl rfl ?_
      replace hf := gd_out hf
      obtain ⟨g19, hf⟩ := hf
      refine z_aaldR C 7 RX8 (Td_c5 h0) (by decide) rfl (inb_in g19) (Td_sights h0 (inb_in g19)).1 dX9_copyFrom_71 ?_
      refine z_aload_n C 1 1 dX9_copyFrom_72 rfl rfl ?_
      refine z_getR C ok_X9 (Td_o h1) 4 (a1 + 5) (by decide) rfl (Td_r0_4 h1) q_fl_X9_35 dX9_copyFrom_73 ?_
      refine z_iload_n C 2 2 dX9_copyFrom_76 rfl rfl ?_
      replace hf := gd_out hf
      obtain ⟨g20, hf⟩ := hf
      refine z_aaldR C 7 RX8 (Td_c5 h1) (by decide) rfl (inb_in g20) (Td_sights h1 (inb_in g20)).1 dX9_copyFrom_77 ?_
      replace hf := bd_out hf
      obtain ⟨p21, e22, hf⟩ := hf
      refine z_cV0 C [] (tX8_copyFrom l G hL p17 (a0 + (20 + 16 * ix y4)) (Td_sights h0 (inb_in g19)).2 (a1 + (20 + 16 * ix y4)) (Td_sights h1 (inb_in g20)).2 _ e22) lk_X8_copyFrom ok_X8 (Sg_o (Td_sights h0 (inb_in g19)).2) q_ml_X9_67 rfl ⟨Nat.le_of_ble_eq_true rfl, Nat.le_of_ble_eq_true rfl⟩ rfl (Nat.le_of_ble_eq_true rfl) ⟨Nat.le_refl _, Nat.le_refl _⟩ dX9_copyFrom_78 ?_
      refine z_iinc C 2 (y4 + 1) [(2, .int (y4 + 1)), (0, .ref (G.1 + a0)), (1, .ref (G.1 + a1))] dX9_copyFrom_81 rfl rfl (by decide) rfl rfl ?_
      refine z_goto C 16 dX9_copyFrom_84 (by decide) ?_
      refine z_lv (lv2 := [(0, .ref (G.1 + a0)), (1, .ref (G.1 + a1)), (2, .int (y4 + 1))]) [1, 2, 0] rfl ?_
      exact ih p21 (y4 + 1)  hf
set_option maxHeartbeats 4000000 in
set_option maxRecDepth 100000 in
theorem tX9_copyFrom (l : Launch) (G : GG) {K : SK} (hL : Lay K) (M : MM) (a0 : Nat) (h0 : Td K a0) (a1 : Nat) (h1 : Td K a1) (pp : MM) (hf : fX9_copyFrom M a0 a1 = some pp) : Ct l yX9_copyFrom cX9_copyFrom 3 none 2 0 0 G K M [.ref (G.1 + a0), .ref (G.1 + a1)] none K pp := by
  refine z_enter (lv := [(0, .ref (G.1 + a0)), (1, .ref (G.1 + a1))]) (by decide +kernel) (Nat.le_of_ble_eq_true rfl) rfl ?_
  intro p e s m args below meth c C hnm hs0
  replace C : CX p s m args meth c cX9_copyFrom 3 none RX9 G := C
  unfold fX9_copyFrom at hf
  refine z_aload_n C 1 1 dX9_copyFrom_0 rfl rfl ?_
  refine z_getR C ok_X9 (Td_o h1) 0 (a1 + 1) (by decide) rfl (Td_r0_0 h1) q_fl_X9_9 dX9_copyFrom_1 ?_
  refine z_iconst C 0 dX9_copyFrom_4 (by decide) ?_
  refine z_aload_n C 0 0 dX9_copyFrom_5 rfl rfl ?_
  refine z_getR C ok_X9 (Td_o h0) 0 (a0 + 1) (by decide) rfl (Td_r0_0 h0) q_fl_X9_9 dX9_copyFrom_6 ?_
  refine z_iconst C 0 dX9_copyFrom_9 (by decide) ?_
  refine z_iconst C 4 dX9_copyFrom_10 (by decide) ?_
  refine z_copyi C hs0 q_ml_X9_51 q_acn q_acs q_sys (Td_c1 h1) (Td_c1 h0) (by decide) (by decide) (by decide) (by decide) (by decide) (fun _ _ => rfl) (Nat.le_of_ble_eq_true rfl) (Nat.le_of_ble_eq_true rfl) dX9_copyFrom_11 ?_
  refine z_M (fun M1 e2 => ?_)
  replace hf := bnd_out e2 hf
  refine z_iconst C 0 dX9_copyFrom_14 (by decide) ?_
  refine z_istore_n C [(2, .int 0), (0, .ref (G.1 + a0)), (1, .ref (G.1 + a1))] dX9_copyFrom_15 rfl (by decide) rfl rfl ?_
  refine z_lv (lv2 := [(0, .ref (G.1 + a0)), (1, .ref (G.1 + a1)), (2, .int 0)]) [1, 2, 0] rfl ?_
  refine wX9_copyFrom_l16 C hs0 hL a0 h0 a1 h1 _ pp ?_ FU M1 0 hf
  · intro M23 hf
    refine z_aload_n C 1 1 dX9_copyFrom_87 rfl rfl ?_
    refine z_getR C ok_X9 (Td_o h1) 5 (a1 + 38) (by decide) rfl (Td_r0_5 h1) q_fl_X9_43 dX9_copyFrom_88 ?_
    refine z_iconst C 0 dX9_copyFrom_91 (by decide) ?_
    refine z_aload_n C 0 0 dX9_copyFrom_92 rfl rfl ?_
    refine z_getR C ok_X9 (Td_o h0) 5 (a0 + 38) (by decide) rfl (Td_r0_5 h0) q_fl_X9_43 dX9_copyFrom_93 ?_
    refine z_iconst C 0 dX9_copyFrom_96 (by decide) ?_
    refine z_sipush C 600 dX9_copyFrom_97 (by decide) ?_
    replace hf := gd_out hf
    obtain ⟨g24, hf⟩ := hf
    refine z_copyb C hs0 q_ml_X9_51 q_acn q_acs q_sys (Td_c38 h1) (Td_c38 h0) (by decide) (by decide) (by decide) (by decide) (by decide) (fitB_at g24) (Nat.le_of_ble_eq_true rfl) (Nat.le_of_ble_eq_true rfl) dX9_copyFrom_100 ?_
    refine z_M (fun M25 e26 => ?_)
    replace hf := bnd_out e26 hf
    refine z_aload_n C 0 0 dX9_copyFrom_103 rfl rfl ?_
    refine z_aload_n C 1 1 dX9_copyFrom_104 rfl rfl ?_
    refine z_getI C ok_X9 (Td_o h1) 6 (by decide) rfl q_fl_X9_70 dX9_copyFrom_105 ?_
    refine z_putI C ok_X9 (Td_o h0) 6 (by decide) rfl rfl rfl rfl q_fl_X9_70 dX9_copyFrom_108 ?_
    refine z_M (fun M27 e28 => ?_)
    replace hf := bnd_out e28 hf
    refine z_aload_n C 0 0 dX9_copyFrom_111 rfl rfl ?_
    refine z_aload_n C 1 1 dX9_copyFrom_112 rfl rfl ?_
    refine z_getI C ok_X9 (Td_o h1) 7 (by decide) rfl q_fl_X9_73 dX9_copyFrom_113 ?_
    refine z_putI C ok_X9 (Td_o h0) 7 (by decide) rfl rfl rfl rfl q_fl_X9_73 dX9_copyFrom_116 ?_
    refine z_M (fun M29 e30 => ?_)
    replace hf := bnd_out e30 hf
    refine z_aload_n C 0 0 dX9_copyFrom_119 rfl rfl ?_
    refine z_aload_n C 1 1 dX9_copyFrom_120 rfl rfl ?_
    refine z_getI C ok_X9 (Td_o h1) 8 (by decide) rfl q_fl_X9_47 dX9_copyFrom_121 ?_
    refine z_putI C ok_X9 (Td_o h0) 8 (by decide) rfl rfl rfl rfl q_fl_X9_47 dX9_copyFrom_124 ?_
    refine z_M (fun M31 e32 => ?_)
    replace hf := bnd_out e32 hf
    cases hf
    exact z_vret C rfl dX9_copyFrom_127
set_option maxHeartbeats 4000000 in
set_option maxRecDepth 100000 in
theorem wX9_addBytes_l3 (C : CX p s m args meth c cX9_addBytes 3 none RX9 G) (hs0 : s.heap.size = G.1 + K.1) (hL : Lay K)   (pp : MM)  : ∀ (n : Nat) (M1 : MM) (y2 : Int32) (y3 : Int32) (hf : fX9_addBytes_l3 n M1 y2 y3 = some pp), Z p l e (rmo 0 0 0) s m args below meth c 3 G (MQ below (QC G none K pp) args s 0 0 (AG G)) K 0 0 M1 3 [(0, .ref (G.1 + 1)), (1, .int y2), (2, .int y3)] [] := by
  intro n
  induction n with
  | zero => intro M1 y2 y3 hf; exact nomatch (show (none : Option MM) = some pp from hf)
  | succ n ih =>
    intro M1 y2 y3 hf
    rw [fX9_addBytes_l3.eq_2] at hf
    refine z_iload_n C 2 2 dX9_addBytes_3 rfl rfl ?_
    refine z_if_lt C 46 dX9_addBytes_4 (by decide) (fun c4 => ?_) (fun c4 => ?_)
    · replace hf := ite_t c4 hf
      cases hf
      exact z_vret C rfl dX9_addBytes_46
    · replace hf := ite_f c4 hf
      refine z_aload_n C 0 0 dX9_addBytes_7 rfl rfl ?_
      refine z_getI C ok_X9 (lay_c1 hL) 6 (by decide) rfl q_fl_X9_70 dX9_addBytes_8 ?_
      refine z_sipush C 600 dX9_addBytes_11 (by decide) ?_
      refine z_icmp_ge C 46 dX9_addBytes_14 (by decide) (fun c5 => ?_) (fun c5 => ?_)
      · replace hf := ite_t c5 hf
        cases hf
        exact z_vret C rfl dX9_addBytes_46
      · replace hf := ite_f c5 hf
        refine z_aload_n C 0 0 dX9_addBytes_17 rfl rfl ?_
        refine z_getR C ok_X9 (lay_c1 hL) 5 (39) (by decide) rfl (lay_r1_5 hL) q_fl_X9_43 dX9_addBytes_18 ?_
        refine z_aload_n C 0 0 dX9_addBytes_21 rfl rfl ?_
        refine z_getI C ok_X9 (lay_c1 hL) 6 (by decide) rfl q_fl_X9_70 dX9_addBytes_22 ?_
        refine z_iload_n C 1 1 dX9_addBytes_25 rfl rfl ?_
        refine z_iload_n C 2 2 dX9_addBytes_26 rfl rfl ?_
        refine z_iushr C dX9_addBytes_27 ?_
        refine z_i2b C dX9_addBytes_28 ?_
        replace hf := gd_out hf
        obtain ⟨g6, hf⟩ := hf
        refine z_bast C (lay_c39 hL) (inb_in g6) dX9_addBytes_29 ?_
        refine z_M (fun M7 e8 => ?_)
        replace hf := bnd_out e8 hf
        refine z_aload_n C 0 0 dX9_addBytes_30 rfl rfl ?_
        refine z_dup C rfl dX9_addBytes_31 ?_
        refine z_getI C ok_X9 (lay_c1 hL) 6 (by decide) rfl q_fl_X9_70 dX9_addBytes_32 ?_
        refine z_iconst C 1 dX9_addBytes_35 (by decide) ?_
        refine z_iadd C dX9_addBytes_36 ?_
        refine z_putI C ok_X9 (lay_c1 hL) 6 (by decide) rfl rfl rfl rfl q_fl_X9_70 dX9_addBytes_37 ?_
        refine z_M (fun M9 e10 => ?_)
        replace hf := bnd_out e10 hf
        refine z_iinc C 2 (y3 + (-8)) [(2, .int (y3 + (-8))), (0, .ref (G.1 + 1)), (1, .int y2)] dX9_addBytes_40 rfl rfl (by decide) rfl rfl ?_
        refine z_goto C 3 dX9_addBytes_43 (by decide) ?_
        refine z_lv (lv2 := [(0, .ref (G.1 + 1)), (1, .int y2), (2, .int (y3 + (-8)))]) [1, 2, 0] rfl ?_
        exact ih M9 y2 (y3 + (-8))  hf
set_option maxHeartbeats 4000000 in
set_option maxRecDepth 100000 in
theorem tX9_addBytes (l : Launch) (G : GG) {K : SK} (hL : Lay K) (M : MM) (x1 : Int32) (pp : MM) (hf : fX9_addBytes M x1 = some pp) : Ct l yX9_addBytes cX9_addBytes 3 none 0 0 0 G K M [.ref (G.1 + 1), .int x1] none K pp := by
  refine z_enter (lv := [(0, .ref (G.1 + 1)), (1, .int x1)]) (by decide +kernel) (Nat.le_of_ble_eq_true rfl) rfl ?_
  intro p e s m args below meth c C hnm hs0
  replace C : CX p s m args meth c cX9_addBytes 3 none RX9 G := C
  unfold fX9_addBytes at hf
  refine z_bipush C 24 dX9_addBytes_0 (by decide) ?_
  refine z_istore_n C [(2, .int 24), (0, .ref (G.1 + 1)), (1, .int x1)] dX9_addBytes_2 rfl (by decide) rfl rfl ?_
  refine z_lv (lv2 := [(0, .ref (G.1 + 1)), (1, .int x1), (2, .int 24)]) [1, 2, 0] rfl ?_
  exact wX9_addBytes_l3 C hs0 hL pp FU M x1 24 hf
set_option maxHeartbeats 4000000 in
set_option maxRecDepth 100000 in
theorem tX9_has (l : Launch) (G : GG) {K : SK} (hL : Lay K) (M : MM) (x1 : Int32) (x2 : Int32) (pp : Int32) (hf : fX9_has M x1 x2 = some pp) : Ct l yX9_has cX9_has 3 (some .boolean) 0 0 0 G K M [.ref (G.1 + 1), .int x1, .int x2] (some (.int pp)) K M := by
  refine z_enter (lv := [(0, .ref (G.1 + 1)), (1, .int x1), (2, .int x2)]) (by decide +kernel) (Nat.le_of_ble_eq_true rfl) rfl ?_
  intro p e s m args below meth c C hnm hs0
  replace C : CX p s m args meth c cX9_has 3 (some .boolean) RX9 G := C
  unfold fX9_has at hf
  refine z_iload_n C 2 2 dX9_has_0 rfl rfl ?_
  refine z_if_lt C 23 dX9_has_1 (by decide) (fun c1 => ?_) (fun c1 => ?_)
  · replace hf := ite_t c1 hf
    refine z_iconst C 0 dX9_has_23 (by decide) ?_
    cases hf
    exact z_zret C rfl nb0 dX9_has_24
  · replace hf := ite_f c1 hf
    refine z_iload_n C 2 2 dX9_has_4 rfl rfl ?_
    refine z_aload_n C 0 0 dX9_has_5 rfl rfl ?_
    refine z_getR C ok_X9 (lay_c1 hL) 0 (2) (by decide) rfl (lay_r1_0 hL) q_fl_X9_9 dX9_has_6 ?_
    refine z_iload_n C 1 1 dX9_has_9 rfl rfl ?_
    replace hf := gd_out hf
    obtain ⟨g2, hf⟩ := hf
    refine z_iald C (lay_c2 hL) (inb_in g2) dX9_has_10 ?_
    refine z_icmp_ge C 23 dX9_has_11 (by decide) (fun c3 => ?_) (fun c3 => ?_)
    · replace hf := ite_t c3 hf
      refine z_iconst C 0 dX9_has_23 (by decide) ?_
      cases hf
      exact z_zret C rfl nb0 dX9_has_24
    · replace hf := ite_f c3 hf
      refine z_iload_n C 2 2 dX9_has_14 rfl rfl ?_
      refine z_iconst C 2 dX9_has_15 (by decide) ?_
      refine z_icmp_ge C 23 dX9_has_16 (by decide) (fun c4 => ?_) (fun c4 => ?_)
      · replace hf := ite_t c4 hf
        refine z_iconst C 0 dX9_has_23 (by decide) ?_
        cases hf
        exact z_zret C rfl nb0 dX9_has_24
      · replace hf := ite_f c4 hf
        refine z_iconst C 1 dX9_has_19 (by decide) ?_
        refine z_goto C 24 dX9_has_20 (by decide) ?_
        cases hf
        exact z_zret C rfl nb1 dX9_has_24
set_option maxHeartbeats 4000000 in
set_option maxRecDepth 100000 in
theorem tX9_parishAt (l : Launch) (G : GG) {K : SK} (hL : Lay K) (M : MM) (x1 : Int32) (pp : Option Nat) (hf : fX9_parishAt M x1 = some pp) : Ct l yX9_parishAt cX9_parishAt 2 (some (.object "ReflectCensus$Parish")) 1 0 0 G K M [.ref (G.1 + 1), .int x1] (some (rfv G pp)) K M := by
  refine z_enter (lv := [(0, .ref (G.1 + 1)), (1, .int x1)]) (by decide +kernel) (Nat.le_of_ble_eq_true rfl) rfl ?_
  intro p e s m args below meth c C hnm hs0
  replace C : CX p s m args meth c cX9_parishAt 2 (some (.object "ReflectCensus$Parish")) RX9 G := C
  unfold fX9_parishAt at hf
  refine z_aload_n C 0 0 dX9_parishAt_0 rfl rfl ?_
  refine z_iconst C 0 dX9_parishAt_1 (by decide) ?_
  refine z_iload_n C 1 1 dX9_parishAt_2 rfl rfl ?_
  replace hf := bd_out hf
  obtain ⟨p1, e2, hf⟩ := hf
  refine z_cV1 C [] (tX9_has l G hL M 0 x1 _ e2) lk_X9_has ok_X9 (lay_c1 hL) q_ml_X9_76 rfl ⟨Nat.le_of_ble_eq_true rfl, Nat.le_of_ble_eq_true rfl⟩ rfl (Nat.le_of_ble_eq_true rfl) ⟨Nat.le_refl _, Nat.le_refl _⟩ dX9_parishAt_3 ?_
  refine z_if_eq C 18 dX9_parishAt_6 (by decide) (fun c3 => ?_) (fun c3 => ?_)
  · replace hf := ite_t c3 hf
    refine z_null C dX9_parishAt_18 ?_
    cases hf
    exact z_aret C rfl dX9_parishAt_19
  · replace hf := ite_f c3 hf
    refine z_aload_n C 0 0 dX9_parishAt_9 rfl rfl ?_
    refine z_getR C ok_X9 (lay_c1 hL) 1 (3) (by decide) rfl (lay_r1_1 hL) q_fl_X9_17 dX9_parishAt_10 ?_
    refine z_iload_n C 1 1 dX9_parishAt_13 rfl rfl ?_
    replace hf := gd_out hf
    obtain ⟨g4, hf⟩ := hf
    refine z_aaldR C 4 RX5 (lay_c3 hL) (by decide) rfl (inb_in g4) (Td_parishes (lay_Td1 hL) (inb_in g4)).1 dX9_parishAt_14 ?_
    refine z_goto C 19 dX9_parishAt_15 (by decide) ?_
    cases hf
    exact z_aret C rfl dX9_parishAt_19
theorem okf_parishAt {K : SK} (hL : Lay K) {M : MM} {k : Int32} {r : Option Nat} (h : fX9_parishAt M k = some r) : ∀ a, r = some a → Par K a := okf_gen (fun hi => (Td_parishes (lay_Td1 hL) hi).2) h
set_option maxHeartbeats 4000000 in
set_option maxRecDepth 100000 in
theorem tX9_lawAt (l : Launch) (G : GG) {K : SK} (hL : Lay K) (M : MM) (x1 : Int32) (pp : Option Nat) (hf : fX9_lawAt M x1 = some pp) : Ct l yX9_lawAt cX9_lawAt 2 (some (.object "ReflectCensus$Law")) 1 0 0 G K M [.ref (G.1 + 1), .int x1] (some (rfv G pp)) K M := by
  refine z_enter (lv := [(0, .ref (G.1 + 1)), (1, .int x1)]) (by decide +kernel) (Nat.le_of_ble_eq_true rfl) rfl ?_
  intro p e s m args below meth c C hnm hs0
  replace C : CX p s m args meth c cX9_lawAt 2 (some (.object "ReflectCensus$Law")) RX9 G := C
  unfold fX9_lawAt at hf
  refine z_aload_n C 0 0 dX9_lawAt_0 rfl rfl ?_
  refine z_iconst C 1 dX9_lawAt_1 (by decide) ?_
  refine z_iload_n C 1 1 dX9_lawAt_2 rfl rfl ?_
  replace hf := bd_out hf
  obtain ⟨p1, e2, hf⟩ := hf
  refine z_cV1 C [] (tX9_has l G hL M 1 x1 _ e2) lk_X9_has ok_X9 (lay_c1 hL) q_ml_X9_76 rfl ⟨Nat.le_of_ble_eq_true rfl, Nat.le_of_ble_eq_true rfl⟩ rfl (Nat.le_of_ble_eq_true rfl) ⟨Nat.le_refl _, Nat.le_refl _⟩ dX9_lawAt_3 ?_
  refine z_if_eq C 18 dX9_lawAt_6 (by decide) (fun c3 => ?_) (fun c3 => ?_)
  · replace hf := ite_t c3 hf
    refine z_null C dX9_lawAt_18 ?_
    cases hf
    exact z_aret C rfl dX9_lawAt_19
  · replace hf := ite_f c3 hf
    refine z_aload_n C 0 0 dX9_lawAt_9 rfl rfl ?_
    refine z_getR C ok_X9 (lay_c1 hL) 2 (4) (by decide) rfl (lay_r1_2 hL) q_fl_X9_23 dX9_lawAt_10 ?_
    refine z_iload_n C 1 1 dX9_lawAt_13 rfl rfl ?_
    replace hf := gd_out hf
    obtain ⟨g4, hf⟩ := hf
    refine z_aaldR C 5 RX4 (lay_c4 hL) (by decide) rfl (inb_in g4) (Td_laws (lay_Td1 hL) (inb_in g4)).1 dX9_lawAt_14 ?_
    refine z_goto C 19 dX9_lawAt_15 (by decide) ?_
    cases hf
    exact z_aret C rfl dX9_lawAt_19
theorem okf_lawAt {K : SK} (hL : Lay K) {M : MM} {k : Int32} {r : Option Nat} (h : fX9_lawAt M k = some r) : ∀ a, r = some a → Lw K a := okf_gen (fun hi => (Td_laws (lay_Td1 hL) hi).2) h
set_option maxHeartbeats 4000000 in
set_option maxRecDepth 100000 in
theorem tX9_eveningAt (l : Launch) (G : GG) {K : SK} (hL : Lay K) (M : MM) (x1 : Int32) (pp : Option Nat) (hf : fX9_eveningAt M x1 = some pp) : Ct l yX9_eveningAt cX9_eveningAt 2 (some (.object "ReflectCensus$Evening")) 1 0 0 G K M [.ref (G.1 + 1), .int x1] (some (rfv G pp)) K M := by
  refine z_enter (lv := [(0, .ref (G.1 + 1)), (1, .int x1)]) (by decide +kernel) (Nat.le_of_ble_eq_true rfl) rfl ?_
  intro p e s m args below meth c C hnm hs0
  replace C : CX p s m args meth c cX9_eveningAt 2 (some (.object "ReflectCensus$Evening")) RX9 G := C
  unfold fX9_eveningAt at hf
  refine z_aload_n C 0 0 dX9_eveningAt_0 rfl rfl ?_
  refine z_iconst C 2 dX9_eveningAt_1 (by decide) ?_
  refine z_iload_n C 1 1 dX9_eveningAt_2 rfl rfl ?_
  replace hf := bd_out hf
  obtain ⟨p1, e2, hf⟩ := hf
  refine z_cV1 C [] (tX9_has l G hL M 2 x1 _ e2) lk_X9_has ok_X9 (lay_c1 hL) q_ml_X9_76 rfl ⟨Nat.le_of_ble_eq_true rfl, Nat.le_of_ble_eq_true rfl⟩ rfl (Nat.le_of_ble_eq_true rfl) ⟨Nat.le_refl _, Nat.le_refl _⟩ dX9_eveningAt_3 ?_
  refine z_if_eq C 18 dX9_eveningAt_6 (by decide) (fun c3 => ?_) (fun c3 => ?_)
  · replace hf := ite_t c3 hf
    refine z_null C dX9_eveningAt_18 ?_
    cases hf
    exact z_aret C rfl dX9_eveningAt_19
  · replace hf := ite_f c3 hf
    refine z_aload_n C 0 0 dX9_eveningAt_9 rfl rfl ?_
    refine z_getR C ok_X9 (lay_c1 hL) 3 (5) (by decide) rfl (lay_r1_3 hL) q_fl_X9_29 dX9_eveningAt_10 ?_
    refine z_iload_n C 1 1 dX9_eveningAt_13 rfl rfl ?_
    replace hf := gd_out hf
    obtain ⟨g4, hf⟩ := hf
    refine z_aaldR C 6 RX2 (lay_c5 hL) (by decide) rfl (inb_in g4) (Td_evenings (lay_Td1 hL) (inb_in g4)).1 dX9_eveningAt_14 ?_
    refine z_goto C 19 dX9_eveningAt_15 (by decide) ?_
    cases hf
    exact z_aret C rfl dX9_eveningAt_19
theorem okf_eveningAt {K : SK} (hL : Lay K) {M : MM} {k : Int32} {r : Option Nat} (h : fX9_eveningAt M k = some r) : ∀ a, r = some a → Ev K a := okf_gen (fun hi => (Td_evenings (lay_Td1 hL) hi).2) h
set_option maxHeartbeats 4000000 in
set_option maxRecDepth 100000 in
theorem tX9_sightAt (l : Launch) (G : GG) {K : SK} (hL : Lay K) (M : MM) (x1 : Int32) (pp : Option Nat) (hf : fX9_sightAt M x1 = some pp) : Ct l yX9_sightAt cX9_sightAt 2 (some (.object "ReflectCensus$Sight")) 1 0 0 G K M [.ref (G.1 + 1), .int x1] (some (rfv G pp)) K M := by
  refine z_enter (lv := [(0, .ref (G.1 + 1)), (1, .int x1)]) (by decide +kernel) (Nat.le_of_ble_eq_true rfl) rfl ?_
  intro p e s m args below meth c C hnm hs0
  replace C : CX p s m args meth c cX9_sightAt 2 (some (.object "ReflectCensus$Sight")) RX9 G := C
  unfold fX9_sightAt at hf
  refine z_aload_n C 0 0 dX9_sightAt_0 rfl rfl ?_
  refine z_iconst C 3 dX9_sightAt_1 (by decide) ?_
  refine z_iload_n C 1 1 dX9_sightAt_2 rfl rfl ?_
  replace hf := bd_out hf
  obtain ⟨p1, e2, hf⟩ := hf
  refine z_cV1 C [] (tX9_has l G hL M 3 x1 _ e2) lk_X9_has ok_X9 (lay_c1 hL) q_ml_X9_76 rfl ⟨Nat.le_of_ble_eq_true rfl, Nat.le_of_ble_eq_true rfl⟩ rfl (Nat.le_of_ble_eq_true rfl) ⟨Nat.le_refl _, Nat.le_refl _⟩ dX9_sightAt_3 ?_
  refine z_if_eq C 18 dX9_sightAt_6 (by decide) (fun c3 => ?_) (fun c3 => ?_)
  · replace hf := ite_t c3 hf
    refine z_null C dX9_sightAt_18 ?_
    cases hf
    exact z_aret C rfl dX9_sightAt_19
  · replace hf := ite_f c3 hf
    refine z_aload_n C 0 0 dX9_sightAt_9 rfl rfl ?_
    refine z_getR C ok_X9 (lay_c1 hL) 4 (6) (by decide) rfl (lay_r1_4 hL) q_fl_X9_35 dX9_sightAt_10 ?_
    refine z_iload_n C 1 1 dX9_sightAt_13 rfl rfl ?_
    replace hf := gd_out hf
    obtain ⟨g4, hf⟩ := hf
    refine z_aaldR C 7 RX8 (lay_c6 hL) (by decide) rfl (inb_in g4) (Td_sights (lay_Td1 hL) (inb_in g4)).1 dX9_sightAt_14 ?_
    refine z_goto C 19 dX9_sightAt_15 (by decide) ?_
    cases hf
    exact z_aret C rfl dX9_sightAt_19
theorem okf_sightAt {K : SK} (hL : Lay K) {M : MM} {k : Int32} {r : Option Nat} (h : fX9_sightAt M k = some r) : ∀ a, r = some a → Sg K a := okf_gen (fun hi => (Td_sights (lay_Td1 hL) hi).2) h
end
