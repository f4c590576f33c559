theorem q_ml_X11_341 : Cond.methodLink RX11 341 yX9_copyFrom ∈ GW := gw_of 1334 (by decide +kernel) (by decide +kernel)
theorem dX11_image_0 : decode cX11_image 0 = .ok (.iload_n 1, 1) := by decide +kernel
theorem dX11_image_1 : decode cX11_image 1 = .ok (.ifCond .lt 8, 3) := by decide +kernel
theorem dX11_image_4 : decode cX11_image 4 = .ok (.iload_n 1, 1) := by decide +kernel
theorem dX11_image_5 : decode cX11_image 5 = .ok (.iconst 3, 1) := by decide +kernel
theorem dX11_image_6 : decode cX11_image 6 = .ok (.if_icmp .lt 5, 3) := by decide +kernel
theorem dX11_image_9 : decode cX11_image 9 = .ok (.iconst 0, 1) := by decide +kernel
theorem dX11_image_10 : decode cX11_image 10 = .ok (.ireturn, 1) := by decide +kernel
theorem dX11_image_11 : decode cX11_image 11 = .ok (.aload_n 0, 1) := by decide +kernel
theorem dX11_image_12 : decode cX11_image 12 = .ok (.getfield 16, 3) := by decide +kernel
theorem dX11_image_15 : decode cX11_image 15 = .ok (.iload_n 1, 1) := by decide +kernel
theorem dX11_image_16 : decode cX11_image 16 = .ok (.aaload, 1) := by decide +kernel
theorem dX11_image_17 : decode cX11_image 17 = .ok (.ifnonnull 16, 3) := by decide +kernel
theorem dX11_image_20 : decode cX11_image 20 = .ok (.aload_n 0, 1) := by decide +kernel
theorem dX11_image_21 : decode cX11_image 21 = .ok (.getfield 16, 3) := by decide +kernel
theorem dX11_image_24 : decode cX11_image 24 = .ok (.iload_n 1, 1) := by decide +kernel
theorem dX11_image_25 : decode cX11_image 25 = .ok (.new 7, 3) := by decide +kernel
theorem dX11_image_28 : decode cX11_image 28 = .ok (.dup, 1) := by decide +kernel
theorem dX11_image_29 : decode cX11_image 29 = .ok (.invokespecial 9, 3) := by decide +kernel
theorem dX11_image_32 : decode cX11_image 32 = .ok (.aastore, 1) := by decide +kernel
theorem dX11_image_33 : decode cX11_image 33 = .ok (.aload_n 0, 1) := by decide +kernel
theorem dX11_image_34 : decode cX11_image 34 = .ok (.getfield 16, 3) := by decide +kernel
theorem dX11_image_37 : decode cX11_image 37 = .ok (.iload_n 1, 1) := by decide +kernel
theorem dX11_image_38 : decode cX11_image 38 = .ok (.aaload, 1) := by decide +kernel
theorem dX11_image_39 : decode cX11_image 39 = .ok (.aload_n 0, 1) := by decide +kernel
theorem dX11_image_40 : decode cX11_image 40 = .ok (.getfield 10, 3) := by decide +kernel
theorem dX11_image_43 : decode cX11_image 43 = .ok (.invokevirtual 341, 3) := by decide +kernel
theorem dX11_image_46 : decode cX11_image 46 = .ok (.iconst 1, 1) := by decide +kernel
theorem dX11_image_47 : decode cX11_image 47 = .ok (.ireturn, 1) := by decide +kernel
theorem dX11_again_0 : decode cX11_again 0 = .ok (.iload_n 1, 1) := by decide +kernel
theorem dX11_again_1 : decode cX11_again 1 = .ok (.ifCond .lt 17, 3) := by decide +kernel
theorem dX11_again_4 : decode cX11_again 4 = .ok (.iload_n 1, 1) := by decide +kernel
theorem dX11_again_5 : decode cX11_again 5 = .ok (.iconst 3, 1) := by decide +kernel
theorem dX11_again_6 : decode cX11_again 6 = .ok (.if_icmp .ge 12, 3) := by decide +kernel
theorem dX11_again_9 : decode cX11_again 9 = .ok (.aload_n 0, 1) := by decide +kernel
theorem dX11_again_10 : decode cX11_again 10 = .ok (.getfield 16, 3) := by decide +kernel
theorem dX11_again_13 : decode cX11_again 13 = .ok (.iload_n 1, 1) := by decide +kernel
theorem dX11_again_14 : decode cX11_again 14 = .ok (.aaload, 1) := by decide +kernel
theorem dX11_again_15 : decode cX11_again 15 = .ok (.ifnonnull 5, 3) := by decide +kernel
theorem dX11_again_18 : decode cX11_again 18 = .ok (.iconst 0, 1) := by decide +kernel
theorem dX11_again_19 : decode cX11_again 19 = .ok (.ireturn, 1) := by decide +kernel
theorem dX11_again_20 : decode cX11_again 20 = .ok (.aload_n 0, 1) := by decide +kernel
theorem dX11_again_21 : decode cX11_again 21 = .ok (.getfield 10, 3) := by decide +kernel
theorem dX11_again_24 : decode cX11_again 24 = .ok (.aload_n 0, 1) := by decide +kernel
theorem dX11_again_25 : decode cX11_again 25 = .ok (.getfield 16, 3) := by decide +kernel
theorem dX11_again_28 : decode cX11_again 28 = .ok (.iload_n 1, 1) := by decide +kernel
theorem dX11_again_29 : decode cX11_again 29 = .ok (.aaload, 1) := by decide +kernel
theorem dX11_again_30 : decode cX11_again 30 = .ok (.invokevirtual 341, 3) := by decide +kernel
theorem dX11_again_33 : decode cX11_again 33 = .ok (.iconst 1, 1) := by decide +kernel
theorem dX11_again_34 : decode cX11_again 34 = .ok (.ireturn, 1) := by decide +kernel
set_option maxHeartbeats 4000000 in
set_option maxRecDepth 100000 in
theorem tX11_again (l : Launch) (G : GG) {K : SK} (hL : Lay K) (im : Nat → Option Nat) (hIm : ∀ j, K.2.2 40 j = im j) (hTd : ∀ j a, im j = some a → Td K a) (M : MM) (x1 : Int32) (pp : Int32 × MM) (hf : fX11_again im M x1 = some pp) : Ct l yX11_again cX11_again 2 (some .boolean) 3 0 0 G K M [.ref (G.1 + 0), .int x1] (some (.int pp.1)) K pp.2 := by
  refine z_enter (lv := [(0, .ref (G.1 + 0)), (1, .int x1)]) (by decide +kernel) (Nat.le_of_ble_eq_true rfl) rfl ?_
  intro p e s m args below meth c C hnm hs0
  replace C : CX p s m args meth c cX11_again 2 (some .boolean) RX11 G := C
  unfold fX11_again at hf
  refine z_iload_n C 1 1 dX11_again_0 rfl rfl ?_
  refine z_if_lt C 18 dX11_again_1 (by decide) (fun c1 => ?_) (fun c1 => ?_)
  · replace hf := ite_t c1 hf
    refine z_iconst C 0 dX11_again_18 (by decide) ?_
    cases hf
    exact z_zret C rfl nb0 dX11_again_19
  · replace hf := ite_f c1 hf
    refine z_iload_n C 1 1 dX11_again_4 rfl rfl ?_
    refine z_iconst C 3 dX11_again_5 (by decide) ?_
    refine z_icmp_ge C 18 dX11_again_6 (by decide) (fun c2 => ?_) (fun c2 => ?_)
    · replace hf := ite_t c2 hf
      refine z_iconst C 0 dX11_again_18 (by decide) ?_
      cases hf
      exact z_zret C rfl nb0 dX11_again_19
    · replace hf := ite_f c2 hf
      refine z_aload_n C 0 0 dX11_again_9 rfl rfl ?_
      refine z_getR C ok_X11 (lay_c0 hL) 1 (40) (by decide) rfl (lay_r0_1 hL) q_fl_X11_16 dX11_again_10 ?_
      refine z_iload_n C 1 1 dX11_again_13 rfl rfl ?_
      replace hf := gd_out hf
      obtain ⟨g1, hf⟩ := hf
      refine z_aald C 8 RX9 (lay_c40 hL) (by decide) rfl (inb_in g1) dX11_again_14 ?_
      rw [hIm]
      refine z_ifnonnullR C 20 dX11_again_15 (by decide) (fun c3 => ?_) (fun c3 => ?_)
      · obtain ⟨a, ha⟩ := Option.ne_none_iff_exists'.mp c3
        rw [show im (ix x1) = some a from ha] at hf
        replace hf := bd_out hf
        obtain ⟨q, e1, hf⟩ := hf
        refine z_aload_n C 0 0 dX11_again_20 rfl rfl ?_
        refine z_getR C ok_X11 (lay_c0 hL) 0 (1) (by decide) rfl (lay_r0_0 hL) q_fl_X11_10 dX11_again_21 ?_
        refine z_aload_n C 0 0 dX11_again_24 rfl rfl ?_
        refine z_getR C ok_X11 (lay_c0 hL) 1 (40) (by decide) rfl (lay_r0_1 hL) q_fl_X11_16 dX11_again_25 ?_
        refine z_iload_n C 1 1 dX11_again_28 rfl rfl ?_
        refine z_aaldR C 8 RX9 (lay_c40 hL) (by decide) rfl (inb_in g1) ((hIm _).trans ha) dX11_again_29 ?_
        refine z_cV0 C [] (tX9_copyFrom l G hL M 1 (lay_Td1 hL) a (hTd _ a ha) _ e1) lk_X9_copyFrom ok_X9 (lay_c1 hL) q_ml_X11_341 rfl ⟨Nat.le_of_ble_eq_true rfl, Nat.le_of_ble_eq_true rfl⟩ rfl (Nat.le_of_ble_eq_true rfl) ⟨Nat.le_refl _, Nat.le_refl _⟩ dX11_again_30 ?_
        refine z_iconst C 1 dX11_again_33 (by decide) ?_
        cases hf
        exact z_zret C rfl nb1 dX11_again_34
      · have h0 : im (ix x1) = none := c3
        rw [h0] at hf
        refine z_iconst C 0 dX11_again_18 (by decide) ?_
        cases hf
        exact z_zret C rfl nb0 dX11_again_19
set_option maxHeartbeats 4000000 in
set_option maxRecDepth 100000 in
theorem tX11_image (l : Launch) (G : GG) {K : SK} (hL : Lay K) (im : Nat → Option Nat) (hIm : ∀ j, K.2.2 40 j = im j) (hTd : ∀ j a, im j = some a → Td K a) (hN : ∀ (M : MM) (j : Nat), Lay (imgK K M j) ∧ Td (imgK K M j) K.1) (M : MM) (x1 : Int32) (pp : Int32 × (SK × MM)) (hf : fX11_image im K M x1 = some pp) : Ct l yX11_image cX11_image 2 (some .boolean) 3 39 1167 G K M [.ref (G.1 + 0), .int x1] (some (.int pp.1)) pp.2.1 pp.2.2 := by
  refine z_enter (lv := [(0, .ref (G.1 + 0)), (1, .int x1)]) (by decide +kernel) (Nat.le_of_ble_eq_true rfl) rfl ?_
  intro p e s m args below meth c C hnm hs0
  replace C : CX p s m args meth c cX11_image 2 (some .boolean) RX11 G := C
  unfold fX11_image at hf
  refine z_iload_n C 1 1 dX11_image_0 rfl rfl ?_
  refine z_if_lt C 9 dX11_image_1 (by decide) (fun c1 => ?_) (fun c1 => ?_)
  · replace hf := ite_t c1 hf
    refine z_iconst C 0 dX11_image_9 (by decide) ?_
    cases hf
    refine z_widen (k := 39) (n := 1167) (by decide) (by decide) ?_
    exact z_zret C rfl nb0 dX11_image_10
  · replace hf := ite_f c1 hf
    refine z_iload_n C 1 1 dX11_image_4 rfl rfl ?_
    refine z_iconst C 3 dX11_image_5 (by decide) ?_
    refine z_icmp_lt C 11 dX11_image_6 (by decide) (fun c2 => ?_) (fun c2 => ?_)
    · replace hf := ite_t c2 hf
      refine z_aload_n C 0 0 dX11_image_11 rfl rfl ?_
      refine z_getR C ok_X11 (lay_c0 hL) 1 (40) (by decide) rfl (lay_r0_1 hL) q_fl_X11_16 dX11_image_12 ?_
      refine z_iload_n C 1 1 dX11_image_15 rfl rfl ?_
      replace hf := gd_out hf
      obtain ⟨g1, hf⟩ := hf
      refine z_aald C 8 RX9 (lay_c40 hL) (by decide) rfl (inb_in g1) dX11_image_16 ?_
      rw [hIm]
      refine z_ifnonnullR C 33 dX11_image_17 (by decide) (fun c3 => ?_) (fun c3 => ?_)
      · obtain ⟨a, ha⟩ := Option.ne_none_iff_exists'.mp c3
        rw [show im (ix x1) = some a from ha] at hf
        replace hf := bd_out hf
        obtain ⟨q, e1, hf⟩ := hf
        refine z_aload_n C 0 0 dX11_image_33 rfl rfl ?_
        refine z_getR C ok_X11 (lay_c0 hL) 1 (40) (by decide) rfl (lay_r0_1 hL) q_fl_X11_16 dX11_image_34 ?_
        refine z_iload_n C 1 1 dX11_image_37 rfl rfl ?_
        refine z_aaldR C 8 RX9 (lay_c40 hL) (by decide) rfl (inb_in g1) ((hIm _).trans ha) dX11_image_38 ?_
        refine z_aload_n C 0 0 dX11_image_39 rfl rfl ?_
        refine z_getR C ok_X11 (lay_c0 hL) 0 (1) (by decide) rfl (lay_r0_0 hL) q_fl_X11_10 dX11_image_40 ?_
        refine z_cV0 C [] (tX9_copyFrom l G hL M a (hTd _ a ha) 1 (lay_Td1 hL) _ e1) lk_X9_copyFrom ok_X9 (Td_o (hTd _ a ha)) q_ml_X11_341 rfl ⟨Nat.le_of_ble_eq_true rfl, Nat.le_of_ble_eq_true rfl⟩ rfl (Nat.le_of_ble_eq_true rfl) ⟨by decide, by decide⟩ dX11_image_43 ?_
        refine z_iconst C 1 dX11_image_46 (by decide) ?_
        cases hf
        refine z_widen (k := 39) (n := 1167) (by decide) (by decide) ?_
        exact z_zret C rfl nb1 dX11_image_47
      · have h0 : im (ix x1) = none := c3
        rw [h0] at hf
        replace hf := bd_out hf
        obtain ⟨q, e1, hf⟩ := hf
        cases hf
        refine z_aload_n C 0 0 dX11_image_20 rfl rfl ?_
        refine z_getR C ok_X11 (lay_c0 hL) 1 (40) (by decide) rfl (lay_r0_1 hL) q_fl_X11_16 dX11_image_21 ?_
        refine z_iload_n C 1 1 dX11_image_24 rfl rfl ?_
        refine z_new C ok_X9 q_cl_X11_7 q_is_X9 q_in2_X9 df_X9 (by decide) (by decide) dX11_image_25 ?_
        refine z_dup C rfl dX11_image_28 ?_
        refine z_callI C [.ref (G.1 + K.1), .int x1, .ref (G.1 + 40)] (tX9_init l G (kNew K 9 0) (zM M K.1) K.1 isC_new0) lkI_X9_init q_ml_X11_9 rfl ⟨Nat.le_of_ble_eq_true rfl, Nat.le_of_ble_eq_true rfl⟩ rfl (Nat.le_of_ble_eq_true rfl) ⟨by decide, by decide⟩ dX11_image_29 ?_
        have kp := keep_X9_init (kNew K 9 0) (zM M K.1) K.1
        refine z_aast C 8 (kp.cell (isC_new (lay_c40 hL))) (by decide) (kp.cell isC_new0) (by decide) rfl rfl (inb_in g1) dX11_image_32 ?_
        have hL2 := (hN M (ix x1)).1
        have hT2 := (hN M (ix x1)).2
        refine z_aload_n C 0 0 dX11_image_33 rfl rfl ?_
        refine z_getR C ok_X11 (lay_c0 hL2) 1 (40) (by decide) rfl (lay_r0_1 hL2) q_fl_X11_16 dX11_image_34 ?_
        refine z_iload_n C 1 1 dX11_image_37 rfl rfl ?_
        refine z_aaldR C 8 RX9 (lay_c40 hL2) (by decide) rfl (inb_in g1) ref_set_eq dX11_image_38 ?_
        refine z_aload_n C 0 0 dX11_image_39 rfl rfl ?_
        refine z_getR C ok_X11 (lay_c0 hL2) 0 (1) (by decide) rfl (lay_r0_0 hL2) q_fl_X11_10 dX11_image_40 ?_
        refine z_cV0 C [] (tX9_copyFrom l G hL2 _ K.1 hT2 1 (lay_Td1 hL2) _ e1) lk_X9_copyFrom ok_X9 (Td_o hT2) q_ml_X11_341 rfl ⟨Nat.le_of_ble_eq_true rfl, Nat.le_of_ble_eq_true rfl⟩ rfl (Nat.le_of_ble_eq_true rfl) ⟨by decide, by decide⟩ dX11_image_43 ?_
        refine z_iconst C 1 dX11_image_46 (by decide) ?_
        exact z_zret C rfl nb1 dX11_image_47
    · replace hf := ite_f c2 hf
      refine z_iconst C 0 dX11_image_9 (by decide) ?_
      cases hf
      refine z_widen (k := 39) (n := 1167) (by decide) (by decide) ?_
      exact z_zret C rfl nb0 dX11_image_10
theorem tdB_n : tdB.1 = 39 := by decide +kernel
theorem tdB_sh : ∀ c, c < 39 → tdB.2.1 c = ((tdT.getD c (0, 0)).1, (tdT.getD c (0, 0)).2) := by decide +kernel
theorem tdB_rf : ∀ q ∈ tdR, q.1 < 39 ∧ tdB.2.2 q.1 q.2.1 = some q.2.2 := by decide +kernel
theorem img_ov (K : SK) (M : MM) : Ov K.1 tdB (kX9_init (kNew K 9 0) (zM M K.1) K.1).1 :=
  ov_X9_init (n0 := K.1) (Ov.new (show Ov K.1 K00 K from ⟨rfl, fun c hc => absurd hc (Nat.not_lt_zero c)⟩)) rfl
theorem img_ok {K : SK} (hL : Lay K) : ∀ (M : MM) (j : Nat), Lay (imgK K M j) ∧ Td (imgK K M j) K.1 := by
  intro M j
  have ho := img_ov K M
  have hk := keep_X9_init (kNew K 9 0) (zM M K.1) K.1
  have h115 := hL.1
  have hn1 : (kNew K 9 0).1 = K.1 + 1 := rfl
  refine ⟨⟨?_, fun c hc => ?_, fun q hq => ?_⟩, fun c hc => ?_, fun q hq => ?_⟩
  · show 115 ≤ (kX9_init (kNew K 9 0) (zM M K.1) K.1).1.1
    have := hk.1
    omega
  · show (kX9_init (kNew K 9 0) (zM M K.1) K.1).1.2.1 c = _
    rw [(hk.2 c (by omega)).1]
    show (if c = K.1 then (9, 0) else K.2.1 c) = _
    rw [if_neg (by omega)]
    exact hL.2.1 c hc
  · have hq1 : q.1 < 115 ∧ q.1 ≠ 40 := (show ∀ q ∈ refT, q.1 < 115 ∧ q.1 ≠ 40 by decide +kernel) q hq
    show (if q.1 = 40 then _ else (kX9_init (kNew K 9 0) (zM M K.1) K.1).1.2.2 q.1) q.2.1 = _
    rw [if_neg hq1.2, (hk.2 q.1 (by omega)).2 (by omega)]
    show (if q.1 = K.1 then fun _ => none else K.2.2 q.1) q.2.1 = _
    rw [if_neg (by omega)]
    exact hL.2.2 q hq
  · refine ⟨?_, ?_⟩
    · show K.1 + c < (kX9_init (kNew K 9 0) (zM M K.1) K.1).1.1
      rw [ho.1, tdB_n]; omega
    · show (kX9_init (kNew K 9 0) (zM M K.1) K.1).1.2.1 (K.1 + c) = _
      rw [(ho.2 c (by rw [tdB_n]; exact hc)).1, tdB_sh c hc]
  · obtain ⟨h1, h2⟩ := tdB_rf q hq
    show (if K.1 + q.1 = 40 then _ else (kX9_init (kNew K 9 0) (zM M K.1) K.1).1.2.2 (K.1 + q.1)) q.2.1 = _
    rw [if_neg (by omega), (ho.2 q.1 (by rw [tdB_n]; exact h1)).2, h2]
    rfl
