def KA : SK × MM := kX11_init (kNew K00 11 0) (zM M00 K00.1) K00.1
theorem KA_n : KA.1.1 = 90 := by decide +kernel
/-- the cells and the memory behind both constructors -/
def KB : SK × MM := kX12_init (kNew KA.1 12 0) (zM KA.2 90) 90
theorem KB_lay : Lay KB.1 := ⟨by decide +kernel, by decide +kernel, by decide +kernel⟩
set_option maxHeartbeats 4000000 in
set_option maxRecDepth 100000 in
theorem whole_start_of {Inv : SK → MM → Prop} (hInv : ∀ K M, Inv K M → KI K) (e0 : E0 Inv) (e1 : E1 Inv) (e2 : E2 Inv) (e3 : E3 Inv) (e4 : E4 Inv) (e5 : E5 Inv) (e6 : E6 Inv) (e7 : E7 Inv) (e8 : E8 Inv) (e9 : E9 Inv) (e10 : E10 Inv) (e11 : E11 Inv) (e12 : E12 Inv) (e13 : E13 Inv) (e14 : E14 Inv) (e15 : E15 Inv) (e16 : E16 Inv) (e17 : E17 Inv) (e18 : E18 Inv) (e19 : E19 Inv) (e20 : E20 Inv) (e21 : E21 Inv) (e22 : E22 Inv) (e23 : E23 Inv) (e24 : E24 Inv) (e25 : E25 Inv) (e26 : E26 Inv) (e27 : E27 Inv) (e28 : E28 Inv) (e29 : E29 Inv) (e30 : E30 Inv) (e31 : E31 Inv) (e32 : E32 Inv) (e33 : E33 Inv) (hinit : Inv KB.1 KB.2) {p : Program} {e : Env} {s : State} {m : MethodId} {below : List Frame} {meth : Method} {c : Code} (l : Launch) {b L : Nat} {xs : Nat → Int32} (hL : L ≤ 3072) (C0 : lw_At p s m meth c b L xs) : W p l e room_1 s m #[Value.ref b] below meth c s.heap [] 0 0 (lw_Z below #[Value.ref b] s) (entryFrame m ([Value.ref b] : List Value).toArray 4) := by
  obtain ⟨hx, hb, hr, hml, hown, hts0, hX, hbl, hlocks, hgv⟩ := id C0
  have hts : ∀ w ∈ GW, w.before #[Value.ref b] s = true := fun w hw => hts0 w (List.mem_filter.mp hw).1
  have hA : ∀ a : Nat, a < s.heap.size → ¬ (fun q : Nat => s.heap.size ≤ q) a := fun a h q => Nat.not_le.mpr h q
  have hn : ∀ w ∈ nfl1, w.before #[Value.ref b] s = true := flat_of_before _ hgv
  have h0 : ∀ k : Nat, ∃ q : ClassId × (Nat → Nat), ∀ r, classes[k]? = some r → u_Kn s r.1 r.2.1 r.2.2 q.1 q.2 := by
    intro k
    match k with
    | 0 =>
      obtain ⟨c0, i0, h⟩ := u_known (C := RX0) (T := TX0) (N := 12) hts ok_X0.2.1 (hts _ q_is_X0)
      exact ⟨(c0, i0), fun r hr => by cases hr; exact h⟩
    | 1 =>
      obtain ⟨c0, i0, h⟩ := u_known (C := RX1) (T := TX1) (N := 4) hts ok_X1.2.1 (hts _ q_is_X1)
      exact ⟨(c0, i0), fun r hr => by cases hr; exact h⟩
    | 2 =>
      obtain ⟨c0, i0, h⟩ := u_known (C := RX2) (T := TX2) (N := 4) hts ok_X2.2.1 (hts _ q_is_X2)
      exact ⟨(c0, i0), fun r hr => by cases hr; exact h⟩
    | 3 =>
      obtain ⟨c0, i0, h⟩ := u_known (C := RX3) (T := TX3) (N := 7) hts ok_X3.2.1 (hts _ q_is_X3)
      exact ⟨(c0, i0), fun r hr => by cases hr; exact h⟩
    | 4 =>
      obtain ⟨c0, i0, h⟩ := u_known (C := RX4) (T := TX4) (N := 6) hts ok_X4.2.1 (hts _ q_is_X4)
      exact ⟨(c0, i0), fun r hr => by cases hr; exact h⟩
    | 5 =>
      obtain ⟨c0, i0, h⟩ := u_known (C := RX5) (T := TX5) (N := 13) hts ok_X5.2.1 (hts _ q_is_X5)
      exact ⟨(c0, i0), fun r hr => by cases hr; exact h⟩
    | 6 =>
      obtain ⟨c0, i0, h⟩ := u_known (C := RX6) (T := TX6) (N := 5) hts ok_X6.2.1 (hts _ q_is_X6)
      exact ⟨(c0, i0), fun r hr => by cases hr; exact h⟩
    | 7 =>
      obtain ⟨c0, i0, h⟩ := u_known (C := RX7) (T := TX7) (N := 13) hts ok_X7.2.1 (hts _ q_is_X7)
      exact ⟨(c0, i0), fun r hr => by cases hr; exact h⟩
    | 8 =>
      obtain ⟨c0, i0, h⟩ := u_known (C := RX8) (T := TX8) (N := 2) hts ok_X8.2.1 (hts _ q_is_X8)
      exact ⟨(c0, i0), fun r hr => by cases hr; exact h⟩
    | 9 =>
      obtain ⟨c0, i0, h⟩ := u_known (C := RX9) (T := TX9) (N := 9) hts ok_X9.2.1 (hts _ q_is_X9)
      exact ⟨(c0, i0), fun r hr => by cases hr; exact h⟩
    | 10 =>
      obtain ⟨c0, i0, h⟩ := u_known (C := RX10) (T := TX10) (N := 5) hts ok_X10.2.1 (hts _ q_is_X10)
      exact ⟨(c0, i0), fun r hr => by cases hr; exact h⟩
    | 11 =>
      obtain ⟨c0, i0, h⟩ := u_known (C := RX11) (T := TX11) (N := 8) hts ok_X11.2.1 (hts _ q_is_X11)
      exact ⟨(c0, i0), fun r hr => by cases hr; exact h⟩
    | 12 =>
      obtain ⟨c0, i0, h⟩ := u_known (C := RX12) (T := TX12) (N := 44) hts ok_X12.2.1 (hts _ q_is_X12)
      exact ⟨(c0, i0), fun r hr => by cases hr; exact h⟩
    | n + 13 => exact ⟨(0, fun _ => 0), fun r hr => by simp [classes] at hr⟩
  obtain ⟨dq, hdq⟩ := Classical.axiomOfChoice h0
  have h1 : ∀ k : Nat, ∃ cA : ClassId, ∀ ty, ([.int, .long, .byte, .boolean, .object RX5, .object RX4, .object RX2, .object RX8, .object RX9] : List FieldType)[k]? = some ty → ArrOfT s cA ty ∧ va_RA s cA ty := by
    intro k
    match k with
    | 0 =>
      obtain ⟨c0, k0, comp, a1, a2, a3⟩ := Cond.arrayClass_spec (hts _ q_ac_i)
      exact ⟨c0, fun ty hty => by cases hty; exact ⟨fun n z => ⟨(fun k h => by cases h), k0, a2, comp, a3⟩, a1⟩⟩
    | 1 =>
      obtain ⟨c0, k0, comp, a1, a2, a3⟩ := Cond.arrayClass_spec (hts _ q_ac_l)
      exact ⟨c0, fun ty hty => by cases hty; exact ⟨fun n z => ⟨(fun k h => by cases h), k0, a2, comp, a3⟩, a1⟩⟩
    | 2 =>
      obtain ⟨c0, k0, comp, a1, a2, a3⟩ := Cond.arrayClass_spec (hts _ q_ac_b)
      exact ⟨c0, fun ty hty => by cases hty; exact ⟨fun n z => ⟨(fun k h => by cases h), k0, a2, comp, a3⟩, a1⟩⟩
    | 3 =>
      obtain ⟨c0, k0, comp, a1, a2, a3⟩ := Cond.arrayClass_spec (hts _ q_ac_z)
      exact ⟨c0, fun ty hty => by cases hty; exact ⟨fun n z => ⟨(fun k h => by cases h), k0, a2, comp, a3⟩, a1⟩⟩
    | 4 =>
      obtain ⟨comp, c0, k0, a1, -, a3, a4, a5⟩ := Cond.arrayOver_spec (hts0 _ q_ao_X5)
      exact ⟨c0, fun ty hty => by cases hty; exact ⟨fun n z => ⟨(fun k h => by cases h), k0, a3, comp, a4⟩, k0, comp, a3, a4, a1, a5⟩⟩
    | 5 =>
      obtain ⟨comp, c0, k0, a1, -, a3, a4, a5⟩ := Cond.arrayOver_spec (hts0 _ q_ao_X4)
      exact ⟨c0, fun ty hty => by cases hty; exact ⟨fun n z => ⟨(fun k h => by cases h), k0, a3, comp, a4⟩, k0, comp, a3, a4, a1, a5⟩⟩
    | 6 =>
      obtain ⟨comp, c0, k0, a1, -, a3, a4, a5⟩ := Cond.arrayOver_spec (hts0 _ q_ao_X2)
      exact ⟨c0, fun ty hty => by cases hty; exact ⟨fun n z => ⟨(fun k h => by cases h), k0, a3, comp, a4⟩, k0, comp, a3, a4, a1, a5⟩⟩
    | 7 =>
      obtain ⟨comp, c0, k0, a1, -, a3, a4, a5⟩ := Cond.arrayOver_spec (hts0 _ q_ao_X8)
      exact ⟨c0, fun ty hty => by cases hty; exact ⟨fun n z => ⟨(fun k h => by cases h), k0, a3, comp, a4⟩, k0, comp, a3, a4, a1, a5⟩⟩
    | 8 =>
      obtain ⟨comp, c0, k0, a1, -, a3, a4, a5⟩ := Cond.arrayOver_spec (hts0 _ q_ao_X9)
      exact ⟨c0, fun ty hty => by cases hty; exact ⟨fun n z => ⟨(fun k h => by cases h), k0, a3, comp, a4⟩, k0, comp, a3, a4, a1, a5⟩⟩
    | n + 9 => exact ⟨0, fun r hr => by simp at hr⟩
  obtain ⟨dA0, hdA⟩ := Classical.axiomOfChoice h1
  obtain ⟨t0, ht0, hT0⟩ := va_Tof (tm := (.static (st_tab 0).1 (st_tab 0).2.1 "[I")) (N := 5) (f := fun j => .int (st_val 0 j)) (A := fun q : Nat => s.heap.size ≤ q) (by decide) (hn _ n_ar_0) (va_eqt (hn _ n_ln_0)) (fun j hj => va_eqt (hn _ (n_el_0 j hj))) hA
  obtain ⟨t1, ht1, hT1⟩ := va_Tof (tm := (.static (st_tab 1).1 (st_tab 1).2.1 "[I")) (N := 20) (f := fun j => .int (st_val 1 j)) (A := fun q : Nat => s.heap.size ≤ q) (by decide) (hn _ n_ar_1) (va_eqt (hn _ n_ln_1)) (fun j hj => va_eqt (hn _ (n_el_1 j hj))) hA
  obtain ⟨t2, ht2, hT2⟩ := va_Tof (tm := (.static (st_tab 2).1 (st_tab 2).2.1 "[I")) (N := 100) (f := fun j => .int (st_val 2 j)) (A := fun q : Nat => s.heap.size ≤ q) (by decide) (hn _ n_ar_2) (va_eqt (hn _ n_ln_2)) (fun j hj => va_eqt (hn _ (n_el_2 j hj))) hA
  obtain ⟨t3, ht3, hT3⟩ := va_Tof (tm := (.static (st_tab 3).1 (st_tab 3).2.1 "[I")) (N := 8) (f := fun j => .int (st_val 3 j)) (A := fun q : Nat => s.heap.size ≤ q) (by decide) (hn _ n_ar_3) (va_eqt (hn _ n_ln_3)) (fun j hj => va_eqt (hn _ (n_el_3 j hj))) hA
  obtain ⟨t4, ht4, hT4⟩ := va_Tof (tm := (.static (st_tab 4).1 (st_tab 4).2.1 "[I")) (N := 8) (f := fun j => .int (st_val 4 j)) (A := fun q : Nat => s.heap.size ≤ q) (by decide) (hn _ n_ar_4) (va_eqt (hn _ n_ln_4)) (fun j hj => va_eqt (hn _ (n_el_4 j hj))) hA
  obtain ⟨adK, adV, hS, hev⟩ := vk_Sof (N := 21) (tm := fun w => .string RX7 (strIx w)) (len := strLen) (byt := strByt) (A := fun q : Nat => s.heap.size ≤ q) n_s0 (fun w hw => hn _ (n_s1 w hw)) (fun w hw => hn _ (n_s2 w hw)) (fun w hw => hn _ (n_s3 w hw)) (fun w hw => hn _ (n_s4 w hw)) (fun w hw j hj => hn _ (n_s5 w hw j hj)) (fun w v hw hv h => (n_s6 w hw v hv h).imp (hn _) (hn _)) hA
  obtain ⟨G, hG⟩ : ∃ G : GG, G = (s.heap.size, (fun k => (dq k).1, fun k => (dq k).2), fun n => dA0 (n - 20), fun n => if n = 0 then t0 else if n = 1 then t1 else if n = 2 then t2 else if n = 3 then t3 else if n = 4 then t4 else if n < 200 then adK (n - 100) else adV (n - 200)) := ⟨_, rfl⟩
  have hG1 : G.1 = s.heap.size := by rw [hG]
  have hAG : AG G = fun q : Nat => s.heap.size ≤ q := by rw [hG]; rfl
  have ea : ∀ i, i < 21 → G.2.2.2 (100 + i) = adK i := fun i hi => by rw [hG]; simp only []; rw [if_neg (by omega), if_neg (by omega), if_neg (by omega), if_neg (by omega), if_neg (by omega), if_pos (by omega), show 100 + i - 100 = i by omega]
  have ev : ∀ i, i < 21 → G.2.2.2 (200 + i) = adV i := fun i hi => by rw [hG]; simp only []; rw [if_neg (by omega), if_neg (by omega), if_neg (by omega), if_neg (by omega), if_neg (by omega), if_neg (by omega), show 200 + i - 200 = i by omega]
  have hK : va_K G.2.1 classes (tysOf G) s := by
    rw [hG]
    refine ⟨fun k q hq => hdq k q hq, fun k q hq => ?_⟩
    match k, hq with
    | 0, hq => cases hq; exact hdA 0 _ rfl
    | 1, hq => cases hq; exact hdA 1 _ rfl
    | 2, hq => cases hq; exact hdA 2 _ rfl
    | 3, hq => cases hq; exact hdA 3 _ rfl
    | 4, hq => cases hq; exact hdA 4 _ rfl
    | 5, hq => cases hq; exact hdA 5 _ rfl
    | 6, hq => cases hq; exact hdA 6 _ rfl
    | 7, hq => cases hq; exact hdA 7 _ rfl
    | 8, hq => cases hq; exact hdA 8 _ rfl
    | n + 9, hq => simp at hq
  have hA5 : StA G s s.heap := by
    intro k hk
    rw [hAG, hG]
    rcases (show k = 0 ∨ k = 1 ∨ k = 2 ∨ k = 3 ∨ k = 4 by omega) with rfl | rfl | rfl | rfl | rfl
    · exact ⟨va_Zof (hts0 _ q_ls_0) (hts _ q_in2_X7) ht0 hA, hT0⟩
    · exact ⟨va_Zof (hts0 _ q_ls_1) (hts _ q_in2_X7) ht1 hA, hT1⟩
    · exact ⟨va_Zof (hts0 _ q_ls_2) (hts _ q_in2_X7) ht2 hA, hT2⟩
    · exact ⟨va_Zof (hts0 _ q_ls_3) (hts _ q_in2_X0) ht3 hA, hT3⟩
    · exact ⟨va_Zof (hts0 _ q_ls_4) (hts _ q_in2_X0) ht4 hA, hT4⟩
  have hSt : Stt G s s.heap := by
    refine ⟨hA5, ⟨?_, ?_, ?_⟩, fun w hw => ?_, fun C hC => ?_⟩
    · rw [hAG]
      refine ⟨fun i hi => ?_, fun i j hi hj h => ?_⟩
      · simp only []
        rw [ea i hi, ev i hi]
        exact hS.1 i hi
      · simp only [] at h
        rw [ea i hi, ea j hj] at h
        exact hS.2 i j hi hj h
    · rw [hAG]; exact va_Zof (hts0 _ q_ls_5) (hts _ q_in_str) (va_eqi (hn _ n_cs)) hA
    · rw [hAG]; exact va_Zqof (hts0 _ q_ls_6) (hts _ q_in_pre) (hn _ n_si) hA
    · rw [ea w hw]
      exact vk_R.of (hts0 _ (q_sr w hw)) (hev w hw)
    · simp only [aoL, List.mem_cons, List.not_mem_nil, or_false] at hC
      rcases hC with rfl | rfl | rfl | rfl | rfl
      · exact va_AO.of (hts0 _ q_ao_X5)
      · exact va_AO.of (hts0 _ q_ao_X4)
      · exact va_AO.of (hts0 _ q_ao_X2)
      · exact va_AO.of (hts0 _ q_ao_X8)
      · exact va_AO.of (hts0 _ q_ao_X9)
  have C : CX p s m #[Value.ref b] meth c cL_law 4 (some .boolean) RL G := ⟨hx, hb, hml, hown, hts, hK, Nat.le_of_eq hG1, hSt, hr, hlocks⟩
  have hS0 : Sm G K00 M00 s.heap := ⟨by rw [hG1]; rfl, fun k q h => by simp [wsOf, K00] at h⟩
  have hl := lv_entry ([.ref b]) (n := 4) (Nat.le_of_ble_eq_true rfl)
  rw [lg_entry_eq]
  have walk : Z p l e room_1 s m #[Value.ref b] below meth c 4 G (lw_Z below #[Value.ref b] s) K00 0 0 M00 0 [(0, .ref b)] [] := by
    refine z_new C ok_X11 q_cl_L_7 q_is_X11 q_in2_X11 df_X11 (by decide) (by decide) dL_law_0 ?_
    refine z_dup C rfl dL_law_3 ?_
    refine z_callI C [.ref (G.1 + K00.1)] (tX11_init l G (kNew K00 11 0) (zM M00 K00.1) K00.1 isC_new0) lkI_X11_init q_ml_L_9 rfl ⟨Nat.le_of_ble_eq_true rfl, Nat.le_of_ble_eq_true rfl⟩ rfl (Nat.le_of_ble_eq_true rfl) ⟨by decide, by decide⟩ dL_law_4 ?_
    refine z_astore_n C [(1, .ref (G.1 + 0)), (0, .ref b)] dL_law_7 rfl (by decide) rfl rfl ?_
    refine z_new C ok_X12 q_cl_L_10 q_is_X12 q_in2_X12 df_X12 (by decide) (by decide) dL_law_8 ?_
    have hI : isC (kNew KA.1 12 0) 90 12 0 := by
      have h9 := isC_new0 (K := KA.1) (kd := 12) (ln := 0)
      rwa [KA_n] at h9
    suffices hw : Z p l e room_1 s m #[Value.ref b] below meth c 4 G (lw_Z below #[Value.ref b] s) (kNew KA.1 12 0) (0 + 1 + 89 + 1) (0 + nfl 11 + 4651 + nfl 12) (zM KA.2 90) 11 [(1, .ref (G.1 + 0)), (0, .ref b)] [.ref (G.1 + 90)] by
      rw [← KA_n] at hw
      exact hw
    refine z_dup C rfl dL_law_11 ?_
    refine z_callI C [.ref (G.1 + 90)] (tX12_init l G (kNew KA.1 12 0) (zM KA.2 90) 90 hI) lkI_X12_init q_ml_L_12 rfl ⟨Nat.le_of_ble_eq_true rfl, Nat.le_of_ble_eq_true rfl⟩ rfl (Nat.le_of_ble_eq_true rfl) ⟨by decide, by decide⟩ dL_law_12 ?_
    refine z_astore_n C [(2, .ref (G.1 + 90)), (1, .ref (G.1 + 0)), (0, .ref b)] dL_law_15 rfl (by decide) rfl rfl ?_
    refine z_iconst C 0 dL_law_16 (by decide) ?_
    refine z_istore_n C [(3, .int 0), (2, .ref (G.1 + 90)), (1, .ref (G.1 + 0)), (0, .ref b)] dL_law_17 rfl (by decide) rfl rfl ?_
    refine z_lv (lv2 := [(0, .ref b), (1, .ref (G.1 + 0)), (2, .ref (G.1 + 90)), (3, .int (nI 0))]) [3, 2, 1, 0] rfl ?_
    exact law_loop hInv e0 e1 e2 e3 e4 e5 e6 e7 e8 e9 e10 e11 e12 e13 e14 e15 e16 e17 e18 e19 e20 e21 e22 e23 e24 e25 e26 e27 e28 e29 e30 e31 e32 e33 C hX hbl hG1 hL 4000 0 0 KB.1 KB.2 _ _ rfl (by omega) (by omega) hinit (by decide) (by decide)
  exact walk s.heap [] _ hS0 va_S.rf hl
