/-! ===== round ===== -/
def rndA (x : Int32) (B : DPT) (n : Nat) : Int32 := if x = -1 then (if n = 0 then 0 else opI (mnR B (2 ^ n - 1) n)) else nI (gmM x B (8 * (2 ^ n - 1)))
theorem ans_cls {M : MM} {n : Nat} {B : DPT} {x : Int32} (hn : n ≤ 8) (h61 : gI M 61 3 = nI n) (hI : dpI n B) (hR : RC M B) : (if x = -1 then (fX10_fewestToAll M).bind (fun p18 => some (p18, M)) else (fX10_mostWithin M x).bind (fun p16 => some (p16, M))) = some (rndA x B n, M) := by
  have hp := p8 hn
  have hp0 : 0 < 2 ^ n := Nat.pow_pos (by decide)
  unfold rndA
  by_cases c : x = -1
  · rw [if_pos c, if_pos c]
    unfold fX10_fewestToAll
    rw [h61, shl_nI (by omega), nl1, pk_sub (by omega)]
    by_cases z : n = 0
    · subst z
      rw [if_pos rfl]
      rfl
    · have hp2 : 2 ≤ 2 ^ n := Nat.pow_le_pow_right (n := 2) (i := 1) (by decide) (by omega)
      rw [if_neg z, fewest_cls hn (by omega) (by omega) h61 hI hR]
      rfl
  · rw [if_neg c, if_neg c, most_cls hn h61 hI hR]
    rfl
theorem ans_ref {M : MM} {n : Nat} {B : DPT} {x : Int32} (hn : n ≤ 8) (hx : x < 9999) (h90 : gI M 90 14 = nI n) (hI : dpI n B) (hR : RR M B) : bnd ((jshl 1 (gI M 90 14)) - 1) (fun v17 => (if (gI M 90 14) = 0 then fX12_round_j74 M x v17 0 else fX12_round_j74 M x v17 9999)) = some (rndA x B n, M) := by
  have hp := p8 hn
  have hp0 : 0 < 2 ^ n := Nat.pow_pos (by decide)
  rw [h90, shl_nI (by omega), bnd_r, nl1, pk_sub (by omega)]
  by_cases z : n = 0
  · subst z
    rw [if_pos (show nI 0 = 0 from rfl)]
    unfold fX12_round_j74
    show fX12_round_l83 _ (4999 + 1) M x (nI (2 ^ 0 - 1)) 0 0 8 = _
    rw [fX12_round_l83.eq_2, h90, if_pos (by decide)]
    unfold rndA
    by_cases c : x = -1
    · rw [if_pos c, if_pos c, if_neg (by decide), if_pos rfl]
    · rw [if_neg c, if_neg c]
      rfl
  · rw [nl0, eqn_f z (by omega) (by decide)]
    unfold fX12_round_j74
    rw [nl8, loop_ref hn (by omega) hx h90 hI hR]
    unfold rndA
    by_cases c : x = -1
    · have tl := mnR_tail (s := 2 ^ n - 1) hI (8 - n) (by omega)
      rw [show n + (8 - n) = 8 by omega] at tl
      rw [if_pos c, if_pos c, if_neg z, tl]
      have hm := mnR_bd (s := 2 ^ n - 1) hI n
      cases e : mnR B (2 ^ n - 1) n with
      | none => rw [if_pos (show r9 none = 9999 from rfl)]; rfl
      | some v =>
        have := hm v e
        rw [show r9 (some v) = nI v from rfl, nl9999, eqn_f (by omega) (by omega) (by decide)]
        rfl
    · rw [if_neg c, if_neg c]
theorem e21 : E21 Inv := by
  intro K M x1 x2 x3 hI
  refine p_case (v := -2) hI (C := fX11_round M x1 x2 x3) (R := fun M1 => fX12_round M1 x1 x2 x3) rfl (fun _ => rfl) ?_
  intro T j hW hC hM hB hj e
  have hP := hW.2.2.2.1 j hj
  have hcp := hC.2.2.2.2.2.1 j hj
  have h64 : pW (tPar T j) * pH (tPar T j) ≤ 64 := wh_64 (scn_SW hP)
  have hw : 0 < pW (tPar T j) := by have := hP.1.1; omega
  rcases rng x2 (n := pW (tPar T j) * pH (tPar T j)) (by omega) with h | ⟨a, ha, rfl⟩
  · refine ⟨-2, M, by rw [hasSquare_no hcp.1 hcp.2.1 h, if_pos rfl], Fr.rfl, hB, fun M3 _ hS => ⟨M3, ?_, Fr.rfl⟩⟩
    rw [isSquare_no hS h, bd_s, if_pos rfl]
  · rw [hasSquare_yes hcp.1 hcp.2.1 (by omega) ha, if_neg i10]
    have hqa : inP (pW (tPar T j)) (pH (tPar T j)) (sq8 (pW (tPar T j)) a) := sq8_inP hw hP.1.2 ha
    have la := inP_64 hP.2.1.2 hqa
    have eca : sqC (pW (tPar T j)) (sq8 (pW (tPar T j)) a) = a := sqC_sq8 hw hP.1.2
    have insA : ∀ M3, MS M3 (610 + 124 * j) (tPar T j) (scnOf (tPar T j)) → fX12_inside M3 (nI a) = some (nI (sq8 (pW (tPar T j)) a)) := fun M3 hS => inside_spec hS (by omega)
    rw [gd_inb (by omega) (by decide), ix_nI (by omega), told_cell hC hW hj ha]
    by_cases za : pWa (tPar T j) (sq8 (pW (tPar T j)) a) = true
    · refine ⟨-2, M, by rw [if_pos za], Fr.rfl, hB, fun M3 _ hS => ⟨M3, ?_, Fr.rfl⟩⟩
      rw [isSquare_yes hS ha, bd_s, if_neg i10, insA M3 hS, bd_s, isWall_ref hS la, bd_s, if_pos za, if_neg i10]
    · rw [if_neg za]
      by_cases c1 : x3 < -1
      · refine ⟨-2, M, by rw [if_pos c1], Fr.rfl, hB, fun M3 _ hS => ⟨M3, ?_, Fr.rfl⟩⟩
        rw [isSquare_yes hS ha, bd_s, if_neg i10, insA M3 hS, bd_s, isWall_ref hS la, bd_s, if_neg za, if_pos rfl, isIn_f (Or.inl c1), if_pos rfl]
      · rw [if_neg c1]
        by_cases c2 : x3 ≤ 99
        · have hx : x3 < 9999 := by
            rw [nl9999, lt_toInt (by decide)]
            rw [Int32.le_iff_toInt_le, show (99 : Int32).toInt = 99 by decide] at c2
            omega
          have c3 : ¬ (99 : Int32) < x3 := by
            rw [Int32.lt_iff_toInt_lt]
            rw [Int32.le_iff_toInt_le] at c2
            omega
          obtain ⟨D, hD, eD⟩ := dPP_D hP
          obtain ⟨M1, a1, a2, a3, a4, -⟩ := par_beg hW hC hB hj
          obtain ⟨M2, d1, d2, d3⟩ := tour_cls hP a3 hD eD hqa
          rw [eca] at d1
          have hn := hP.2.2.2.1
          have hI0 := dp0_I (n := pS (tPar T j)) (d0 := fun y => wlk (tPar T j) (sq8 (pW (tPar T j)) a) (pSh (tPar T j) y 1)) (fun y v e => wlk_le hP hqa e)
          have hIA := dpA_I hn hD hI0 (8 * (2 ^ pS (tPar T j) - 1))
          have h61 : gI M2 61 3 = nI (pS (tPar T j)) := (BS_fr a3 d2 (by decide)).1.2.2.2.2.2.1
          rw [if_pos c2, a1, bd_s, d1, bd_s, ans_cls hn h61 hIA d3]
          refine ⟨_, M2, rfl, a2.trans (d2.mono (by decide)), BN_fr a4 d2 (by decide) (by decide), fun M3 _ hS => ?_⟩
          obtain ⟨M4, r1, r2, r3⟩ := rnd_ref hP hS hD eD hqa
          refine ⟨M4, ?_, r2.mono (by decide)⟩
          have h90 : gI M4 90 14 = nI (pS (tPar T j)) := (MS_fr hS r2 (by decide)).2.2.2.2.2.2.2.2.1
          rw [isSquare_yes hS ha, bd_s, if_neg i10, insA M3 hS, bd_s, isWall_ref hS la, bd_s, if_neg za, if_pos rfl, isIn_t c1 c3, if_neg i10, bd_s, r1, bd_s]
          exact ans_ref hn hx h90 hIA r3
        · have c3 : (99 : Int32) < x3 := by
            rw [Int32.lt_iff_toInt_lt]
            rw [Int32.le_iff_toInt_le] at c2
            omega
          refine ⟨-2, M, by rw [if_neg c2], Fr.rfl, hB, fun M3 _ hS => ⟨M3, ?_, Fr.rfl⟩⟩
          rw [isSquare_yes hS ha, bd_s, if_neg i10, insA M3 hS, bd_s, isWall_ref hS la, bd_s, if_neg za, if_pos rfl, isIn_f (Or.inr c3), if_pos rfl]
