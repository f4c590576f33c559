/-! ===== stop, state ===== -/
theorem told_eve {M : MM} {T : TOLD} (hC : CT M 1 T) (hW : TW T) {k : Nat} (hk : k < tNum T 2) : CE M (1 + (16 + 16 * k)) (tEve T k).1 (tEve T k).2 := by
  have h2 := num_lt hW (s := 2) (by decide)
  have hb := hW.2.2.2.2.2.1 k hk
  have hc := hC.2.2.2.2.2.2.2.1 k hk
  exact ⟨by omega, hb.1, hc.1, hc.2, fun i hi => ⟨(hb.2 i hi).1, (hb.2 i hi).2.2⟩⟩
/-- a call on a parish, a law, an evening -/
theorem ple_case {K : SK} {M : MM} {v x1 x2 x3 : Int32} {F : Nat → Nat → Nat → Option (Int32 × MM)} {G : Int32 × MM → Option (Int32 × MM)} {C : Option (Int32 × MM)} {R : MM → Option (Int32 × MM)} (hI : Inv K M)
    (hC : C = (fX9_parishAt M x1).bind (fun p1 => (fX9_lawAt M x2).bind (fun p3 => (fX9_eveningAt M x3).bind (fun p5 => match p1 with
      | none => some (v, M)
      | some a6 => match p3 with
        | none => some (v, M)
        | some a9 => match p5 with
          | none => some (v, M)
          | some a12 => F a6 a9 a12))))
    (hR : ∀ M1, R M1 = (fX12_areTold M1 x1 x2).bind (fun p1 => if p1.1 = 0 then some (v, p1.2) else (fX12_isEvening p1.2 x3).bind (fun p4 => if p4.1 = 0 then some (v, p4.2) else G p4)))
    (good : ∀ (T : TOLD) (j l k : Nat), TW T → CT M 1 T → MT M 0 T → BN M → j < tNum T 0 → l < tNum T 1 → k < tNum T 2 → ∃ r M1, F (1 + (6 + 16 * j)) (1 + (15 + 16 * l)) (1 + (16 + 16 * k)) = some (r, M1) ∧ Fr cL M M1 ∧ BN M1 ∧ ∀ M3, Fr rL M1 M3 → MS M3 (610 + 124 * j) (tPar T j) (scnOf (tPar T j)) → ML M3 (858 + 6 * l) (tLaw T l) (tLaw T l 0) → ME M3 (870 + 121 * k) (tEve T k).1 (tEve T k).2 → ∃ M2, G (1, M3) = some (r, M2) ∧ Fr rL M3 M2) :
    ∃ (r : Int32) (M1 M2 : MM), C = some (r, M1) ∧ R M1 = some (r, M2) ∧ Inv K M2 := by
  obtain ⟨hK, T, I, hW, hCT, hM, hB, hIm⟩ := id hI
  have law_ok : ∃ p3, fX9_lawAt M x2 = some p3 := by
    rcases num_cases hW (s := 1) (by decide) x2 with h2 | ⟨l, hl, -, rfl⟩
    · exact ⟨_, lawAt_no hCT hW h2⟩
    · exact ⟨_, lawAt_yes hCT hW hl⟩
  have eve_ok : ∃ p5, fX9_eveningAt M x3 = some p5 := by
    rcases num_cases hW (s := 2) (by decide) x3 with h2 | ⟨l, hl, -, rfl⟩
    · exact ⟨_, eveningAt_no hCT hW h2⟩
    · exact ⟨_, eveningAt_yes hCT hW hl⟩
  obtain ⟨p3, e3⟩ := law_ok
  obtain ⟨p5, e5⟩ := eve_ok
  rw [hC]
  rcases num_cases hW (s := 0) (by decide) x1 with h1 | ⟨j, hj, -, rfl⟩
  · obtain ⟨M2, a1, a2⟩ := told_no hM hW (x2 := x2) (Or.inl h1)
    refine ⟨v, M, M2, ?_, by rw [hR, a1]; rfl, inv_two hI Fr.rfl a2 hB⟩
    rw [parishAt_no hCT hW h1, e3, e5]; rfl
  · rcases num_cases hW (s := 1) (by decide) x2 with h2 | ⟨l, hl, -, rfl⟩
    · obtain ⟨M2, a1, a2⟩ := told_no hM hW (x1 := nI j) (Or.inr h2)
      refine ⟨v, M, M2, ?_, by rw [hR, a1]; rfl, inv_two hI Fr.rfl a2 hB⟩
      rw [parishAt_yes hCT hW hj, lawAt_no hCT hW h2, e5]; rfl
    · rcases num_cases hW (s := 2) (by decide) x3 with h2 | ⟨k, hk, hk2, rfl⟩
      · obtain ⟨M3, c1, c2, c3, c4⟩ := told_ref hM hW hj hl
        refine ⟨v, M, M3, ?_, ?_, inv_two hI Fr.rfl c2 hB⟩
        · rw [parishAt_yes hCT hW hj, lawAt_yes hCT hW hl, eveningAt_no hCT hW h2]; rfl
        · rw [hR, c1, bd_s, if_neg i10, isEvening_no (fr_MT hW hM c2 (by decide)) hW h2]; rfl
      · obtain ⟨r, M1, b1, b2, b3, b4⟩ := good T j l k hW hCT hM hB hj hl hk
        obtain ⟨M3, c1, c2, c3, c4⟩ := told_ref (fr_MT hW hM b2 (by decide)) hW hj hl
        have hM3 : MT M3 0 T := fr_MT hW (fr_MT hW hM b2 (by decide)) c2 (by decide)
        have f4 : Fr rL M3 (sI M3 90 31 (nI (870 + 121 * k))) := Fr.rfl.pI (by decide)
        have g90 : ∀ i, i ≠ 31 → gI (sI M3 90 31 (nI (870 + 121 * k))) 90 i = gI M3 90 i := fun i h => gI_nk _ _ _ _ _ _ h
        have g91 : ∀ i, gI (sI M3 90 31 (nI (870 + 121 * k))) 91 i = gI M3 91 i := fun i => gI_ne _ _ _ _ _ _ (by decide)
        have hb := hW.2.2.2.2.2.1 k hk
        have hm := hM3.2.2.2.2.2.2.2.1 k hk
        rw [Nat.zero_add] at hm
        have hE : ME (sI M3 90 31 (nI (870 + 121 * k))) (870 + 121 * k) (tEve T k).1 (tEve T k).2 := ⟨gI_eq _ _ _ _, by omega, hb.1, by rw [g91]; exact hm.1, fun i hi c hc => by rw [g91]; exact hm.2 i hi c hc, fun i hi => ⟨(hb.2 i hi).1, (hb.2 i hi).2.2⟩⟩
        obtain ⟨M2, d1, d2⟩ := b4 _ (c2.trans f4) (MS_gen c3 (fun i hi => g90 i (by omega)) (fun c i hc => gI_ne _ _ _ _ _ _ (by omega))) (ML_gen c4 (g90 _ (by decide)) (g90 _ (by decide)) g91) hE
        refine ⟨r, M1, M2, ?_, ?_, inv_two hI b2 ((c2.trans f4).trans d2) b3⟩
        · rw [parishAt_yes hCT hW hj, lawAt_yes hCT hW hl, eveningAt_yes hCT hW hk]
          exact b1
        · rw [hR, c1, bd_s, if_neg i10, isEvening_yes hM3 hW hk, bd_s, if_neg i10]
          exact d1
theorem PC_BN {M : MM} {a : Nat} {L : Nat → Nat} {X : PLS} (h : PC M a L X) : BN M := NX_BN h.1.1.1.1 h.1.1.1.2.1 h.1.1.2.1
theorem runs_ref {M : MM} {o l0 e : Nat} {P : PARD} {S : SCN} {L : Nat → Nat} {D : Nat} {E : Nat → Nat → Int32} (hM : MS M o P S) (hL : ML M l0 L (L 0)) (hE : ME M e D E) (hX : PX (S, 0, fun _ => 0, fun _ => 0)) {n N : Nat} (hn : n < 2 ^ 31) (hN : N = if n < D then n else D) : ∃ M2, fX12_runs M (nI n) = some M2 ∧ Fr rL M M2 ∧ gI M2 90 32 = nI (runS L E (S, 0, fun _ => 0, fun _ => 0) N).1 ∧ PM M2 o P l0 L (runS L E (S, 0, fun _ => 0, fun _ => 0) N).2 := by
  obtain ⟨M1, a1, a2, a3, a4, a5⟩ := begins_ref hM hL
  obtain ⟨M2, ⟨b1, b2, b3⟩, b4⟩ := run_ref a5 hX (ME_gen hE (a3 31 (by decide) (by decide)) (fun k => a2.gi (by decide) k)) a4 hn hN
  refine ⟨M2, ?_, (a2.mono (by decide)).trans b1, b2, b3⟩
  unfold fX12_runs
  rw [a1, bd_s]
  exact b4 ()
theorem e12 : E12 Inv := by
  intro K M x1 x2 x3 hI
  refine ple_case (v := -1) hI (C := fX11_stop M x1 x2 x3) (R := fun M1 => fX12_stop M1 x1 x2 x3) rfl (fun _ => rfl) ?_
  intro T j l k hW hC hM hB hj hl hk
  have hP := hW.2.2.2.1 j hj
  obtain ⟨M1, a1, a2, a3⟩ := play_beg hW hC hB hj hl
  have hE := CE_fr (told_eve hC hW hk) a2 (by decide)
  obtain ⟨M2, b1, b2, b3⟩ := perform_cls a3 (pl0_PX hP) hE (Nat.le_refl _)
  refine ⟨nI (runS (tLaw T l) (tEve T k).2 (pl0 (tPar T j)) (tEve T k).1).1, M2, ?_, a2.trans (b2.mono (by decide)), PC_BN b3, fun M3 _ hS hL hE3 => ?_⟩
  · rw [a1, bd_s, hE.2.2.1, b1, bd_s]
  · have hD := hE3.2.2.1
    obtain ⟨M4, d1, d2, d3, d4⟩ := runs_ref hS hL hE3 (pl0_PX hP) (n := 40) (N := (tEve T k).1) (by decide) (by split <;> omega)
    refine ⟨M4, ?_, d2⟩
    rw [show (40 : Int32) = nI 40 from rfl, d1, bd_s, d3]
    rfl
theorem e13 : E13 Inv := by
  intro K M x1 x2 x3 x4 x5 hI
  refine ple_case (v := -2) hI (C := fX11_state M x1 x2 x3 x4 x5) (R := fun M1 => fX12_state M1 x1 x2 x3 x4 x5) rfl (fun _ => rfl) ?_
  intro T j l k hW hC hM hB hj hl hk
  have hP := hW.2.2.2.1 j hj
  have hE0 := told_eve hC hW hk
  have hD := hE0.2.1
  by_cases h0 : x4 < 0
  · refine ⟨-2, M, by rw [if_pos h0], Fr.rfl, hB, fun M3 _ _ _ _ => ⟨M3, ?_, Fr.rfl⟩⟩
    rw [if_neg]
    intro z
    rw [Int32.le_iff_toInt_le] at z
    have := lt0_toInt.mp h0
    have e : (0 : Int32).toInt = 0 := by decide
    omega
  · rw [if_neg h0]
    obtain ⟨n, hn, rfl⟩ : ∃ n : Nat, n < 2 ^ 31 ∧ x4 = nI n := by
      have h1 : 0 ≤ x4.toInt := by
        rcases Int.lt_or_le x4.toInt 0 with z | z
        · exact absurd (lt0_toInt.mpr z) h0
        · exact z
      have h2 : x4.toInt < 2 ^ 31 := Int32.toInt_lt x4
      exact ⟨x4.toInt.toNat, by omega, (eq_toInt (by omega)).mpr (by omega)⟩
    have hr : (0 : Int32) ≤ nI n := nI_pos' hn
    rcases Nat.lt_or_ge (tEve T k).1 n with c | c
    · refine ⟨-2, M, by rw [hE0.2.2.1, le_f c hn], Fr.rfl, hB, fun M3 _ hS hL hE3 => ?_⟩
      obtain ⟨M4, d1, d2, d3, d4⟩ := runs_ref hS hL hE3 (pl0_PX hP) (n := n) (N := (tEve T k).1) hn (by rw [if_neg (by omega)])
      have hle := runS_le (tLaw T l) (tEve T k).2 (pl0 (tPar T j)) (tEve T k).1
      refine ⟨M4, ?_, d2⟩
      rw [if_pos hr, d1, bd_s, d3]
      exact eqn_f (by
        have hle : (runS (tLaw T l) (tEve T k).2 (scnOf (tPar T j), 0, fun _ => 0, fun _ => 0) (tEve T k).1).1 ≤ (tEve T k).1 := hle
        omega) (by
        have hle : (runS (tLaw T l) (tEve T k).2 (scnOf (tPar T j), 0, fun _ => 0, fun _ => 0) (tEve T k).1).1 ≤ (tEve T k).1 := hle
        omega) hn
    · obtain ⟨M1, a1, a2, a3⟩ := play_beg hW hC hB hj hl
      have hE := CE_fr hE0 a2 (by decide)
      obtain ⟨M2, b1, b2, b3⟩ := perform_cls a3 (pl0_PX hP) hE c
      have hle := runS_le (tLaw T l) (tEve T k).2 (pl0 (tPar T j)) n
      have hPX := run_PX (L := tLaw T l) (E := (tEve T k).2) (pl0_PX hP) n (fun i hi => hE.2.2.2.2 i (by omega))
      rw [hE0.2.2.1, le_t c (by omega), a1, bd_s, b1, bd_s]
      have ref : ∀ M3, MS M3 (610 + 124 * j) (tPar T j) (scnOf (tPar T j)) → ML M3 (858 + 6 * l) (tLaw T l) (tLaw T l 0) → ME M3 (870 + 121 * k) (tEve T k).1 (tEve T k).2 → ∃ M2, fX12_runs M3 (nI n) = some M2 ∧ Fr rL M3 M2 ∧ gI M2 90 32 = nI (runS (tLaw T l) (tEve T k).2 (pl0 (tPar T j)) n).1 ∧ PM M2 (610 + 124 * j) (tPar T j) (858 + 6 * l) (tLaw T l) (runS (tLaw T l) (tEve T k).2 (pl0 (tPar T j)) n).2 := fun M3 hS hL hE3 =>
        runs_ref hS hL hE3 (pl0_PX hP) (n := n) (N := n) hn (by split <;> omega)
      generalize hrun : runS (tLaw T l) (tEve T k).2 (pl0 (tPar T j)) n = rr at *
      by_cases q : rr.1 = n
      · obtain ⟨v, ⟨M5, f1, f2⟩, f3⟩ := tell_both (o := 610 + 124 * j) (P := tPar T j) (l0 := 858 + 6 * l) b3 hPX x5
        refine ⟨v, M5, ?_, (a2.trans (b2.mono (by decide))).trans (f2.mono (by decide)), BN_fr (PC_BN b3) f2 (by decide) (by decide), fun M3 _ hS hL hE3 => ?_⟩
        · show (if nI n ≤ nI rr.1 then _ else _) = _
          rw [le_t (by omega) (by omega)]
          show ((fX6_tell M2 _ x5).bind _) = _
          rw [f1]
          rfl
        · obtain ⟨M4, d1, d2, d3, d4⟩ := ref M3 hS hL hE3
          obtain ⟨M6, g1, g2⟩ := f3 M4 d4
          refine ⟨M6, ?_, d2.trans (g2.mono (by decide))⟩
          rw [if_pos hr, d1, bd_s, d3, eqn_t q, g1]
          rfl
      · refine ⟨-2, M2, ?_, a2.trans (b2.mono (by decide)), PC_BN b3, fun M3 _ hS hL hE3 => ?_⟩
        · show (if nI n ≤ nI rr.1 then _ else _) = _
          rw [le_f (by omega) hn]
        · obtain ⟨M4, d1, d2, d3, d4⟩ := ref M3 hS hL hE3
          refine ⟨M4, ?_, d2⟩
          rw [if_pos hr, d1, bd_s, d3]
          exact eqn_f q (by omega) hn
