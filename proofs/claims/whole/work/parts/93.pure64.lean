/-! ===== text: lines of the reference ===== -/
def WR2 (M M2 : MM) : Prop := Fr [90, 91, 93] M M2 ∧ ∀ k, k ≠ 5 → k ≠ 6 → gI M2 91 k = gI M 91 k
theorem WR2.rfl {M : MM} : WR2 M M := ⟨Fr.rfl, fun _ _ _ => Eq.refl _⟩
theorem WR2.trans {M M1 M2 : MM} (h : WR2 M M1) (h2 : WR2 M1 M2) : WR2 M M2 := ⟨h.1.trans h2.1, fun k h3 h4 => (h2.2 k h3 h4).trans (h.2 k h3 h4)⟩
theorem WR.two {M M2 : MM} (h : WR M M2) : WR2 M M2 := ⟨h.1.mono (by decide), h.2.2⟩
theorem WR2.p93 {M M2 : MM} {k : Nat} {v : Int32} (h : WR2 M M2) : WR2 M (sI M2 93 k v) := ⟨h.1.pI (by decide), fun j h1 h2 => by rw [gI_ne _ _ _ _ _ _ (by decide)]; exact h.2 j h1 h2⟩
theorem WR.g93 {M M2 : MM} (h : WR M M2) (k : Nat) : gI M2 93 k = gI M 93 k := h.1.gi (by decide) k
theorem RS_93 {M : MM} {tp : Nat → Nat} {len k : Nat} {v : Int32} {σ : RST} (h : RSm M tp len σ) : RSm (sI M 93 k v) tp len σ := by
  obtain ⟨a1, a2, a3, a4, a5, a6, a7⟩ := h
  exact ⟨⟨by rw [gI_ne _ _ _ _ _ _ (by decide)]; exact a1.1, a1.2.1, fun i hi => by rw [gI_ne _ _ _ _ _ _ (by decide)]; exact a1.2.2 i hi⟩, TKm_eq a2 (fun k _ _ => by rw [gI_ne _ _ _ _ _ _ (by decide)]), a3, by rw [gI_ne _ _ _ _ _ _ (by decide)]; exact a4, by rw [gI_ne _ _ _ _ _ _ (by decide)]; exact a5, by rw [gI_ne _ _ _ _ _ _ (by decide)]; exact a6, a7⟩
theorem numK_RS {M : MM} {tp : Nat → Nat} {len w k : Nat} {σ : RST} (hw : w < 20) (hk : k < 5) (h : RSm M tp len (stK tp len w k σ)) (hp : PLC σ.1 σ) : ∃ M2, fX12_numbered M (nI (bnL w k)) (nI (bnG w k)) = some (nI (vlK tp len w k σ), M2) ∧ WR M M2 ∧ RSm M2 tp len (stK tp len w (k + 1) σ) := by
  obtain ⟨b1, b2⟩ := bn_20 w hw k hk
  exact num_RS h (PLC_st hp k) (by omega) (by omega)
theorem lnS_w {tp : Nat → Nat} {len x w : Nat} {D : DRF} {σ : RST} (hk : wdK tp len x σ.1) (hw : wcT tp len σ.1 = w + 1) : lnS tp len x D σ = endF tp len (ln3 tp len D w σ) := by
  unfold lnS; rw [if_pos hk, hw, Nat.add_sub_cancel]
theorem lnD_w {tp : Nat → Nat} {len x w : Nat} {D : DRF} {σ : RST} (hw : wcT tp len σ.1 = w + 1) (h0 : (lnS tp len x D σ).2.1 = 0) : lnD tp len x D σ = kpD w (fun k => vlK tp len w k (ln1 tp len D w σ)) (wcT tp len (ln2 tp len D w σ).1 - 4) D := by
  unfold lnD; rw [if_pos h0, hw, Nat.add_sub_cancel]
theorem lnS_no {tp : Nat → Nat} {len x : Nat} {D : DRF} {σ : RST} (hk : ¬ wdK tp len x σ.1) : lnS tp len x D σ = rfF σ := by unfold lnS; rw [if_neg hk]
theorem ln1_nf {tp : Nat → Nat} {len w : Nat} {D : DRF} {σ : RST} (h : fulD D w = false) : ln1 tp len D w σ = mvF tp len σ := by unfold ln1 ln0; rw [h, if_neg Bool.false_ne_true]
theorem ln3_n {tp : Nat → Nat} {len w : Nat} {D : DRF} {σ : RST} (h : w ≠ 12) : ln3 tp len D w σ = stK tp len w (nmN w) (ln1 tp len D w σ) := by unfold ln3; rw [if_neg h]; rfl
theorem end_1 {tp : Nat → Nat} {len : Nat} {σ : RST} (h : σ.2.1 = 1) : endF tp len σ = σ := by unfold endF; rw [if_pos h]
theorem ful_law (D : DRF) {w : Nat} (h : w = 0 ∨ w = 1 ∨ (7 ≤ w ∧ w ≤ 12) ∨ 18 ≤ w) : fulD D w = false := by
  unfold fulD
  rw [if_neg (by omega), if_neg (by omega), if_neg (by omega)]
theorem law_num {M : MM} {tp : Nat → Nat} {len w i : Nat} {D : DRF} {σ : RST} (hw7 : 7 ≤ w) (hw10 : w ≤ 10) (hw : wcT tp len σ.1 = w + 1) (hk : wdK tp len 1 σ.1) (hp : PLC σ.1 σ) (h : RSm M tp len (mvF tp len σ)) :
    ∃ M2, (fX12_numbered M (nI (bnL w 0)) (nI (bnG w 0))).bind (fun p4 => bnd (sI p4.2 93 i p4.1) (fun M6 => fX12_lawLine_j153 M6)) = some M2 ∧ WR2 M M2 ∧ RSm M2 tp len (lnS tp len 1 D σ) ∧ ∀ j, gI M2 93 j = if j = i then nI (vlK tp len w 0 (ln1 tp len D w σ)) else gI M 93 j := by
  have hl1 : ln1 tp len D w σ = mvF tp len σ := ln1_nf (ful_law D (by omega))
  have hn : nmN w = 1 := by rcases (show w = 7 ∨ w = 8 ∨ w = 9 ∨ w = 10 by omega) with rfl | rfl | rfl | rfl <;> rfl
  obtain ⟨M1, n1, n2, n3⟩ := numK_RS (w := w) (k := 0) (σ := mvF tp len σ) (by omega) (by decide) h (PLC_mv (PLC_ge hp nxT_ge))
  obtain ⟨M2, e1, e2, e3⟩ := eline_RS (RS_93 (k := i) (v := nI (vlK tp len w 0 (mvF tp len σ))) n3)
  rw [lnS_w hk hw, ln3_n (by omega), hn, hl1]
  refine ⟨M2, ?_, (n2.two.p93).trans e2.two, e3, fun j => ?_⟩
  · rw [n1, bd_s, bnd_r]
    unfold fX12_lawLine_j153
    show (fX12_endsLine (sI M1 93 i (nI (vlK tp len w 0 (mvF tp len σ))))).bind (fun p9 => some p9) = _
    rw [e1]; rfl
  · rw [e2.g93]
    by_cases c : j = i
    · rw [if_pos c, c, gI_eq]
    · rw [if_neg c, gI_nk _ _ _ _ _ _ c]; exact n2.g93 j
theorem lawL_RS {M : MM} {tp : Nat → Nat} {len : Nat} {D : DRF} {σ : RST} (h : RSm M tp len σ) (h1 : σ.2.1 ≠ 1) (hp : PLC σ.1 σ) (hD : σ.2.1 = 0 → ∀ j, j < 6 → gI M 93 j = nI (D.2.1 j)) :
    ∃ M2, fX12_lawLine M = some M2 ∧ WR2 M M2 ∧ RSm M2 tp len (lnS tp len 1 D σ) ∧ ((lnS tp len 1 D σ).2.1 = 0 → ∀ j, j < 6 → gI M2 93 j = nI ((lnD tp len 1 D σ).2.1 j)) := by
  obtain ⟨Ma, t0, t⟩ := takes_RS (a := 8) (b := 13) h h1 (by decide) (by decide)
  unfold fX12_lawLine
  rw [show (8 : Int32) = nI 8 from rfl, show (13 : Int32) = nI 13 from rfl]
  rcases t with ⟨t1, t2, t3⟩ | ⟨t1, t2, t3⟩
  · have hk : wdK tp len 1 σ.1 := t2
    obtain ⟨-, q1, q2⟩ := t2
    rw [t1, bd_s]
    show ∃ M2, (if nI (wcT tp len σ.1) = nI 8 then _ else _) = _ ∧ _
    have fin : ∀ (w i : Nat) (M2 : MM), 7 ≤ w → w ≤ 10 → wcT tp len σ.1 = w + 1 → (∀ j, gI M2 93 j = if j = i then nI (vlK tp len w 0 (ln1 tp len D w σ)) else gI Ma 93 j) → (∀ v : Nat → Nat, ∀ kd j, kpL w v kd D.2.1 j = if j = i then v 0 else D.2.1 j) → (lnS tp len 1 D σ).2.1 = 0 → ∀ j, j < 6 → gI M2 93 j = nI ((lnD tp len 1 D σ).2.1 j) := fun w i M2 h7 h10 hw hg hkp h0 j hj => by
      have h00 := (lnS_0 h0).2.2.1
      rw [lnD_w hw h0]
      unfold kpD
      rw [if_neg (by omega), if_pos (by omega)]
      show _ = nI (kpL w (fun k => vlK tp len w k (ln1 tp len D w σ)) (wcT tp len (ln2 tp len D w σ).1 - 4) D.2.1 j)
      rw [hkp, hg]
      by_cases c : j = i
      · rw [if_pos c, if_pos c]
      · rw [if_neg c, if_neg c, t0.g93]; exact hD h00 j hj
    by_cases c8 : wcT tp len σ.1 = 8
    · rw [eqn_t c8]
      obtain ⟨M2, m1, m2, m3, m4⟩ := law_num (w := 7) (i := 0) (D := D) (by decide) (by decide) c8 hk hp t3
      exact ⟨M2, m1, t0.two.trans m2, m3, fin 7 0 M2 (by decide) (by decide) c8 m4 (fun v kd j => rfl)⟩
    · rw [eqn_f c8 (by omega) (by decide), show (9 : Int32) = nI 9 from rfl]
      by_cases c9 : wcT tp len σ.1 = 9
      · rw [eqn_t c9]
        obtain ⟨M2, m1, m2, m3, m4⟩ := law_num (w := 8) (i := 3) (D := D) (by decide) (by decide) c9 hk hp t3
        exact ⟨M2, m1, t0.two.trans m2, m3, fin 8 3 M2 (by decide) (by decide) c9 m4 (fun v kd j => rfl)⟩
      · rw [eqn_f c9 (by omega) (by decide), show (10 : Int32) = nI 10 from rfl]
        by_cases c10 : wcT tp len σ.1 = 10
        · rw [eqn_t c10]
          obtain ⟨M2, m1, m2, m3, m4⟩ := law_num (w := 9) (i := 4) (D := D) (by decide) (by decide) c10 hk hp t3
          exact ⟨M2, m1, t0.two.trans m2, m3, fin 9 4 M2 (by decide) (by decide) c10 m4 (fun v kd j => rfl)⟩
        · rw [eqn_f c10 (by omega) (by decide), show (11 : Int32) = nI 11 from rfl]
          by_cases c11 : wcT tp len σ.1 = 11
          · rw [eqn_t c11]
            obtain ⟨M2, m1, m2, m3, m4⟩ := law_num (w := 10) (i := 5) (D := D) (by decide) (by decide) c11 hk hp t3
            exact ⟨M2, m1, t0.two.trans m2, m3, fin 10 5 M2 (by decide) (by decide) c11 m4 (fun v kd j => rfl)⟩
          · rw [eqn_f c11 (by omega) (by decide), show (12 : Int32) = nI 12 from rfl]
            by_cases c12 : wcT tp len σ.1 = 12
            · rw [eqn_t c12]
              obtain ⟨M2, e1, e2, e3⟩ := eline_RS (RS_93 (k := 1) (v := 0) t3)
              have hS : lnS tp len 1 D σ = endF tp len (mvF tp len σ) := by
                rw [lnS_w hk (w := 11) c12, ln3_n (by decide)]
                show endF tp len (ln1 tp len D 11 σ) = _
                rw [ln1_nf (ful_law D (by omega))]
              refine ⟨M2, ?_, t0.two.p93.trans e2.two, by rw [hS]; exact e3, fun h0 j hj => ?_⟩
              · rw [bnd_r]
                unfold fX12_lawLine_j153
                show (fX12_endsLine (sI Ma 93 1 0)).bind (fun p9 => some p9) = _
                rw [e1]; rfl
              · have h00 := (lnS_0 h0).2.2.1
                rw [lnD_w (w := 11) c12 h0]
                show _ = nI (if j = 1 then 0 else D.2.1 j)
                rw [e2.g93]
                by_cases c : j = 1
                · rw [if_pos c, c, gI_eq]; rfl
                · rw [if_neg c, gI_nk _ _ _ _ _ _ c, t0.g93]; exact hD h00 j hj
            · have c13 : wcT tp len σ.1 = 13 := by omega
              rw [eqn_f c12 (by omega) (by decide), eqn_t c13]
              have hl2 : ln2 tp len D 12 σ = mvF tp len σ := by
                show ln1 tp len D 12 σ = _
                rw [ln1_nf (ful_law D (by omega))]
              obtain ⟨Mb, b0, b⟩ := takes_RS (a := 4) (b := 7) t3 h1 (by decide) (by decide)
              rw [show (4 : Int32) = nI 4 from rfl, show (7 : Int32) = nI 7 from rfl]
              rcases b with ⟨b1, b2, b3⟩ | ⟨b1, b2, b3⟩
              · have hS : lnS tp len 1 D σ = endF tp len (mvF tp len (mvF tp len σ)) := by
                  rw [lnS_w hk (w := 12) c13]
                  unfold ln3
                  rw [if_pos rfl, hl2, if_pos b2]
                have hkd : wcT tp len (mvF tp len σ).1 - 4 < 31 := by have := b2.2.2; omega
                rw [b1, bd_s, bnd_r]
                show ∃ M2, (if gI Mb 90 8 = 0 then _ else _) = _ ∧ _
                rw [b3.2.2.2.2.2.1, if_neg (show ¬ (mvF tp len (mvF tp len σ)).2.1 = 1 from h1), if_pos rfl, pk_sub b2.2.1, shl_nI hkd, bnd_r]
                obtain ⟨M2, e1, e2, e3⟩ := eline_RS (RS_93 (k := 2) (v := gI Mb 93 (ix 2) ||| nI (2 ^ (wcT tp len (mvF tp len σ).1 - 4))) b3)
                refine ⟨M2, ?_, (t0.two.trans b0.two.p93).trans e2.two, by rw [hS]; exact e3, fun h0 j hj => ?_⟩
                · unfold fX12_lawLine_j153
                  show (fX12_endsLine (sI Mb 93 2 (gI Mb 93 (ix 2) ||| nI (2 ^ (wcT tp len (mvF tp len σ).1 - 4))))).bind (fun p9 => some p9) = _
                  rw [e1]; rfl
                · have h00 := (lnS_0 h0).2.2.1
                  rw [lnD_w (w := 12) c13 h0, hl2]
                  show _ = nI (if j = 2 then D.2.1 2 ||| 2 ^ (wcT tp len (mvF tp len σ).1 - 4) else D.2.1 j)
                  rw [e2.g93]
                  by_cases c : j = 2
                  · rw [if_pos c, c, gI_eq, show ix 2 = 2 by decide, b0.g93, t0.g93, hD h00 2 (by decide), or_nI]
                  · rw [if_neg c, gI_nk _ _ _ _ _ _ c, b0.g93, t0.g93]; exact hD h00 j hj
              · have hS : lnS tp len 1 D σ = rfF (mvF tp len σ) := by
                  rw [lnS_w hk (w := 12) c13]
                  unfold ln3
                  rw [if_pos rfl, hl2, if_neg b2, end_1 rfl]
                rw [b1, bd_s, bnd_r]
                show ∃ M2, (if gI Mb 90 8 = 0 then _ else _) = _ ∧ _
                rw [b3.2.2.2.2.2.1, if_pos (show (rfF (mvF tp len σ)).2.1 = 1 from rfl), if_neg i10]
                obtain ⟨M2, e1, e2, e3⟩ := eline_RS b3
                rw [end_1 (show (rfF (mvF tp len σ)).2.1 = 1 from rfl)] at e3
                refine ⟨M2, ?_, (t0.two.trans b0.two).trans e2.two, by rw [hS]; exact e3, fun h0 => ?_⟩
                · unfold fX12_lawLine_j153
                  show (fX12_endsLine Mb).bind (fun p9 => some p9) = _
                  rw [e1]; rfl
                · rw [hS] at h0; exact absurd (show (1 : Nat) = 0 from h0) (by decide)
  · have hk : ¬ wdK tp len 1 σ.1 := t2
    rw [t1, bd_s, lnS_no hk]
    obtain ⟨M2, e1, e2, e3⟩ := eline_RS t3
    rw [end_1 (show (rfF σ).2.1 = 1 from rfl)] at e3
    refine ⟨M2, ?_, t0.two.trans e2.two, e3, fun h0 => absurd (show (1 : Nat) = 0 from h0) (by decide)⟩
    rw [if_neg (show ¬ (0 : Int32) = nI 8 by decide), if_neg (show ¬ (0 : Int32) = 9 by decide), if_neg (show ¬ (0 : Int32) = 10 by decide), if_neg (show ¬ (0 : Int32) = 11 by decide), if_neg (show ¬ (0 : Int32) = 12 by decide), if_neg (show ¬ (0 : Int32) = nI 13 by decide)]
    unfold fX12_lawLine_j153
    show (fX12_endsLine Ma).bind (fun p9 => some p9) = _
    rw [e1]; rfl
/-- a sight's line -/
theorem sigL_RS {M : MM} {tp : Nat → Nat} {len : Nat} {D : DRF} {σ : RST} (h : RSm M tp len σ) (h1 : σ.2.1 ≠ 1) (hp : PLC σ.1 σ) (hD : σ.2.1 = 0 → ∀ j, j < 9 → gI M 93 j = nI (D.2.2.2 j)) :
    ∃ M2, fX12_sightLine M = some M2 ∧ WR2 M M2 ∧ RSm M2 tp len (lnS tp len 3 D σ) ∧ ((lnS tp len 3 D σ).2.1 = 0 → ∀ j, j < 9 → gI M2 93 j = nI ((lnD tp len 3 D σ).2.2.2 j)) := by
  obtain ⟨Ma, t0, t⟩ := takes_RS (a := 19) (b := 20) h h1 (by decide) (by decide)
  unfold fX12_sightLine
  rw [show (19 : Int32) = nI 19 from rfl, show (20 : Int32) = nI 20 from rfl]
  rcases t with ⟨t1, t2, t3⟩ | ⟨t1, t2, t3⟩
  · have hk : wdK tp len 3 σ.1 := t2
    obtain ⟨-, q1, q2⟩ := t2
    rw [t1, bd_s]
    show ∃ M2, (if nI (wcT tp len σ.1) = nI 20 then _ else _) = _ ∧ _
    by_cases c : wcT tp len σ.1 = 20
    · rw [eqn_t c]
      have hl1 : ln1 tp len D 19 σ = mvF tp len σ := ln1_nf (ful_law D (by omega))
      obtain ⟨M1, n1, n2, n3⟩ := numK_RS (w := 19) (k := 0) (σ := mvF tp len σ) (by decide) (by decide) t3 (PLC_mv (PLC_ge hp nxT_ge))
      obtain ⟨M2, e1, e2, e3⟩ := eline_RS (RS_93 (k := 0) (v := nI (vlK tp len 19 0 (mvF tp len σ))) n3)
      have hS : lnS tp len 3 D σ = endF tp len (stK tp len 19 (0 + 1) (mvF tp len σ)) := by
        rw [lnS_w hk (w := 19) c, ln3_n (by decide), hl1]; rfl
      refine ⟨M2, ?_, (t0.two.trans n2.two.p93).trans e2.two, by rw [hS]; exact e3, fun h0 j hj => ?_⟩
      · rw [show fX12_numbered Ma 0 9 = _ from n1, bd_s, bnd_r]
        unfold fX12_sightLine_j56
        show (fX12_endsLine (sI M1 93 0 (nI (vlK tp len 19 0 (mvF tp len σ))))).bind (fun p9 => some p9) = _
        rw [e1]; rfl
      · have h00 := (lnS_0 h0).2.2.1
        rw [lnD_w (w := 19) c h0, hl1]
        show _ = nI (if j = 0 then vlK tp len 19 0 (mvF tp len σ) else D.2.2.2 j)
        rw [e2.g93]
        by_cases z : j = 0
        · rw [if_pos z, z, gI_eq]
        · rw [if_neg z, gI_nk _ _ _ _ _ _ z, n2.g93, t0.g93]; exact hD h00 j hj
    · have c : wcT tp len σ.1 = 19 := by omega
      rw [eqn_f (by omega) (by omega) (by decide)]
      have hl1 : ln1 tp len D 18 σ = mvF tp len σ := ln1_nf (ful_law D (by omega))
      obtain ⟨M1, n1, n2, n3⟩ := numK_RS (w := 18) (k := 0) (σ := mvF tp len σ) (by decide) (by decide) t3 (PLC_mv (PLC_ge hp nxT_ge))
      obtain ⟨M1b, o1, o2, o3⟩ := numK_RS (w := 18) (k := 1) (σ := mvF tp len σ) (by decide) (by decide) n3 (PLC_mv (PLC_ge hp nxT_ge))
      have v7 : vlK tp len 18 0 (mvF tp len σ) ≤ 7 := (rdV_in (lo := 0) (hi := 7) (by decide)).2
      obtain ⟨M2, e1, e2, e3⟩ := eline_RS (RS_93 (k := 1 + vlK tp len 18 0 (mvF tp len σ)) (v := nI (1 + vlK tp len 18 1 (mvF tp len σ))) o3)
      have hS : lnS tp len 3 D σ = endF tp len (stK tp len 18 (1 + 1) (mvF tp len σ)) := by
        rw [lnS_w hk (w := 18) c, ln3_n (by decide), hl1]; rfl
      refine ⟨M2, ?_, (t0.two.trans (n2.two.trans o2.two.p93)).trans e2.two, by rw [hS]; exact e3, fun h0 j hj => ?_⟩
      · rw [show fX12_numbered Ma 0 7 = _ from n1, bd_s, show fX12_numbered M1 0 9 = _ from o1, bd_s]
        show gd (inb (1 + nI (vlK tp len 18 0 (mvF tp len σ))) 124) _ = _
        rw [nl1, nI_add, gd_inb (by omega) (by decide), bnd_r, ix_nI (by omega), nI_add]
        unfold fX12_sightLine_j56
        show (fX12_endsLine (sI M1b 93 (1 + vlK tp len 18 0 (mvF tp len σ)) (nI (1 + vlK tp len 18 1 (mvF tp len σ))))).bind (fun p9 => some p9) = _
        rw [e1]; rfl
      · have h00 := (lnS_0 h0).2.2.1
        rw [lnD_w (w := 18) c h0, hl1]
        show _ = nI (if j = 1 + vlK tp len 18 0 (mvF tp len σ) then 1 + vlK tp len 18 1 (mvF tp len σ) else D.2.2.2 j)
        rw [e2.g93]
        by_cases z : j = 1 + vlK tp len 18 0 (mvF tp len σ)
        · rw [if_pos z, z, gI_eq]
        · rw [if_neg z, gI_nk _ _ _ _ _ _ z, o2.g93, n2.g93, t0.g93]; exact hD h00 j hj
  · have hk : ¬ wdK tp len 3 σ.1 := t2
    rw [t1, bd_s, lnS_no hk]
    obtain ⟨M1, n1, n2, n3⟩ := num_RS (lo := 0) (hi := 7) t3 PLC_rf (by decide) (by decide)
    rw [rdS_1 (show (rfF σ).2.1 = 1 from rfl)] at n3
    have hv : rdV tp len 0 7 (rfF σ) = 0 := by unfold rdV; rw [if_pos (show (rfF σ).2.1 = 1 from rfl)]
    rw [hv] at n1
    obtain ⟨M1b, o1, o2, o3⟩ := num_RS (lo := 0) (hi := 9) n3 PLC_rf (by decide) (by decide)
    rw [rdS_1 (show (rfF σ).2.1 = 1 from rfl)] at o3
    obtain ⟨M2, e1, e2, e3⟩ := eline_RS (RS_93 (k := 1) (v := 1 + nI (rdV tp len 0 9 (rfF σ))) o3)
    rw [end_1 (show (rfF σ).2.1 = 1 from rfl)] at e3
    refine ⟨M2, ?_, (t0.two.trans (n2.two.trans o2.two.p93)).trans e2.two, e3, fun h0 => absurd (show (1 : Nat) = 0 from h0) (by decide)⟩
    show (if nI 0 = nI 20 then _ else _) = _
    rw [eqn_f (by decide) (by decide) (by decide), show fX12_numbered Ma 0 7 = _ from n1, bd_s, show fX12_numbered M1 0 9 = _ from o1, bd_s]
    show gd (inb (1 + nI 0) 124) _ = _
    rw [nl1, nI_add, gd_inb (by decide) (by decide), bnd_r]
    unfold fX12_sightLine_j56
    show (fX12_endsLine (sI M1b 93 1 (1 + nI (rdV tp len 0 9 (rfF σ))))).bind (fun p9 => some p9) = _
    rw [e1]; rfl
