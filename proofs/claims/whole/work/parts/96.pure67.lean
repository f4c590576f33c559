/-! ===== text: a shine's line of the reference ===== -/
theorem shiL_RS {M : MM} {tp : Nat → Nat} {len w : Nat} {D : DRF} {σ : RST} (h3 : 3 ≤ w) (h6 : w ≤ 6) (hlt : σ.1 < len) (h : RSm M tp len (mvF tp len σ)) (h1 : σ.2.1 ≠ 1) (hp : PLC σ.1 σ) (hG : GDP M) (hD : σ.2.1 = 0 → RDP M D.1) :
    ∃ M2, fX12_shineLine M (nI σ.1) (nI (w - 3)) = some M2 ∧ WR2 M M2 ∧ RSm M2 tp len (stK tp len w 5 (ln1 tp len D w σ)) ∧ GDP M2 ∧ ((stK tp len w 5 (ln1 tp len D w σ)).2.1 = 0 → RDP M2 (kpP w (fun k => vlK tp len w k (ln1 tp len D w σ)) D.1)) := by
  obtain ⟨a, b, a8, b8, ga, gb⟩ := hG
  have hfl : σ.2.1 = 0 → fulD D w = decide (8 ≤ b) := fun z => by
    obtain ⟨r0, -, -, -, r4, -⟩ := hD z
    have : pS D.1 = b := (nI_eq (by omega) (by omega)).mp (r4.symm.trans gb)
    unfold fulD
    rw [if_neg (by omega), if_pos ⟨h3, h6⟩, this]
  obtain ⟨Mb, b1, b2, b3, b4⟩ := ful_RS (w := w) (D := D) (b := decide (8 ≤ b)) h h1 (by omega) hp hfl
  have hpl := PLC_l1 (tp := tp) (w := w) (D := D) hlt hp
  obtain ⟨Mc, c1, c2, c3, ⟨c4, c5⟩, c6⟩ := sqT_RS (w := w) (by omega) h6 b4 hpl
  have hb : bnL w 2 = 0 ∧ bnG w 2 = 7 ∧ bnL w 3 = 1 ∧ bnG w 3 = 9 ∧ bnL w 4 = 0 ∧ bnG w 4 = 3 := by
    rcases (show w = 3 ∨ w = 4 ∨ w = 5 ∨ w = 6 by omega) with rfl | rfl | rfl | rfl <;> exact ⟨rfl, rfl, rfl, rfl, rfl, rfl⟩
  obtain ⟨Md, d1, d2, d3⟩ := numK_RS (w := w) (k := 2) (σ := ln1 tp len D w σ) (by omega) (by decide) c3 hpl
  obtain ⟨Me, e1, e2, e3⟩ := numK_RS (w := w) (k := 3) (σ := ln1 tp len D w σ) (by omega) (by decide) d3 hpl
  obtain ⟨Mf, f1, f2, f3⟩ := numK_RS (w := w) (k := 4) (σ := ln1 tp len D w σ) (by omega) (by decide) e3 hpl
  rw [hb.1, hb.2.1] at d1
  rw [hb.2.2.1, hb.2.2.2.1] at e1
  rw [hb.2.2.2.2.1, hb.2.2.2.2.2] at f1
  have hdf := d2.trans (e2.trans f2)
  have gdk : ∀ k, gI Mf 93 k = gI M 93 k := fun k => by rw [hdf.g93, c2.g93, b3.g93]
  have hj : ∀ y, fX12_shineLine_j27 Mb (nI (w - 3)) y = if y = 0 then some Mf else bnd (84 + (5 * (gI Mf 93 (ix 3)))) (fun v19 => gd (inb v19 124) (bnd (sI Mf 93 (ix v19) (nI (w - 3))) (fun M22 => gd (inb (v19 + 1) 124) (bnd (sI M22 93 (ix (v19 + 1)) (nI (8 * vlK tp len w 1 (ln1 tp len D w σ) + vlK tp len w 0 (ln1 tp len D w σ)))) (fun M25 => gd (inb (v19 + 2) 124) (bnd (sI M25 93 (ix (v19 + 2)) (nI (vlK tp len w 2 (ln1 tp len D w σ)))) (fun M28 => gd (inb (v19 + 3) 124) (bnd (sI M28 93 (ix (v19 + 3)) (nI (vlK tp len w 3 (ln1 tp len D w σ)))) (fun M31 => gd (inb (v19 + 4) 124) (bnd (sI M31 93 (ix (v19 + 4)) (nI (vlK tp len w 4 (ln1 tp len D w σ)))) (fun M34 => bnd (sI M34 93 (ix 3) ((gI M34 93 (ix 3)) + 1)) (fun M36 => some M36)))))))))))) := fun y => by
    unfold fX12_shineLine_j27
    rw [c1, bd_s]
    show (fX12_numbered Mc 0 7).bind _ = _
    rw [show fX12_numbered Mc 0 7 = _ from d1, bd_s]
    show (fX12_numbered Md 1 9).bind _ = _
    rw [show fX12_numbered Md 1 9 = _ from e1, bd_s]
    show (fX12_numbered Me 0 3).bind _ = _
    rw [show fX12_numbered Me 0 3 = _ from f1, bd_s]
  unfold fX12_shineLine fX12_shineLine_j16
  rw [ix3l, gb, nl8]
  by_cases c : 8 ≤ b
  · rw [le_t c (by omega), if_pos rfl, b1 (decide_eq_true c), bd_s, hj, if_pos rfl]
    refine ⟨Mf, rfl, b3.two.trans (c2.two.trans hdf.two), f3, ⟨a, b, a8, b8, by rw [gdk]; exact ga, by rw [gdk]; exact gb⟩, fun h0 => ?_⟩
    have y1 := (stK_0 _ h0).1
    have y2 := (ln0_full (show (ln0 D w σ).2.1 = 0 from y1))
    rw [hfl y2.2, decide_eq_true c] at y2
    exact absurd y2.1.symm Bool.false_ne_true
  · have eM := b2 (decide_eq_false c)
    rw [le_f (by omega) (by decide), if_neg i10, ← eM, hj, if_neg i10, ix3l, gdk 3, gb, nl5, pk_mul, nl84, nI_add, bnd_r]
    simp (disch := first | decide | omega) only [nl1, nl2, nl3, nl4, nI_add, gd_inb, ix_nI, bnd_r, gI_nk, gdk, gb]
    refine ⟨_, rfl, (c2.two.trans hdf.two).p93.p93.p93.p93.p93.p93, RS_93 (RS_93 (RS_93 (RS_93 (RS_93 (RS_93 f3))))), ⟨a, b + 1, a8, by omega, ?_, by rw [gI_eq]⟩, fun h0 => ?_⟩
    · simp (disch := omega) only [gI_nk]; rw [gdk]; exact ga
    · have y1 := (stK_0 _ h0).1
      obtain ⟨y2, y3⟩ := ln0_full (show (ln0 D w σ).2.1 = 0 from y1)
      obtain ⟨r0, r1, r2, r3, r4, r5, r6, r7, r8⟩ := hD y3
      have ea : pS D.1 = b := (nI_eq (by omega) (by omega)).mp (r4.symm.trans gb)
      have k2 : kpP w (fun k => vlK tp len w k (ln1 tp len D w σ)) D.1 = (pW D.1, pH D.1, pN D.1, pS D.1 + 1, pWa D.1, pAt D.1, pNm D.1, fun k j => if k = pS D.1 then (if j = 0 then w - 3 else if j = 1 then 8 * vlK tp len w 1 (ln1 tp len D w σ) + vlK tp len w 0 (ln1 tp len D w σ) else vlK tp len w j (ln1 tp len D w σ)) else pSh D.1 k j) := by
        unfold kpP; rw [if_neg (by omega), if_neg (by omega), if_neg (by omega)]
      rw [k2]
      refine ⟨⟨r0.1, by show pS D.1 + 1 ≤ 8; omega⟩, ?_, ?_, ?_, ?_, fun q hq => ?_, fun k hk => ?_, fun k hk j hj => ?_, ?_⟩
      · simp (disch := omega) only [gI_nk]; rw [gdk]; exact r1
      · simp (disch := omega) only [gI_nk]; rw [gdk]; exact r2
      · simp (disch := omega) only [gI_nk]; rw [gdk]; exact r3
      · rw [gI_eq]; show nI (b + 1) = nI (pS D.1 + 1); rw [ea]
      · simp (disch := omega) only [gI_nk]; rw [gdk]; exact r5 q hq
      · have : k < pN D.1 := hk
        have := r0.1
        simp (disch := omega) only [gI_nk]; rw [gdk, gdk]; exact r6 k hk
      · have hk : k < pS D.1 + 1 := hk
        show _ = nI (if k = pS D.1 then (if j = 0 then w - 3 else if j = 1 then 8 * vlK tp len w 1 (ln1 tp len D w σ) + vlK tp len w 0 (ln1 tp len D w σ) else vlK tp len w j (ln1 tp len D w σ)) else pSh D.1 k j)
        by_cases z : k = pS D.1
        · have z2 : k = b := z.trans ea
          rw [if_pos z, z2]
          rcases (show j = 0 ∨ j = 1 ∨ j = 2 ∨ j = 3 ∨ j = 4 by omega) with rfl | rfl | rfl | rfl | rfl
          · simp (disch := omega) only [gI_nk, Nat.add_zero, gI_eq]; rfl
          · simp (disch := omega) only [gI_nk, gI_eq]; rfl
          · simp (disch := omega) only [gI_nk, gI_eq]; rfl
          · simp (disch := omega) only [gI_nk, gI_eq]; rfl
          · simp (disch := omega) only [gI_nk, gI_eq]; rfl
        · rw [if_neg z]
          simp (disch := omega) only [gI_nk]; rw [gdk]; exact r7 k (by omega) j hj
      · obtain ⟨r, l, q1, q2, q3, q4, q5⟩ := r8
        have hadd := RGP_add (M := Mb) (M2 := Mc) (P := D.1) (P2 := kpP w (fun k => vlK tp len w k (ln1 tp len D w σ)) D.1) c4 c5 ⟨r, l, q1, q2, by rw [b3.2.1 9 (by decide)]; exact q3, by rw [b3.2.1 10 (by decide)]; exact q4, q5⟩ c6 (fun q => by
          rw [k2]
          unfold tldP
          constructor
          · rintro (z | z | ⟨k, z1, z2⟩)
            · exact Or.inl (Or.inl z)
            · exact Or.inl (Or.inr (Or.inl z))
            · have z1 : k < pS D.1 + 1 := z1
              have z2 : (if k = pS D.1 then 8 * vlK tp len w 1 (ln1 tp len D w σ) + vlK tp len w 0 (ln1 tp len D w σ) else pSh D.1 k 1) = q := z2
              by_cases e : k = pS D.1
              · rw [if_pos e] at z2; exact Or.inr z2.symm
              · rw [if_neg e] at z2; exact Or.inl (Or.inr (Or.inr ⟨k, by omega, z2⟩))
          · rintro ((z | z | ⟨k, z1, z2⟩) | z)
            · exact Or.inl z
            · exact Or.inr (Or.inl z)
            · refine Or.inr (Or.inr ⟨k, Nat.lt_succ_of_lt z1, ?_⟩)
              show (if k = pS D.1 then (8 * vlK tp len w 1 (ln1 tp len D w σ) + vlK tp len w 0 (ln1 tp len D w σ)) else pSh D.1 k 1) = q
              rw [if_neg (by omega)]; exact z2
            · refine Or.inr (Or.inr ⟨pS D.1, Nat.lt_succ_self _, ?_⟩)
              show (if pS D.1 = pS D.1 then (8 * vlK tp len w 1 (ln1 tp len D w σ) + vlK tp len w 0 (ln1 tp len D w σ)) else pSh D.1 (pS D.1) 1) = q
              rw [if_pos rfl]; exact z.symm)
        rw [k2] at hadd
        obtain ⟨r', l', w1, w2, w3, w4, w5⟩ := hadd
        exact ⟨r', l', w1, w2, by simp (disch := decide) only [gI_ne]; rw [hdf.2.1 9 (by decide)]; exact w3, by simp (disch := decide) only [gI_ne]; rw [hdf.2.1 10 (by decide)]; exact w4, w5⟩
theorem parL_RS {M : MM} {tp : Nat → Nat} {len : Nat} {D : DRF} {σ : RST} (h : RSm M tp len σ) (h1 : σ.2.1 ≠ 1) (hp : PLC σ.1 σ) (hG : GDP M) (hD : σ.2.1 = 0 → RDP M D.1) :
    ∃ M2, fX12_parishLine M = some M2 ∧ WR2 M M2 ∧ RSm M2 tp len (lnS tp len 0 D σ) ∧ GDP M2 ∧ ((lnS tp len 0 D σ).2.1 = 0 → RDP M2 (lnD tp len 0 D σ).1) := by
  obtain ⟨Ma, t0, t⟩ := takes_RS (a := 1) (b := 7) h h1 (by decide) (by decide)
  unfold fX12_parishLine
  rw [bnd_r, show (1 : Int32) = nI 1 from rfl, show (7 : Int32) = nI 7 from rfl, h.2.1.2.1]
  rcases t with ⟨t1, t2, t3⟩ | ⟨t1, t2, t3⟩
  · have hk : wdK tp len 0 σ.1 := t2
    obtain ⟨-, q1, q2⟩ := t2
    have hlt : σ.1 < len := tkK_lt hk.1 (by decide)
    have hGa := GDP_wr hG t0
    have hDa : σ.2.1 = 0 → RDP Ma D.1 := fun z => RDP_wr (hD z) t0
    rw [t1, bd_s]
    show ∃ M2, (if nI (wcT tp len σ.1) = 0 then _ else if nI (wcT tp len σ.1) = nI 1 then _ else _) = _ ∧ _
    rw [eqz_f (by omega) (by omega)]
    by_cases z1 : wcT tp len σ.1 = 1
    · rw [eqn_t z1]
      have hl1 : ln1 tp len D 0 σ = mvF tp len σ := ln1_nf (ful_law D (by omega))
      have hpm : PLC (mvF tp len σ).1 (mvF tp len σ) := PLC_mv (PLC_ge hp nxT_ge)
      obtain ⟨Mb, n1, n2, n3⟩ := numK_RS (w := 0) (k := 0) (σ := mvF tp len σ) (by decide) (by decide) t3 hpm
      obtain ⟨Mc, o1, o2, o3⟩ := numK_RS (w := 0) (k := 1) (σ := mvF tp len σ) (by decide) (by decide) (RS_93 (k := 0) (v := nI (vlK tp len 0 0 (mvF tp len σ))) n3) hpm
      obtain ⟨M2, e1, e2, e3⟩ := eline_RS (RS_93 (k := 1) (v := nI (vlK tp len 0 1 (mvF tp len σ))) o3)
      have hS : lnS tp len 0 D σ = endF tp len (stK tp len 0 (1 + 1) (mvF tp len σ)) := by
        rw [lnS_w hk (w := 0) z1, ln3_n (by decide), hl1]; rfl
      have g93 : ∀ k, gI M2 93 k = if k = 1 then nI (vlK tp len 0 1 (mvF tp len σ)) else if k = 0 then nI (vlK tp len 0 0 (mvF tp len σ)) else gI Ma 93 k := fun k => by
        rw [e2.g93]
        by_cases y : k = 1
        · rw [if_pos y, y, gI_eq]
        · rw [if_neg y, gI_nk _ _ _ _ _ _ y, o2.g93]
          by_cases y0 : k = 0
          · rw [if_pos y0, y0, gI_eq]
          · rw [if_neg y0, gI_nk _ _ _ _ _ _ y0, n2.g93]
      refine ⟨M2, ?_, (t0.two.trans (n2.two.p93.trans o2.two.p93)).trans e2.two, by rw [hS]; exact e3, ?_, fun h0 => ?_⟩
      · rw [show fX12_numbered Ma 2 8 = _ from n1, bd_s, bnd_r]
        show (fX12_numbered (sI Mb 93 0 (nI (vlK tp len 0 0 (mvF tp len σ)))) 2 8).bind _ = _
        rw [show fX12_numbered (sI Mb 93 0 (nI (vlK tp len 0 0 (mvF tp len σ)))) 2 8 = _ from o1, bd_s, bnd_r]
        unfold fX12_parishLine_j107
        show (fX12_endsLine (sI Mc 93 1 (nI (vlK tp len 0 1 (mvF tp len σ))))).bind (fun p9 => some p9) = _
        rw [e1]; rfl
      · obtain ⟨a, b, a1, a2, a3, a4⟩ := hGa
        exact ⟨a, b, a1, a2, by rw [g93, if_neg (by decide), if_neg (by decide)]; exact a3, by rw [g93, if_neg (by decide), if_neg (by decide)]; exact a4⟩
      · have h00 := (lnS_0 h0).2.2.1
        obtain ⟨r0, r1, r2, r3, r4, r5, r6, r7, r, l, s1, s2, s3, s4, s5⟩ := hDa h00
        rw [lnD_w (w := 0) z1 h0, hl1]
        show RDP M2 (vlK tp len 0 0 (mvF tp len σ), vlK tp len 0 1 (mvF tp len σ), D.1.2.2)
        refine ⟨r0, by rw [g93, if_neg (by decide), if_pos rfl], by rw [g93, if_pos rfl], by rw [g93, if_neg (by decide), if_neg (by decide)]; exact r3, by rw [g93, if_neg (by decide), if_neg (by decide)]; exact r4, fun q hq => by rw [g93, if_neg (by omega), if_neg (by omega)]; exact r5 q hq, fun k hk => by rw [g93, if_neg (by omega), if_neg (by omega), g93, if_neg (by omega), if_neg (by omega)]; exact r6 k hk, fun k hk j hj => by rw [g93, if_neg (by omega), if_neg (by omega)]; exact r7 k hk j hj, r, l, s1, s2, ?_, ?_, s5⟩
        · rw [e2.2.1 9 (by decide), gI_ne _ _ _ _ _ _ (by decide), o2.2.1 9 (by decide), gI_ne _ _ _ _ _ _ (by decide), n2.2.1 9 (by decide)]; exact s3
        · rw [e2.2.1 10 (by decide), gI_ne _ _ _ _ _ _ (by decide), o2.2.1 10 (by decide), gI_ne _ _ _ _ _ _ (by decide), n2.2.1 10 (by decide)]; exact s4
    · rw [eqn_f z1 (by omega) (by decide), nl2]
      by_cases z2 : wcT tp len σ.1 = 2
      · rw [eqn_t z2]
        have hl1 : ln1 tp len D 1 σ = mvF tp len σ := ln1_nf (ful_law D (by omega))
        have hpm : PLC (mvF tp len σ).1 (mvF tp len σ) := PLC_mv (PLC_ge hp nxT_ge)
        obtain ⟨Mc, c1, c2, c3, ⟨c4, c5⟩, c6⟩ := sqT_RS (w := 1) (by decide) (by decide) t3 hpm
        obtain ⟨M2, e1, e2, e3⟩ := eline_RS (RS_93 (k := 4 + (8 * vlK tp len 1 1 (mvF tp len σ) + vlK tp len 1 0 (mvF tp len σ))) (v := 1) c3)
        have hS : lnS tp len 0 D σ = endF tp len (stK tp len 1 2 (mvF tp len σ)) := by
          rw [lnS_w hk (w := 1) z2, ln3_n (by decide), hl1]; rfl
        have g93 : ∀ k, gI M2 93 k = if k = 4 + (8 * vlK tp len 1 1 (mvF tp len σ) + vlK tp len 1 0 (mvF tp len σ)) then 1 else gI Ma 93 k := fun k => by
          rw [e2.g93]
          by_cases y : k = 4 + (8 * vlK tp len 1 1 (mvF tp len σ) + vlK tp len 1 0 (mvF tp len σ))
          · rw [if_pos y, y, gI_eq]
          · rw [if_neg y, gI_nk _ _ _ _ _ _ y, c2.g93]
        refine ⟨M2, ?_, (t0.two.trans c2.two.p93).trans e2.two, by rw [hS]; exact e3, ?_, fun h0 => ?_⟩
        · show (fX12_squareTold Ma).bind _ = _
          rw [c1, bd_s]
          show gd (inb (4 + nI (8 * vlK tp len 1 1 (mvF tp len σ) + vlK tp len 1 0 (mvF tp len σ))) 124) _ = _
          rw [nl4, nI_add, gd_inb (by omega) (by decide), bnd_r, ix_nI (by omega)]
          unfold fX12_parishLine_j107
          show (fX12_endsLine (sI Mc 93 (4 + (8 * vlK tp len 1 1 (mvF tp len σ) + vlK tp len 1 0 (mvF tp len σ))) 1)).bind (fun p9 => some p9) = _
          rw [e1]; rfl
        · obtain ⟨a, b, a1, a2, a3, a4⟩ := hGa
          exact ⟨a, b, a1, a2, by rw [g93, if_neg (by omega)]; exact a3, by rw [g93, if_neg (by omega)]; exact a4⟩
        · have h00 := (lnS_0 h0).2.2.1
          obtain ⟨r0, r1, r2, r3, r4, r5, r6, r7, r8⟩ := hDa h00
          rw [lnD_w (w := 1) z2 h0, hl1]
          have k2 : (kpD 1 (fun k => vlK tp len 1 k (mvF tp len σ)) (wcT tp len (ln2 tp len D 1 σ).1 - 4) D).1 = (pW D.1, pH D.1, pN D.1, pS D.1, fun q => pWa D.1 q || decide (q = 8 * vlK tp len 1 1 (mvF tp len σ) + vlK tp len 1 0 (mvF tp len σ)), pAt D.1, pNm D.1, pSh D.1) := rfl
          rw [k2]
          have hadd := RGP_add (M := Ma) (M2 := Mc) (P := D.1) (P2 := (pW D.1, pH D.1, pN D.1, pS D.1, fun q => pWa D.1 q || decide (q = 8 * vlK tp len 1 1 (mvF tp len σ) + vlK tp len 1 0 (mvF tp len σ)), pAt D.1, pNm D.1, pSh D.1)) c4 c5 r8 c6 (fun q => by
            unfold tldP
            constructor
            · rintro (⟨y1, y2⟩ | y | y)
              · have y2 : (pWa D.1 q || decide (q = 8 * vlK tp len 1 1 (mvF tp len σ) + vlK tp len 1 0 (mvF tp len σ))) = true := y2
                rw [Bool.or_eq_true] at y2
                rcases y2 with y3 | y3
                · exact Or.inl (Or.inl ⟨y1, y3⟩)
                · exact Or.inr (of_decide_eq_true y3)
              · exact Or.inl (Or.inr (Or.inl y))
              · exact Or.inl (Or.inr (Or.inr y))
            · rintro ((⟨y1, y2⟩ | y | y) | y)
              · refine Or.inl ⟨y1, ?_⟩
                show (pWa D.1 q || _) = true
                rw [y2]; rfl
              · exact Or.inr (Or.inl y)
              · exact Or.inr (Or.inr y)
              · refine Or.inl ⟨by omega, ?_⟩
                show (pWa D.1 q || decide _) = true
                rw [Bool.or_eq_true]
                exact Or.inr (decide_eq_true y))
          obtain ⟨r', l', w1, w2, w3, w4, w5⟩ := hadd
          refine ⟨r0, by rw [g93, if_neg (by omega)]; exact r1, by rw [g93, if_neg (by omega)]; exact r2, by rw [g93, if_neg (by omega)]; exact r3, by rw [g93, if_neg (by omega)]; exact r4, fun q hq => ?_, fun k hk => ?_, fun k hk j hj => ?_, r', l', w1, w2, ?_, ?_, w5⟩
          · show _ = if (pWa D.1 q || decide (q = 8 * vlK tp len 1 1 (mvF tp len σ) + vlK tp len 1 0 (mvF tp len σ))) = true then 1 else 0
            rw [g93]
            by_cases y : q = 8 * vlK tp len 1 1 (mvF tp len σ) + vlK tp len 1 0 (mvF tp len σ)
            · rw [if_pos (by omega), decide_eq_true y, Bool.or_true, if_pos rfl]
            · rw [if_neg (by omega), decide_eq_false y, Bool.or_false]; exact r5 q hq
          · rw [g93, if_neg (by omega), g93, if_neg (by omega)]; exact r6 k hk
          · rw [g93, if_neg (by omega)]; exact r7 k hk j hj
          · rw [e2.2.1 9 (by decide), gI_ne _ _ _ _ _ _ (by decide)]; exact w3
          · rw [e2.2.1 10 (by decide), gI_ne _ _ _ _ _ _ (by decide)]; exact w4
      · rw [eqn_f z2 (by omega) (by decide), nl3]
        by_cases z3 : wcT tp len σ.1 = 3
        · rw [eqn_t z3]
          obtain ⟨Mb, b1, b2, b3, b4, b5⟩ := perL_RS (D := D) hlt t3 h1 hp hGa hDa
          obtain ⟨M2, e1, e2, e3⟩ := eline_RS b3
          have hS : lnS tp len 0 D σ = endF tp len (stK tp len 2 3 (ln1 tp len D 2 σ)) := by
            rw [lnS_w hk (w := 2) z3, ln3_n (by decide)]; rfl
          refine ⟨M2, ?_, (t0.two.trans b2).trans e2.two, by rw [hS]; exact e3, GDP_wr b4 e2, fun h0 => ?_⟩
          · show (fX12_personLine Ma (nI σ.1)).bind _ = _
            rw [b1, bd_s]
            unfold fX12_parishLine_j107
            rw [e1]; rfl
          · rw [lnD_w (w := 2) z3 h0]
            rw [hS] at h0
            exact RDP_wr (b5 (endF_0 h0).1) e2
        · rw [eqn_f z3 (by omega) (by decide)]
          obtain ⟨w, hw⟩ : ∃ w, wcT tp len σ.1 = w + 1 := ⟨wcT tp len σ.1 - 1, by omega⟩
          obtain ⟨Mb, b1, b2, b3, b4, b5⟩ := shiL_RS (w := w) (D := D) (by omega) (by omega) hlt t3 h1 hp hGa hDa
          obtain ⟨M2, e1, e2, e3⟩ := eline_RS b3
          have hS : lnS tp len 0 D σ = endF tp len (stK tp len w 5 (ln1 tp len D w σ)) := by
            rw [lnS_w hk hw, ln3_n (by omega), (bn_s w (by omega) (by omega)).1]
          refine ⟨M2, ?_, (t0.two.trans b2).trans e2.two, by rw [hS]; exact e3, GDP_wr b4 e2, fun h0 => ?_⟩
          · show (fX12_shineLine Ma (nI σ.1) (nI (wcT tp len σ.1) - 4)).bind _ = _
            rw [nl4, pk_sub (by omega), show wcT tp len σ.1 - 4 = w - 3 by omega, b1, bd_s]
            unfold fX12_parishLine_j107
            rw [e1]; rfl
          · rw [lnD_w hw h0]
            rw [hS] at h0
            unfold kpD
            rw [if_pos (by omega)]
            exact RDP_wr (b5 (endF_0 h0).1) e2
  · have hk : ¬ wdK tp len 0 σ.1 := t2
    rw [t1, bd_s, lnS_no hk]
    obtain ⟨M2, e1, e2, e3⟩ := eline_RS t3
    rw [end_1 (show (rfF σ).2.1 = 1 from rfl)] at e3
    refine ⟨M2, ?_, t0.two.trans e2.two, e3, GDP_wr (GDP_wr hG t0) e2, fun h0 => absurd (show (1 : Nat) = 0 from h0) (by decide)⟩
    rw [if_pos (show (0 : Int32) = 0 from rfl)]
    unfold fX12_parishLine_j107
    show (fX12_endsLine Ma).bind (fun p9 => some p9) = _
    rw [e1]; rfl
