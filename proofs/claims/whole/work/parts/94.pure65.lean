/-! ===== text: an evening's line of the reference ===== -/
theorem mv_mk {tp : Nat → Nat} {len k q : Nat} {σ : RST} : mvF tp len (mkF k q σ) = mkF k q (mvF tp len σ) := by
  unfold mkF
  by_cases c : σ.2.1 = 0
  · rw [if_pos c, if_pos (show (mvF tp len σ).2.1 = 0 from c)]; rfl
  · rw [if_neg c, if_neg (show ¬ (mvF tp len σ).2.1 = 0 from c)]
theorem mkF_nz {k q : Nat} {σ : RST} (h : σ.2.1 ≠ 0) : mkF k q σ = σ := by unfold mkF; rw [if_neg h]
theorem ln1_nz {tp : Nat → Nat} {len w : Nat} {D : DRF} {σ : RST} (h : σ.2.1 ≠ 0) : ln1 tp len D w σ = mvF tp len σ := by
  unfold ln1 ln0
  split
  · rw [mkF_nz h]
  · rfl
theorem ful_RS {M : MM} {tp : Nat → Nat} {len w : Nat} {D : DRF} {σ : RST} {b : Bool} (h : RSm M tp len (mvF tp len σ)) (h1 : σ.2.1 ≠ 1) (hs : σ.1 ≤ len) (hp : PLC σ.1 σ) (hb : σ.2.1 = 0 → fulD D w = b) : ∃ M2, (b = true → fX12_also M 3 (nI σ.1) = some M2) ∧ (b = false → M2 = M) ∧ WR M M2 ∧ RSm M2 tp len (ln1 tp len D w σ) := by
  have hl := h.1.2.1
  cases b with
  | true =>
    obtain ⟨M2, m1, m2, m3⟩ := also_RS (k := 3) (q := σ.1) h h1 (by decide) (by omega) (PLC_mv hp)
    refine ⟨M2, fun _ => m1, fun z => absurd z.symm Bool.false_ne_true, m2, ?_⟩
    by_cases c : σ.2.1 = 0
    · have : ln1 tp len D w σ = mkF 3 σ.1 (mvF tp len σ) := by unfold ln1 ln0; rw [hb c, if_pos rfl, mv_mk]
      rw [this]; exact m3
    · rw [ln1_nz c]
      rw [mkF_nz (show (mvF tp len σ).2.1 ≠ 0 from c)] at m3
      exact m3
  | false =>
    refine ⟨M, fun z => absurd z Bool.false_ne_true, fun _ => rfl, WR.rfl, ?_⟩
    by_cases c : σ.2.1 = 0
    · rw [ln1_nf (hb c)]; exact h
    · rw [ln1_nz c]; exact h
theorem j74_RS {M : MM} {tp : Nat → Nat} {len a : Nat} {σ : RST} {y0 y1 y2 : Int32} (h : RSm M tp len σ) (ha : a ≤ 40) (hg : gI M 93 0 = nI a) :
    ∃ M2, fX12_eveningLine_j74 M y0 y1 y2 = some M2 ∧ WR2 M M2 ∧ RSm M2 tp len (endF tp len σ) ∧ (∃ b, b ≤ 40 ∧ gI M2 93 0 = nI b) ∧
      (a < 40 → gI M2 93 0 = nI (a + 1) ∧ (∀ c, c < 3 → gI M2 93 (1 + 3 * a + c) = if c = 0 then y0 else if c = 1 then y1 else y2) ∧ ∀ j, 0 < j → j < 1 + 3 * a → gI M2 93 j = gI M 93 j) := by
  unfold fX12_eveningLine_j74 fX12_eveningLine_j138
  rw [ix0l, hg, show (40 : Int32) = nI 40 from rfl]
  by_cases c : a < 40
  · rw [le_f c (by decide), nl3, pk_mul, nl1, nI_add]
    simp (disch := first | decide | omega) only [bnd_r, nI_add, gd_inb, ix_nI, gI_nk, hg]
    rw [nl2]
    simp (disch := first | decide | omega) only [bnd_r, nI_add, gd_inb, ix_nI, gI_nk, hg]
    obtain ⟨M2, e1, e2, e3⟩ := eline_RS (RS_93 (k := 0) (v := nI (a + 1)) (RS_93 (k := 1 + 3 * a + 2) (v := y2) (RS_93 (k := 1 + 3 * a + 1) (v := y1) (RS_93 (k := 1 + 3 * a) (v := y0) h))))
    refine ⟨M2, by rw [e1]; rfl, WR2.trans (WR2.rfl.p93.p93.p93.p93) e2.two, e3, ⟨a + 1, by omega, by rw [e2.g93, gI_eq]⟩, fun _ => ⟨by rw [e2.g93, gI_eq], fun x hx => ?_, fun j h1 h2 => ?_⟩⟩
    · rw [e2.g93]
      rcases (show x = 0 ∨ x = 1 ∨ x = 2 by omega) with rfl | rfl | rfl
      · simp (disch := omega) only [gI_nk, Nat.add_zero, gI_eq]; rfl
      · simp (disch := omega) only [gI_nk, gI_eq]; rfl
      · simp (disch := omega) only [gI_nk, gI_eq]; rfl
    · rw [e2.g93]
      simp (disch := omega) only [gI_nk]
  · rw [le_t (by omega) (by omega)]
    obtain ⟨M2, e1, e2, e3⟩ := eline_RS h
    exact ⟨M2, by rw [e1]; rfl, e2.two, e3, ⟨a, ha, by rw [e2.g93]; exact hg⟩, fun z => absurd z c⟩
theorem j41_RS {M : MM} {tp : Nat → Nat} {len a w : Nat} {σ : RST} (h13 : 13 ≤ w) (hw : w ≤ 17) (h : RSm M tp len σ) (hp : PLC σ.1 σ) (ha : a ≤ 40) (hg : gI M 93 0 = nI a) :
    ∃ M2, fX12_eveningLine_j41 M (nI (w - 13)) = some M2 ∧ WR2 M M2 ∧ RSm M2 tp len (endF tp len (stK tp len w (nmN w) σ)) ∧ (∃ b, b ≤ 40 ∧ gI M2 93 0 = nI b) ∧
      (a < 40 → gI M2 93 0 = nI (a + 1) ∧ (∀ c, c < 3 → gI M2 93 (1 + 3 * a + c) = if c = 0 then nI (w - 13) else if c = 1 then (if w = 17 then -1 else nI (vlK tp len w 0 σ)) else (if w ≤ 14 then nI (vlK tp len w 1 σ) else -1)) ∧ ∀ j, 0 < j → j < 1 + 3 * a → gI M2 93 j = gI M 93 j) := by
  unfold fX12_eveningLine_j41 fX12_eveningLine_j57
  rw [nl4]
  by_cases c17 : w = 17
  · subst c17
    obtain ⟨M2, e1, e2, e3, e4, e5⟩ := j74_RS (y0 := nI (17 - 13)) (y1 := -1) (y2 := -1) h ha hg
    refine ⟨M2, ?_, e2, e3, e4, e5⟩
    rw [le_t (by decide) (by decide), nl2, le_t (by decide) (by decide)]; exact e1
  · have hb0 : bnL w 0 = 0 ∧ bnG w 0 = 7 := by rcases (show w = 13 ∨ w = 14 ∨ w = 15 ∨ w = 16 by omega) with rfl | rfl | rfl | rfl <;> exact ⟨rfl, rfl⟩
    obtain ⟨M1, n1, n2, n3⟩ := numK_RS (w := w) (k := 0) (σ := σ) (by omega) (by decide) h hp
    rw [hb0.1, hb0.2] at n1
    rw [le_f (by omega) (by decide), show fX12_numbered M 0 7 = _ from n1, bd_s]
    show ∃ M2, (if 2 ≤ nI (w - 13) then _ else _) = _ ∧ _
    rw [nl2]
    by_cases c14 : w ≤ 14
    · have hb1 : bnL w 1 = 0 ∧ bnG w 1 = 7 ∧ nmN w = 2 := by rcases (show w = 13 ∨ w = 14 by omega) with rfl | rfl <;> exact ⟨rfl, rfl, rfl⟩
      obtain ⟨M3, o1, o2, o3⟩ := numK_RS (w := w) (k := 1) (σ := σ) (by omega) (by decide) n3 hp
      rw [hb1.1, hb1.2.1] at o1
      obtain ⟨M2, e1, e2, e3, e4, e5⟩ := j74_RS (y0 := nI (w - 13)) (y1 := nI (vlK tp len w 0 σ)) (y2 := nI (vlK tp len w 1 σ)) o3 ha (by rw [o2.g93, n2.g93]; exact hg)
      rw [le_f (by omega) (by decide)]
      refine ⟨M2, ?_, n2.two.trans (o2.two.trans e2), by rw [hb1.2.2]; exact e3, e4, fun z => ⟨(e5 z).1, fun c hc => ?_, fun j y1 y2 => by rw [(e5 z).2.2 j y1 y2, o2.g93, n2.g93]⟩⟩
      · rw [show fX12_numbered M1 0 7 = _ from o1, bd_s]; exact e1
      · rw [(e5 z).2.1 c hc, if_neg c17, if_pos c14]
    · have hn : nmN w = 1 := by rcases (show w = 15 ∨ w = 16 by omega) with rfl | rfl <;> rfl
      obtain ⟨M2, e1, e2, e3, e4, e5⟩ := j74_RS (y0 := nI (w - 13)) (y1 := nI (vlK tp len w 0 σ)) (y2 := -1) n3 ha (by rw [n2.g93]; exact hg)
      rw [le_t (by omega) (by omega)]
      refine ⟨M2, e1, n2.two.trans e2, by rw [hn]; exact e3, e4, fun z => ⟨(e5 z).1, fun c hc => ?_, fun j y1 y2 => by rw [(e5 z).2.2 j y1 y2, n2.g93]⟩⟩
      rw [(e5 z).2.1 c hc, if_neg c17, if_neg c14]
def RDE (M : MM) (E : EVD) : Prop := E.1 ≤ 40 ∧ gI M 93 0 = nI E.1 ∧ ∀ i, i < E.1 → ∀ c, c < 3 → gI M 93 (1 + 3 * i + c) = E.2 i c
theorem eveL_RS {M : MM} {tp : Nat → Nat} {len : Nat} {D : DRF} {σ : RST} (h : RSm M tp len σ) (h1 : σ.2.1 ≠ 1) (hp : PLC σ.1 σ) (hG : ∃ a, a ≤ 40 ∧ gI M 93 0 = nI a) (hD : σ.2.1 = 0 → RDE M D.2.2.1) :
    ∃ M2, fX12_eveningLine M = some M2 ∧ WR2 M M2 ∧ RSm M2 tp len (lnS tp len 2 D σ) ∧ (∃ a, a ≤ 40 ∧ gI M2 93 0 = nI a) ∧ ((lnS tp len 2 D σ).2.1 = 0 → RDE M2 (lnD tp len 2 D σ).2.2.1) := by
  obtain ⟨Ma, t0, t⟩ := takes_RS (a := 14) (b := 18) h h1 (by decide) (by decide)
  obtain ⟨a, ha, hg⟩ := hG
  have hga : gI Ma 93 0 = nI a := by rw [t0.g93]; exact hg
  unfold fX12_eveningLine
  rw [bnd_r, show (14 : Int32) = nI 14 from rfl, show (18 : Int32) = nI 18 from rfl, h.2.1.2.1]
  rcases t with ⟨t1, t2, t3⟩ | ⟨t1, t2, t3⟩
  · have hk : wdK tp len 2 σ.1 := t2
    obtain ⟨-, q1, q2⟩ := t2
    rw [t1, bd_s, bnd_r]
    show ∃ M2, (if gI Ma 90 8 = 0 then _ else _) = _ ∧ _
    rw [t3.2.2.2.2.2.1, if_neg (show ¬ (mvF tp len σ).2.1 = 1 from h1), if_pos rfl, pk_sub q1]
    obtain ⟨w, hw⟩ : ∃ w, wcT tp len σ.1 = w + 1 := ⟨wcT tp len σ.1 - 1, by omega⟩
    have hfl : σ.2.1 = 0 → fulD D w = decide (40 ≤ a) := fun z => by
      obtain ⟨r1, r2, -⟩ := hD z
      have : D.2.2.1.1 = a := (nI_eq (by omega) (by omega)).mp (r2.symm.trans hg)
      unfold fulD
      rw [if_neg (by omega), if_neg (by omega), if_pos (by omega), this]
    obtain ⟨Mb, b1, b2, b3, b4⟩ := ful_RS (w := w) (D := D) (b := decide (40 ≤ a)) t3 h1 h.2.2.1 hp hfl
    have hgb : gI Mb 93 0 = nI a := by rw [b3.g93]; exact hga
    have hlt : σ.1 < len := tkK_lt hk.1 (by decide)
    obtain ⟨M2, e1, e2, e3, e4, e5⟩ := j41_RS (w := w) (by omega) (by omega) b4 (PLC_l1 hlt hp) ha hgb
    have hS : lnS tp len 2 D σ = endF tp len (stK tp len w (nmN w) (ln1 tp len D w σ)) := by rw [lnS_w hk hw, ln3_n (by omega)]
    rw [show wcT tp len σ.1 - 14 = w - 13 by omega]
    refine ⟨M2, ?_, t0.two.trans (b3.two.trans e2), by rw [hS]; exact e3, e4, fun h0 => ?_⟩
    · show (if gI Ma 93 (ix 0) < nI 40 then _ else _) = _
      rw [ix0l, hga]
      by_cases c : 40 ≤ a
      · rw [lt_f c (by omega), b1 (decide_eq_true c), bd_s]; exact e1
      · rw [lt_t (by omega) (by omega)]
        rw [b2 (decide_eq_false c)] at e1
        exact e1
    · obtain ⟨-, f1, f2, -⟩ := lnS_0 h0
      rw [hw, Nat.add_sub_cancel] at f1
      obtain ⟨r1, r2, r3⟩ := hD f2
      have ea : D.2.2.1.1 = a := (nI_eq (by omega) (by omega)).mp (r2.symm.trans hg)
      have hlt40 : a < 40 := by
        rw [hfl f2] at f1
        have := of_decide_eq_false f1; omega
      obtain ⟨x1, x2, x3⟩ := e5 hlt40
      rw [lnD_w hw h0]
      unfold kpD
      rw [if_neg (by omega), if_neg (by omega), if_pos (by omega)]
      show RDE M2 (kpE w (fun k => vlK tp len w k (ln1 tp len D w σ)) D.2.2.1)
      refine ⟨by show D.2.2.1.1 + 1 ≤ 40; omega, by rw [x1, ← ea]; rfl, fun i hi c hc => ?_⟩
      have hi : i < D.2.2.1.1 + 1 := hi
      show _ = if i = D.2.2.1.1 then (if c = 0 then nI (w - 13) else if c = 1 then (if w = 17 then -1 else nI (vlK tp len w 0 (ln1 tp len D w σ))) else (if w ≤ 14 then nI (vlK tp len w 1 (ln1 tp len D w σ)) else -1)) else D.2.2.1.2 i c
      by_cases z : i = D.2.2.1.1
      · rw [if_pos z, z, ea, x2 c hc]
      · rw [if_neg z, x3 _ (by omega) (by omega), b3.g93, t0.g93]; exact r3 i (by omega) c hc
  · have hk : ¬ wdK tp len 2 σ.1 := t2
    rw [t1, bd_s, bnd_r, lnS_no hk]
    show ∃ M2, (if gI Ma 90 8 = 0 then _ else _) = _ ∧ _
    rw [t3.2.2.2.2.2.1, if_pos (show (rfF σ).2.1 = 1 from rfl), if_neg i10]
    unfold fX12_eveningLine_j41 fX12_eveningLine_j57
    obtain ⟨M1, n1, n2, n3⟩ := num_RS (lo := 0) (hi := 7) t3 PLC_rf (by decide) (by decide)
    rw [rdS_1 (show (rfF σ).2.1 = 1 from rfl)] at n3
    obtain ⟨M1b, o1, o2, o3⟩ := num_RS (lo := 0) (hi := 7) n3 PLC_rf (by decide) (by decide)
    rw [rdS_1 (show (rfF σ).2.1 = 1 from rfl)] at o3
    obtain ⟨M2, e1, e2, e3, e4, e5⟩ := j74_RS (y0 := 0 - nI 14) (y1 := nI (rdV tp len 0 7 (rfF σ))) (y2 := nI (rdV tp len 0 7 (rfF σ))) o3 ha (by rw [o2.g93, n2.g93]; exact hga)
    rw [end_1 (show (rfF σ).2.1 = 1 from rfl)] at e3
    refine ⟨M2, ?_, t0.two.trans (n2.two.trans (o2.two.trans e2)), e3, e4, fun h0 => absurd (show (1 : Nat) = 0 from h0) (by decide)⟩
    show (if 4 ≤ 0 - nI 14 then _ else _) = _
    rw [if_neg (by decide), show fX12_numbered Ma 0 7 = _ from n1, bd_s, if_neg (show ¬ (2 : Int32) ≤ 0 - nI 14 by decide), show fX12_numbered M1 0 7 = _ from o1, bd_s]
    exact e1
