/-! ===== text ===== -/
theorem e2_go {K : SK} {M : MM} {T : TOLD} {I : Nat → Option TOLD} (hK : KI K ∧ RD M) (hW : TW T) (hC : CT M 1 T) (hM : MT M 0 T) (hB : BN M) (hIm : IM K M I) {x k n : Nat} {x2 y : Int32} (hx : x < 4)
    (hc : (x2 = -1 ∧ y = 1 ∧ tNum T x < 2 ∧ k = tNum T x ∧ n = k + 1) ∨ (x2 = nI k ∧ y = 0 ∧ k < tNum T x ∧ n = tNum T x)) :
    ∃ (r : Int32) (M1 M2 : MM), fX11_text_j99 (sI (sI (sI M 1 6 0) 1 7 0) 1 8 (-1)) (nI x) x2 (nI (tLen T)) (nI (tNum T x)) y = some (r, (M1, true)) ∧ fX12_text_j71 (sI (sI (sI (sI M1 90 2 (gI M1 91 4)) 91 4 0) 91 5 0) 91 6 (-1)) (nI x) x2 = some (r, M2) ∧ M1.1 91 = M.1 91 ∧ Inv (kSet K 41 6 39) M2 := by
  have hn2 : tNum T x ≤ 2 := hW.1 x hx
  have hl := hW.2.1
  have hIm2 : IM (kSet K 41 6 39) M I := hIm
  have hF7 : Fr [1] M (sI (sI (sI M 1 6 0) 1 7 0) 1 8 (-1)) := ((Fr.rfl.pI (by decide)).pI (by decide)).pI (by decide)
  have g16 : gI (sI (sI (sI M 1 6 0) 1 7 0) 1 8 (-1)) 1 6 = nI 0 := by simp (disch := decide) only [gI_nk, gI_eq]; rfl
  obtain ⟨Mr, r1, r2, r3, f, p, r4, r5, r6, r7, r8, r9, r10, r11, r12⟩ := read_cls (x := x) (tp := tTap T) (len := tLen T) (M := sI (sI (sI M 1 6 0) 1 7 0) 1 8 (-1)) hx (fun i hi => ⟨by rw [hF7.gi (by decide)]; exact hC.2.2.2.2.1 i hi, hW.2.2.1 i hi⟩) hl (fun i hi => by rw [hF7.gi (by decide)]; exact hK.2 i hi)
  have hF8 : Fr [1] Mr (sI (sI Mr 1 7 (nI f)) 1 8 p) := (Fr.rfl.pI (by decide)).pI (by decide)
  have e41 : gI (sI (sI Mr 1 7 (nI f)) 1 8 p) 41 4 = nI f := by rw [hF8.gi (by decide)]; exact r4
  -- the reference, from any memory whose told cells of the reference are as before
  have refR : ∀ M1 : MM, (∀ c, 90 ≤ c → c ≤ 114 → M1.1 c = M.1 c) → ∃ M2, (WR2 (sI (sI (sI (sI M1 90 2 (gI M1 91 4)) 91 4 0) 91 5 0) 91 6 (-1)) M2 ∧ gI M2 91 5 = nI f ∧ gI M2 91 6 = p ∧ (f = 0 → RDx x M2 (runA (tTap T) (tLen T) x 600 (s00 (tTap T) (tLen T), D00)).2)) ∧ ∀ z, fX12_text_j71 (sI (sI (sI (sI M1 90 2 (gI M1 91 4)) 91 4 0) 91 5 0) 91 6 (-1)) (nI x) z = fX12_text_j203 M2 (nI x) z := fun M1 hM1 => by
    have g91 : ∀ i, gI M1 91 i = gI M 91 i := gI_of (hM1 91 (by decide) (by decide))
    obtain ⟨M2, ⟨w0, f2, p2, s1, s2, s3, s4, s5⟩, s6⟩ := read_RS (x := x) (tp := tTap T) (len := tLen T) (M := sI (sI (sI (sI M1 90 2 (gI M1 91 4)) 91 4 0) 91 5 0) 91 6 (-1)) hx ⟨by
      simp (disch := decide) only [gI_ne, gI_eq]; rw [g91]; exact hM.2.1, hl, fun i hi => ⟨by
      simp (disch := omega) only [gI_nk]; rw [g91]
      have := hM.2.2.2.2.1 i hi
      rw [Nat.zero_add] at this; exact this, hW.2.2.1 i hi⟩⟩ (by rw [gI_nk _ _ _ _ _ _ (by decide), gI_eq]) (gI_eq _ _ _ _) r8
    obtain ⟨e1, e2⟩ := FIN_u r7 s4
    subst e1
    exact ⟨M2, ⟨w0, s1, by rw [s2, e2], s5⟩, s6⟩
  generalize (runA (tTap T) (tLen T) x 600 (s00 (tTap T) (tLen T), D00)).2 = D at *
  by_cases z : f = 0
  · subst z
    have hk2 : k < 2 := by rcases hc with h | h <;> omega
    have hkn : ∀ j, j < n → j = k ∨ j < tNum T x := fun j hj => by rcases hc with h | h <;> omega
    have hn : n ≤ 2 := by rcases hc with h | h <;> omega
    obtain ⟨M9, q1, q2, q3⟩ : ∃ M9, fX11_text_j115 Mr (nI x) x2 (nI (tNum T x)) y = (fX11_keepDraft M9 (nI x) (nI k)).bind (fun p21 => some (nI k, p21)) ∧ Fr [2] (sI (sI Mr 1 7 (nI 0)) 1 8 p) M9 ∧ ∀ s, s < 4 → gI M9 2 s = nI (if s = x then n else tNum T s) := by
      have g2 : ∀ s, s < 4 → gI (sI (sI Mr 1 7 (nI 0)) 1 8 p) 2 s = nI (tNum T s) := fun s hs => by
        rw [hF8.gi (by decide), r2.gi (by decide), hF7.gi (by decide)]; exact hC.1 s hs
      unfold fX11_text_j115
      rw [bnd_r, bnd_r, r4, show gI (sI Mr 1 7 (nI 0)) 41 5 = p by rw [gI_ne _ _ _ _ _ _ (by decide)]; exact r5, e41, if_pos (show nI 0 = 0 from rfl)]
      unfold fX11_text_j166 fX11_text_j186
      rcases hc with ⟨c1, c2, c3, c4, c5⟩ | ⟨c1, c2, c3, c4⟩
      · refine ⟨sI (sI (sI Mr 1 7 (nI 0)) 1 8 p) 2 x (nI n), ?_, Fr.rfl.pI (by decide), fun s hs => ?_⟩
        · rw [c2, if_neg i10, if_neg i10, gd_inb (by omega) (by decide), bnd_r, ix_nI (by omega), nI_1, ← c4, ← c5]
        · by_cases e : s = x
          · rw [if_pos e, e, gI_eq]
          · rw [if_neg e, gI_nk _ _ _ _ _ _ e]; exact g2 s hs
      · refine ⟨sI (sI Mr 1 7 (nI 0)) 1 8 p, ?_, Fr.rfl, fun s hs => ?_⟩
        · rw [c2, if_pos rfl, if_pos rfl, c1]
        · rw [g2 s hs]
          by_cases e : s = x
          · rw [if_pos e, c4, e]
          · rw [if_neg e]
    have hFq : Fr [1, 2] Mr M9 := (hF8.mono (by decide)).trans (q2.mono (by decide))
    obtain ⟨M1, k1, k2, k3⟩ := keepDraft_cls (M := M9) (x := x) (k := k) (D := D) hx hk2 r8 (fun e => ⟨(r12 rfl e).1, CP_congr (r12 rfl e).2 (fun c h1 h2 => (hFq c (by simp; omega)).1)⟩) (CDL_fr r9 hFq (by decide)) (CDE_fr r10 hFq (by decide)) (CDS_fr r11 hFq (by decide))
    have hhi : 2 < loX x k ∧ hiX x k ≤ 38 := by
      unfold hiX loX
      rcases (show x = 0 ∨ x = 1 ∨ x = 2 ∨ x = 3 by omega) with rfl | rfl | rfl | rfl <;> simp <;> omega
    have cM1 : ∀ c, c ≠ 1 → c ≠ 2 → (c < 41 ∨ 58 < c) → (c < loX x k ∨ hiX x k < c) → M1.1 c = M.1 c := fun c h1 h2 h3 h4 => by
      rw [k2 c h4, (hFq c (by simp; omega)).1, (r2 c (by unfold rdCL; simp; omega)).1, (hF7 c (by simp; omega)).1]
    have g1 : ∀ i, gI M1 1 i = gI (sI (sI Mr 1 7 (nI 0)) 1 8 p) 1 i := fun i => by
      rw [k2.gi (by omega), q2.gi (by decide)]
    have g47 : M1.1 47 = Mr.1 47 := by rw [k2 47 (by omega), (hFq 47 (by decide)).1]
    have hTW := TW_up (p := p) hW hn hkn r8 (fun e => (r12 rfl e).1)
    have hCT : CT M1 1 (upT T x k n D p) := by
      refine CT_up hW hC hx hk2 hkn hn (fun c h1 h2 h3 => cM1 c (by omega) (by omega) (by omega) h3) (fun s hs => ?_) ?_ ?_ ?_ k3 r8.2.1.2.1
      · rw [k2.gi (by omega)]; exact q3 s hs
      · rw [g1]; simp (disch := decide) only [gI_nk]; rw [r2.gi (by decide)]; exact g16
      · rw [g1, gI_nk _ _ _ _ _ _ (by decide), gI_eq]; rfl
      · rw [g1, gI_eq]
    obtain ⟨M2, ⟨w0, w1, w2, w3⟩, w4⟩ := refR M1 (fun c h1 h2 => cM1 c (by omega) (by omega) (by omega) (by omega))
    have hRD := w3 rfl
    have gq : ∀ i, i ≠ 4 → i ≠ 5 → i ≠ 6 → gI M2 91 i = gI M 91 i := fun i h4 h5 h6 => by
      rw [w0.2 i h5 h6, gI_nk _ _ _ _ _ _ h6, gI_nk _ _ _ _ _ _ h5, gI_nk _ _ _ _ _ _ h4, gI_ne _ _ _ _ _ _ (by decide), gI_of (cM1 91 (by decide) (by decide) (by decide) (by omega))]
    have gq4 : gI M2 91 4 = nI 0 := by rw [w0.2 4 (by decide) (by decide)]; simp (disch := decide) only [gI_nk, gI_eq]; rfl
    have gqs : ∀ s, s < 4 → gI M2 91 s = nI (tNum T s) := fun s hs => by
      rw [gq s (by omega) (by omega) (by omega)]
      have := hM.1 s hs
      rw [Nat.zero_add] at this; exact this
    obtain ⟨M3, t1, t2, t3, t4⟩ : ∃ M3, fX12_text_j203 M2 (nI x) x2 = fX12_text_j246 M3 (nI x) (nI k) ∧ Fr [91] M2 M3 ∧ (∀ s, s < 4 → gI M3 91 s = nI (if s = x then n else tNum T s)) ∧ ∀ i, 4 ≤ i → gI M3 91 i = gI M2 91 i := by
      unfold fX12_text_j203 fX12_text_j229
      rw [show ix 5 = 5 by decide, w1, if_pos (show nI 0 = 0 from rfl)]
      rcases hc with ⟨c1, c2, c3, c4, c5⟩ | ⟨c1, c2, c3, c4⟩
      · refine ⟨sI M2 91 x (nI n), ?_, Fr.rfl.pI (by decide), fun s hs => ?_, fun i hi => gI_nk _ _ _ _ _ _ (by omega)⟩
        · rw [if_pos c1, if_pos c1, gd_inb (by omega) (by decide), gd_inb (by omega) (by decide), gd_inb (by omega) (by decide), bnd_r, ix_nI (by omega), gqs x hx, nI_1, ← c4, ← c5]
        · by_cases e : s = x
          · rw [if_pos e, e, gI_eq]
          · rw [if_neg e, gI_nk _ _ _ _ _ _ e]; exact gqs s hs
      · have hne : ¬ x2 = -1 := by rw [c1]; exact m1_ne (by omega)
        refine ⟨M2, by rw [if_neg hne, if_neg hne, c1], Fr.rfl, fun s hs => ?_, fun i _ => rfl⟩
        rw [gqs s hs]
        by_cases e : s = x
        · rw [if_pos e, c4, e]
        · rw [if_neg e]
    have hp7 : 610 ≤ plX x k ∧ plX x k + szX x ≤ 1130 := by
      unfold plX szX
      rcases (show x = 0 ∨ x = 1 ∨ x = 2 ∨ x = 3 by omega) with rfl | rfl | rfl | rfl <;> simp <;> omega
    have hsz : szX x ≤ 124 := by unfold szX; split <;> (try split) <;> (try split) <;> omega
    obtain ⟨M4, v1, v2, v3, v4⟩ := cp_l249 (M0 := M3) (x := x) (k := k) hx hk2 (szX x) 0 FU M3 (by omega) (by show _ < 5000; omega) Fr.rfl (fun j hj => absurd hj (Nat.not_lt_zero j)) (fun _ _ => rfl)
    have c4M : ∀ c, c ≠ 90 → c ≠ 91 → c ≠ 93 → M4.1 c = M1.1 c := fun c h1 h2 h3 => by
      rw [(v2 c (by simp [h2])).1, (t2 c (by simp [h2])).1, (w0.1 c (by simp [h1, h2, h3])).1, sI_ne h2, sI_ne h2, sI_ne h2, sI_ne h1]
    have g94 : ∀ i, 4 ≤ i → (i < plX x k ∨ plX x k + szX x ≤ i) → gI M4 91 i = gI M2 91 i := fun i h1 h2 => by rw [v4 i h2, t4 i h1]
    refine ⟨nI k, M1, M4, ?_, ?_, cM1 91 (by decide) (by decide) (by decide) (by omega), ⟨KI_tp hK.1, RD_congr r3 (by rw [c4M 47 (by decide) (by decide) (by decide)]; exact g47)⟩, upT T x k n D p, I, hTW, CT_congr hTW hCT (fun c h1 h2 => c4M c (by omega) (by omega) (by omega)), ?_, ?_, ?_⟩
    · unfold fX11_text_j99
      rw [r1, bd_s, q1, k1]; rfl
    · rw [w4, t1]
      unfold fX12_text_j246
      exact v1
    · refine MT_up (Mz := M2) hW hM hx hk2 hkn (fun i h1 h2 h3 => ?_) (fun s hs => ?_) ?_ ?_ ?_ (fun i hi => ?_) hRD
      · rw [g94 i (by omega) h3, gq i (by omega) (by omega) (by omega)]
      · rw [v4 s (by omega)]; exact t3 s hs
      · rw [g94 4 (by decide) (by omega)]; exact gq4
      · rw [g94 5 (by decide) (by omega)]; exact w1
      · rw [g94 6 (by decide) (by omega)]; exact w2
      · rw [v3 i hi]; exact t2.gi (by decide) i
    · exact BN_congr hB (by rw [c4M 60 (by decide) (by decide) (by decide)]; exact cM1 60 (by decide) (by decide) (by decide) (by omega)) (by rw [c4M 73 (by decide) (by decide) (by decide)]; exact cM1 73 (by decide) (by decide) (by decide) (by omega))
    · exact IM_congr hIm2 (fun i hi => by rw [g94 i (by omega) (by omega), gq i (by omega) (by omega) (by omega)]) (by rw [c4M 92 (by decide) (by decide) (by decide)]; exact cM1 92 (by decide) (by decide) (by decide) (by omega)) (fun c hc => by rw [c4M c (by omega) (by omega) (by omega)]; exact cM1 c (by omega) (by omega) (by omega) (by omega))
  · have cM1 : ∀ c, c ≠ 1 → (c < 41 ∨ 58 < c) → (sI (sI Mr 1 7 (nI f)) 1 8 p).1 c = M.1 c := fun c h1 h2 => by
      rw [(hF8 c (by simp; omega)).1, (r2 c (by unfold rdCL; simp; omega)).1, (hF7 c (by simp; omega)).1]
    obtain ⟨M2, ⟨w0, w1, w2, -⟩, w4⟩ := refR (sI (sI Mr 1 7 (nI f)) 1 8 p) (fun c h1 h2 => cM1 c (by omega) (by omega))
    have c4M : ∀ c, c ≠ 90 → c ≠ 91 → c ≠ 93 → M2.1 c = (sI (sI Mr 1 7 (nI f)) 1 8 p).1 c := fun c h1 h2 h3 => by
      rw [(w0.1 c (by simp [h1, h2, h3])).1, sI_ne h2, sI_ne h2, sI_ne h2, sI_ne h1]
    have gq : ∀ i, i ≠ 4 → i ≠ 5 → i ≠ 6 → gI M2 91 i = gI M 91 i := fun i h4 h5 h6 => by
      rw [w0.2 i h5 h6, gI_nk _ _ _ _ _ _ h6, gI_nk _ _ _ _ _ _ h5, gI_nk _ _ _ _ _ _ h4, gI_ne _ _ _ _ _ _ (by decide), gI_of (cM1 91 (by decide) (by decide))]
    have gq4 : gI M2 91 4 = nI 0 := by rw [w0.2 4 (by decide) (by decide)]; simp (disch := decide) only [gI_nk, gI_eq]; rfl
    have g1 : ∀ i, gI M2 1 i = gI (sI (sI Mr 1 7 (nI f)) 1 8 p) 1 i := gI_of (c4M 1 (by decide) (by decide) (by decide))
    refine ⟨-1, sI (sI Mr 1 7 (nI f)) 1 8 p, M2, ?_, ?_, cM1 91 (by decide) (by decide), ⟨KI_tp hK.1, RD_congr r3 (by rw [c4M 47 (by decide) (by decide) (by decide)]; exact (hF8 47 (by decide)).1)⟩, (T.1, 0, nI f, p, T.2.2.2.2), I, ⟨hW.1, Nat.zero_le _, hW.2.2⟩, CT_head hW hC (fun c h1 h2 => by rw [c4M c (by omega) (by omega) (by omega)]; exact cM1 c (by omega) (by omega)) ?_ ?_ ?_, MT_head hW hM (fun i h1 h2 => by rw [Nat.zero_add]; exact gq i (by omega) (by omega) (by omega)) gq4 w1 w2, ?_, ?_⟩
    · unfold fX11_text_j99 fX11_text_j115
      rw [r1, bd_s, bnd_r, bnd_r, r4, show gI (sI Mr 1 7 (nI f)) 41 5 = p by rw [gI_ne _ _ _ _ _ _ (by decide)]; exact r5, e41, eqz_f (by omega) (by omega)]; rfl
    · rw [w4]
      unfold fX12_text_j203
      rw [show ix 5 = 5 by decide, w1, eqz_f (by omega) (by omega)]
    · rw [g1]; simp (disch := decide) only [gI_nk]; rw [r2.gi (by decide)]; exact g16
    · rw [g1, gI_nk _ _ _ _ _ _ (by decide), gI_eq]
    · rw [g1, gI_eq]
    · exact BN_congr hB (by rw [c4M 60 (by decide) (by decide) (by decide)]; exact cM1 60 (by decide) (by decide)) (by rw [c4M 73 (by decide) (by decide) (by decide)]; exact cM1 73 (by decide) (by decide))
    · exact IM_congr hIm2 (fun i hi => gq i (by omega) (by omega) (by omega)) (by rw [c4M 92 (by decide) (by decide) (by decide)]; exact cM1 92 (by decide) (by decide)) (fun c hc => by rw [c4M c (by omega) (by omega) (by omega)]; exact cM1 c (by omega) (by omega))
theorem e2_no {K : SK} {M : MM} {T : TOLD} {I : Nat → Option TOLD} (hK : KI K ∧ RD M) (hW : TW T) (hC : CT M 1 T) (hM : MT M 0 T) (hB : BN M) (hIm : IM K M I) :
    Inv K (sI (sI (sI (sI (sI (sI (sI M 1 6 0) 1 7 0) 1 8 (-1)) 90 2 (nI (tLen T))) 91 4 0) 91 5 0) 91 6 (-1)) := by
  have k1 : ∀ c, c ≠ 1 → c ≠ 90 → c ≠ 91 → (sI (sI (sI (sI (sI (sI (sI M 1 6 0) 1 7 0) 1 8 (-1)) 90 2 (nI (tLen T))) 91 4 0) 91 5 0) 91 6 (-1)).1 c = M.1 c := fun c c1 c2 c3 => by
    rw [sI_ne c3, sI_ne c3, sI_ne c3, sI_ne c2, sI_ne c1, sI_ne c1, sI_ne c1]
  have k9 : ∀ i, i ≠ 4 → i ≠ 5 → i ≠ 6 → gI (sI (sI (sI (sI (sI (sI (sI M 1 6 0) 1 7 0) 1 8 (-1)) 90 2 (nI (tLen T))) 91 4 0) 91 5 0) 91 6 (-1)) 91 i = gI M 91 i := fun i h4 h5 h6 => by
    rw [gI_nk _ _ _ _ _ _ h6, gI_nk _ _ _ _ _ _ h5, gI_nk _ _ _ _ _ _ h4]
    simp (disch := decide) only [gI_ne]
  refine ⟨⟨hK.1, RD_congr hK.2 (k1 47 (by decide) (by decide) (by decide))⟩, (T.1, 0, 0, -1, T.2.2.2.2), I, ⟨hW.1, Nat.zero_le _, hW.2.2⟩, CT_head hW hC (fun c c1 c2 => k1 c (by omega) (by omega) (by omega)) ?_ ?_ ?_, MT_head hW hM (fun i _ h3 => by rw [Nat.zero_add]; exact k9 _ (by omega) (by omega) (by omega)) ?_ ?_ ?_, BN_congr hB (k1 60 (by decide) (by decide) (by decide)) (k1 73 (by decide) (by decide) (by decide)), IM_congr hIm (fun i hi => k9 i (by omega) (by omega) (by omega)) (k1 92 (by decide) (by decide) (by decide)) (fun c hc => k1 c (by omega) (by omega) (by omega))⟩
  · simp (disch := decide) only [gI_ne, gI_nk, gI_eq]; rfl
  · simp (disch := decide) only [gI_ne, gI_nk, gI_eq]
  · simp (disch := decide) only [gI_ne, gI_nk, gI_eq]
  · rw [Nat.zero_add]; simp (disch := decide) only [gI_nk, gI_eq]; rfl
  · rw [Nat.zero_add]; simp (disch := decide) only [gI_nk, gI_eq]
  · rw [Nat.zero_add]; simp (disch := decide) only [gI_eq]
theorem isOf_g {M : MM} {x n : Nat} (hx : x < 4) (hn : n ≤ 2) (h : gI M 91 x = nI n) : (∀ {y : Int32}, (y < 0 ∨ nI n ≤ y) → fX12_isOf M (nI x) y = some 0) ∧ ∀ k, k < n → fX12_isOf M (nI x) (nI k) = some 1 := by
  refine ⟨fun {y} hy => ?_, fun k hk => ?_⟩
  · unfold fX12_isOf
    rw [gd_t (inb_nI (by omega) (by decide)), gd_t (isIn_b _ _ _), ix_nI (by omega), h, isIn_f]
    rcases hy with h | h
    · exact Or.inl h
    · refine Or.inr ?_
      rw [le_toInt (by omega)] at h
      rw [Int32.lt_iff_toInt_lt, show (1 : Int32) = nI 1 from rfl, pk_sub_toInt (by omega) (by decide)]
      omega
  · unfold fX12_isOf
    rw [gd_t (inb_nI (by omega) (by decide)), gd_t (isIn_b _ _ _), ix_nI (by omega), h, isIn_t]
    · exact nI_pos (by omega)
    · rw [Int32.lt_iff_toInt_lt, show (1 : Int32) = nI 1 from rfl, pk_sub_toInt (by omega) (by decide), nI_toInt (by omega)]
      omega
theorem e2 : E2 Inv := by
  intro K M x1 x2 hI
  obtain ⟨hK, T, I, hW, hC, hM, hB, hIm⟩ := id hI
  have hno := e2_no hK hW hC hM hB hIm
  have h16 : gI M 1 6 = nI (tLen T) := hC.2.1
  have e914 : gI (sI (sI (sI M 1 6 0) 1 7 0) 1 8 (-1)) 91 4 = nI (tLen T) := by simp (disch := decide) only [gI_ne]; exact hM.2.1
  unfold fX11_text fX12_text
  simp only [bnd_r]
  rw [h16, show ix 4 = 4 by decide, show ix 5 = 5 by decide, show ix 6 = 6 by decide]
  rcases rng x1 (n := 4) (by decide) with h | ⟨x, hx, rfl⟩
  · refine ⟨-2, sI (sI (sI M 1 6 0) 1 7 0) 1 8 (-1), _, false, ?_, ?_, hno⟩
    · rcases h with h | h
      · rw [if_pos h]
      · by_cases c : x1 < 0
        · rw [if_pos c]
        · rw [if_neg c, if_neg (show ¬ x1 < 4 from fun q => by
            have h1 := (le_toInt (n := 4) (by decide)).mp h
            have h2 := (lt_toInt (n := 4) (by decide)).mp q
            omega)]
    · rw [show (3 : Int32) = nI 3 from rfl, isIn3_no (by decide) h, if_pos rfl, e914]
  · have hn2 : tNum T x ≤ 2 := hW.1 x hx
    have r1 : fX12_isIn (nI x) 0 3 = 1 := isIn3_yes (n := 3) (by decide) (by omega)
    have g2 : gI (sI (sI (sI M 1 6 0) 1 7 0) 1 8 (-1)) 2 x = nI (tNum T x) := by simp (disch := decide) only [gI_ne]; exact hC.1 x hx
    rw [if_neg (nI_pos (by omega)), if_pos (show nI x < 4 from nI_lt (b := 4) hx (by decide)), gd_inb hx (by decide), ix_nI (by omega), g2, r1]
    have g91x : ∀ M1 : MM, M1.1 91 = M.1 91 → gI (sI (sI (sI (sI M1 90 2 (gI M1 91 4)) 91 4 0) 91 5 0) 91 6 (-1)) 91 x = nI (tNum T x) := fun M1 e => by
      simp (disch := omega) only [gI_nk]
      rw [gI_ne _ _ _ _ _ _ (by decide), gI_of e]
      have := hM.1 x hx
      rw [Nat.zero_add] at this; exact this
    have e91 : (sI (sI (sI M 1 6 0) 1 7 0) 1 8 (-1)).1 91 = M.1 91 := by rw [sI_ne (by decide), sI_ne (by decide), sI_ne (by decide)]
    by_cases c : x2 = -1
    · rw [if_pos c]
      unfold fX11_text_j65
      rw [if_neg i10]
      by_cases d : tNum T x < 2
      · obtain ⟨r, M1, M2, a1, a2, eM1, a3⟩ := e2_go hK hW hC hM hB hIm (x := x) (k := tNum T x) (n := tNum T x + 1) (x2 := x2) (y := 1) hx (Or.inl ⟨c, rfl, d, rfl, rfl⟩)
        refine ⟨r, M1, M2, true, ?_, ?_, a3⟩
        · rw [nl2, lt_t d (by decide)]
          unfold fX11_text_j81
          rw [if_neg i10]; exact a1
        · rw [if_neg i10, if_pos c, gd_inb (by omega) (by decide), g91x M1 eM1, nl2, lt_t d (by decide)]; exact a2
      · refine ⟨-2, sI (sI (sI M 1 6 0) 1 7 0) 1 8 (-1), _, false, ?_, ?_, hno⟩
        · rw [nl2, lt_f (by omega) (by omega)]
        · rw [if_neg i10, if_pos c, gd_inb (by omega) (by decide), g91x _ e91, nl2, lt_f (by omega) (by omega), e914]
    · rw [if_neg c]
      unfold fX11_text_j65
      rw [if_pos rfl]
      unfold fX11_text_j81
      rw [if_pos rfl]
      rcases rng x2 (n := tNum T x) (by omega) with h | ⟨k, hk, rfl⟩
      · refine ⟨-2, sI (sI (sI M 1 6 0) 1 7 0) 1 8 (-1), _, false, ?_, ?_, hno⟩
        · rcases h with h | h
          · rw [if_pos h]
          · by_cases d : x2 < 0
            · rw [if_pos d]
            · rw [if_neg d, if_neg (show ¬ x2 < nI (tNum T x) from fun q => by
                have h1 := (le_toInt (by omega)).mp h
                have h2 := (lt_toInt (by omega)).mp q
                omega)]
        · rw [if_neg i10, if_neg c, isOf_g hx hn2 (g91x _ e91) |>.1 h, bd_s, if_pos rfl, e914]
      · obtain ⟨r, M1, M2, a1, a2, eM1, a3⟩ := e2_go hK hW hC hM hB hIm (x := x) (k := k) (n := tNum T x) (x2 := nI k) (y := 0) hx (Or.inr ⟨rfl, rfl, hk, rfl⟩)
        refine ⟨r, M1, M2, true, ?_, ?_, a3⟩
        · rw [if_neg (nI_pos (by omega)), lt_t hk (by omega)]; exact a1
        · rw [if_neg i10, if_neg c, (isOf_g hx hn2 (g91x M1 eM1)).2 k hk, bd_s, if_neg i10]; exact a2
