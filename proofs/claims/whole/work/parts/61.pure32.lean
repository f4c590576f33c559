/-! the reference's spoon -/
theorem MS_un {M : MM} {o p q g : Nat} {P : PARD} {S : SCN} (hS : SW S) (hH : ∀ k, k < cS S → cHd S k = false) (h : MS M o P (spo S p q g false)) : MS (sI M 90 14 (nI (cS S))) o P S := by
  obtain ⟨h1, h2, h3, h4, h5, h6, h7, h8, h9, h10, h11, h12, h12b, bo, h13, h14⟩ := h
  have g0 : ∀ d k, d ≠ 90 → gI (sI M 90 14 (nI (cS S))) d k = gI M d k := fun d k hd => gI_ne _ _ _ _ _ _ hd
  have g90 : ∀ k, k ≠ 14 → gI (sI M 90 14 (nI (cS S))) 90 k = gI M 90 k := fun k hd => gI_nk _ _ _ _ _ _ hd
  refine ⟨by rw [g90 _ (by decide)]; exact h1, MP_congr h3 h2 (fun i _ => g0 91 _ (by decide)), h3, h4, hS, h6, h7, by rw [g90 _ (by decide)]; exact h8, gI_eq _ _ _ _, fun k hk => ⟨?_, ?_⟩, fun k hk j hj => ?_, fun k hk => ?_, hH, bo, by rw [g90 _ (by decide)]; exact h13, h14⟩
  · rw [g0 94 _ (by decide)]; exact (h10 k hk).1
  · rw [g0 95 _ (by decide)]; exact (h10 k hk).2
  · have := h11 k (show k < cS S + 1 by omega) j hj
    rw [spo_old S (by omega)] at this
    rw [g0 (96 + j) _ (by omega)]; exact this
  · rw [g0 101 _ (by decide)]; exact h12 k hk
def mSp (M : MM) (s : Nat) (q g p : Int32) : MM := sI (sI (sI (sI (sI (sI M 96 s 1) 97 s q) 98 s g) 99 s 9) 100 s p) 90 14 (nI s + 1)
theorem mSp_fr (M : MM) (s : Nat) (q g p : Int32) : Fr rL M (mSp M s q g p) := by
  unfold mSp
  exact (((((Fr.rfl.pI (by decide)).pI (by decide)).pI (by decide)).pI (by decide)).pI (by decide)).pI (by decide)
theorem MS_spo {M : MM} {o p q g : Nat} {P : PARD} {S : SCN} (h : MS M o P S) (hs : cS S < 8) (hp : p < 4) (hq : inP (cW S) (cH S) q) (hg : g < 8) : MS (mSp M (cS S) (nI q) (nI g) (nI p)) o P (spo S p q g false) := by
  obtain ⟨h1, h2, h3, h4, h5, h6, h7, h8, h9, h10, h11, h12, h12b, bo, h13, h14⟩ := h
  have g0 : ∀ d k, d ≠ 90 → d ≠ 96 → d ≠ 97 → d ≠ 98 → d ≠ 99 → d ≠ 100 → gI (mSp M (cS S) (nI q) (nI g) (nI p)) d k = gI M d k := fun d k a1 a2 a3 a4 a5 a6 => by
    unfold mSp
    rw [gI_ne _ _ _ _ _ _ a1, gI_ne _ _ _ _ _ _ a6, gI_ne _ _ _ _ _ _ a5, gI_ne _ _ _ _ _ _ a4, gI_ne _ _ _ _ _ _ a3, gI_ne _ _ _ _ _ _ a2]
  have g90 : ∀ k, k ≠ 14 → gI (mSp M (cS S) (nI q) (nI g) (nI p)) 90 k = gI M 90 k := fun k hk => by
    unfold mSp
    rw [gI_nk _ _ _ _ _ _ hk, gI_ne _ _ _ _ _ _ (by decide), gI_ne _ _ _ _ _ _ (by decide), gI_ne _ _ _ _ _ _ (by decide), gI_ne _ _ _ _ _ _ (by decide), gI_ne _ _ _ _ _ _ (by decide)]
  refine ⟨by rw [g90 _ (by decide)]; exact h1, MP_congr h3 h2 (fun i _ => g0 91 _ (by decide) (by decide) (by decide) (by decide) (by decide) (by decide)), h3, h4, spo_SW h5 hs hp hq hg false, h6, h7, by rw [g90 _ (by decide)]; exact h8, ?_, fun k hk => ⟨?_, ?_⟩, fun k hk j hj => ?_, fun k hk => ?_, fun k hk => ?_, bo, by rw [g90 _ (by decide)]; exact h13, h14⟩
  · unfold mSp
    rw [gI_eq, nI_1]
    rfl
  · rw [g0 94 _ (by decide) (by decide) (by decide) (by decide) (by decide) (by decide)]; exact (h10 k hk).1
  · rw [g0 95 _ (by decide) (by decide) (by decide) (by decide) (by decide) (by decide)]; exact (h10 k hk).2
  · have hk : k < cS S + 1 := hk
    unfold mSp
    by_cases e : k = cS S
    · subst e
      rcases (show j = 0 ∨ j = 1 ∨ j = 2 ∨ j = 3 ∨ j = 4 by omega) with rfl | rfl | rfl | rfl | rfl
      · rw [spo_0]; simp (disch := omega) only [gI_ne, gI_eq]; rfl
      · rw [spo_1]; simp (disch := omega) only [gI_ne, gI_eq]
      · rw [spo_2]; simp (disch := omega) only [gI_ne, gI_eq]
      · rw [spo_3]; simp (disch := omega) only [gI_ne, gI_eq]; rfl
      · rw [spo_4]; simp (disch := omega) only [gI_ne, gI_eq]
    · rw [spo_old S e, gI_ne _ _ _ _ _ _ (by omega), gI_nk _ _ _ _ _ _ e, gI_nk _ _ _ _ _ _ e, gI_nk _ _ _ _ _ _ e, gI_nk _ _ _ _ _ _ e, gI_nk _ _ _ _ _ _ e]
      exact h11 k (by omega) j hj
  · rw [g0 101 _ (by decide) (by decide) (by decide) (by decide) (by decide) (by decide)]; exact h12 k hk
  · have hk : k < cS S + 1 := hk
    rw [spo_hd]
    by_cases e : k = cS S
    · rw [if_pos e]
    · rw [if_neg e]; exact h12b k (by omega)
theorem spoon_ref {M : MM} {o l0 p : Nat} {P : PARD} {S : SCN} {L : Nat → Nat} (hM : MS M o P S) (hL : ML M l0 L (L 0)) (hs : cS S < 8) (hp : p < 4) (x5 : Int32) : ∃ M2, Fr rL M M2 ∧ ∀ k : MM → Int32 → Int32 → Int32 → Option (Int32 × MM), fX12_spoon_l44 k FU M (nI p) x5 (-1) 0 (nI (cS S)) (nI 0) = k M2 x5 (bW (foldB false (candN S L p) (8 * (cW S * cH S)))) (nI (bV (foldB false (candN S L p) (8 * (cW S * cH S))))) := by
  have hS := hM.2.2.2.2.1
  have hH := hM.2.2.2.2.2.2.2.2.2.2.2.2.1
  have h64 := wh_64 hS
  have hw : 0 < cW S := by have := hS.1.1; omega
  have hLW := hL.2.2.2.2.2
  have key := lpk (κ := MM → Int32 → Int32 → Int32 → Option (Int32 × MM)) (σ := MM × Nat) (fun k f st => fX12_spoon_l44 k f st.1 (nI p) x5 (bW (foldB false (candN S L p) st.2)) (nI (bV (foldB false (candN S L p) st.2))) (nI (cS S)) (nI st.2)) (fun k M2 => k M2 x5 (bW (foldB false (candN S L p) (8 * (cW S * cH S)))) (nI (bV (foldB false (candN S L p) (8 * (cW S * cH S)))))) (8 * (cW S * cH S))
    (fun c st => c = st.2 ∧ Fr rL M st.1 ∧ (∃ S2, MS st.1 o P S2 ∧ cW S2 = cW S ∧ cH S2 = cH S) ∧ MS (sI st.1 90 14 (nI (cS S))) o P S ∧ ML st.1 l0 L (L 0)) (fun M2 => Fr rL M M2) ?_ ?_ FU 0 (M, 0) (by omega) (by show _ < 5000; omega) ⟨rfl, Fr.rfl, ⟨S, hM, rfl, rfl⟩, MS_gen hM (fun k hk => by
      show gI (sI M 90 14 (nI (cS S))) 90 k = gI M 90 k
      by_cases e : k = 14
      · rw [e, gI_eq]; exact hM.2.2.2.2.2.2.2.2.1.symm
      · rw [gI_nk _ _ _ _ _ _ e]) (fun c k hc => gI_ne _ _ _ _ _ _ (by omega)), hL⟩
  · obtain ⟨M2, h1, h2⟩ := key
    exact ⟨M2, h1, h2⟩
  · rintro c ⟨M1, c2⟩ hc ⟨rfl, hF, ⟨S2, s1, s2, s3⟩, b1, b2⟩
    left
    simp only [] at hF s1 b1 b2
    have hc8 : c / 8 < cW S * cH S := by omega
    have ed : nI c / 8 = nI (c / 8) := pk_div (d := 8) (by omega) (by decide) (by decide)
    have er : nI c - nI c / 8 * 8 = nI (c % 8) := pk_rem (d := 8) (by omega) (by decide) (by decide)
    rw [ed] at er
    have esq : fX12_isSquare M1 (nI (c / 8)) = some 1 := isSquare_yes s1 (by rw [s2, s3]; exact hc8)
    have hq : inP (cW S) (cH S) (sq8 (cW S) (c / 8)) := sq8_inP hw hS.1.2 hc8
    have hq64 := inP_64 hS.2.1.2 hq
    have hF3 : Fr rL M1 (sI M1 90 14 (nI (cS S))) := Fr.rfl.pI (by decide)
    have hL3 : ML (sI M1 90 14 (nI (cS S))) l0 L (L 0) := ML_gen b2 (gI_nk _ _ _ _ _ _ (by decide)) (gI_nk _ _ _ _ _ _ (by decide)) (fun k => gI_ne _ _ _ _ _ _ (by decide))
    have eins := inside_spec b1 (c := c / 8) (by omega)
    have ho := onS_lt hS (sq8 (cW S) (c / 8))
    have head : ∀ k f, fX12_spoon_l44 k (f + 1) M1 (nI p) x5 (bW (foldB false (candN S L p) c)) (nI (bV (foldB false (candN S L p) c))) (nI (cS S)) (nI c) = _ := fun k f => by
      rw [fX12_spoon_l44.eq_2, ed, er, esq, bd_s, if_neg i10, bnd_r, eins, bd_s, on_spec b1 hq64, bd_s, nI_1]
    by_cases z : onS S (sq8 (cW S) (c / 8)) = 0
    · have hcand : candN S L p c = some (seatS (totS (spo S p (sq8 (cW S) (c / 8)) (c % 8) false) (L 0) L) L p) := by unfold candN; rw [if_pos ⟨hc8, z⟩]
      have hM5 := MS_spo b1 hs hp hq (g := c % 8) (by omega)
      have hF5 := mSp_fr (sI M1 90 14 (nI (cS S))) (cS S) (nI (sq8 (cW S) (c / 8))) (nI (c % 8)) (nI p)
      have hL5 : ML (mSp (sI M1 90 14 (nI (cS S))) (cS S) (nI (sq8 (cW S) (c / 8))) (nI (c % 8)) (nI p)) l0 L (L 0) := by
        have g90 : ∀ k, k ≠ 14 → gI (mSp (sI M1 90 14 (nI (cS S))) (cS S) (nI (sq8 (cW S) (c / 8))) (nI (c % 8)) (nI p)) 90 k = gI (sI M1 90 14 (nI (cS S))) 90 k := fun k hk => by
          unfold mSp
          rw [gI_nk _ _ _ _ _ _ hk, gI_ne _ _ _ _ _ _ (by decide), gI_ne _ _ _ _ _ _ (by decide), gI_ne _ _ _ _ _ _ (by decide), gI_ne _ _ _ _ _ _ (by decide), gI_ne _ _ _ _ _ _ (by decide)]
        exact ML_gen hL3 (g90 _ (by decide)) (g90 _ (by decide)) (fun k => hF5.gi (by decide) k)
      obtain ⟨M6, d1, d2, -, d4, d5, d6⟩ := gives_ref hM5 hL5
      have hv : seatS (totS (spo S p (sq8 (cW S) (c / 8)) (c % 8) false) (L 0) L) L p ≤ 2000 := giv_b _ L p hLW (fun p2 => totS_le hM5.2.2.2.2.1 _ _ _)
      refine ⟨(M6, c + 1), ⟨rfl, ((hF.trans hF3).trans hF5).trans (d2.mono (by decide)), ⟨_, d5, rfl, rfl⟩, MS_un hS hH d5, d6⟩, fun k f => (head k f).trans ?_⟩
      show _ = fX12_spoon_l44 k f M6 (nI p) x5 (bW (foldB false (candN S L p) (c + 1))) (nI (bV (foldB false (candN S L p) (c + 1)))) (nI (cS S)) (nI (c + 1))
      have ei30 : fX12_inside (sI (sI M1 90 14 (nI (cS S))) 96 (cS S) 1) (nI (c / 8)) = some (nI (sq8 (cW S) (c / 8))) := by
        have e1 : ∀ N : MM, fX12_inside (sI N 96 (cS S) 1) (nI (c / 8)) = fX12_inside N (nI (c / 8)) := fun N => by
          unfold fX12_inside fX12_wide
          rw [gI_ne _ _ _ _ _ _ (by decide), gI_ne _ _ _ _ _ _ (by decide)]
        rw [e1]; exact eins
      rw [if_pos (show nI (onS S (sq8 (cW S) (c / 8))) = 0 by rw [z]; rfl), gd_inb hs (by decide), ix_nI (by omega), bnd_r, ei30, bd_s, gd_inb hs (by decide), bnd_r, gd_inb hs (by decide), bnd_r, gd_inb hs (by decide), bnd_r, gd_inb hs (by decide), bnd_r, bnd_r]
      have d1 : fX12_gives (sI (sI (sI (sI (sI (sI (sI M1 90 14 (nI (cS S))) 96 (cS S) 1) 97 (cS S) (nI (sq8 (cW S) (c / 8)))) 98 (cS S) (nI (c % 8))) 99 (cS S) 9) 100 (cS S) (nI p)) 90 14 (nI (cS S + 1))) = some M6 := by
        rw [← nI_1]; exact d1
      rw [d1, bd_s, gd_inb hp (by decide), ix_nI (by omega), d4 p hp, foldB_some hcand]
      unfold fX12_spoon_j166
      rw [gd_inb hp (by decide), ix_nI (by omega), bnd_r, d4 p hp, nI_1]
      exact ref_max (foldB_b2 (candN_le hS hs hLW hp) (by omega)) (by omega) (fun u w => fX12_spoon_l44 k f M6 (nI p) x5 u w (nI (cS S)) (nI (c + 1)))
    · have hcand : candN S L p c = none := by unfold candN; rw [if_neg (fun q => z q.2)]
      refine ⟨(sI M1 90 14 (nI (cS S)), c + 1), ⟨rfl, hF.trans hF3, ⟨S, b1, rfl, rfl⟩, ?_, hL3⟩, fun k f => (head k f).trans ?_⟩
      · exact MS_gen b1 (fun k hk => by
          show gI (sI (sI M1 90 14 (nI (cS S))) 90 14 (nI (cS S))) 90 k = _
          by_cases e : k = 14
          · rw [e, gI_eq, gI_eq]
          · rw [gI_nk _ _ _ _ _ _ e]) (fun c k hc => gI_ne _ _ _ _ _ _ (by omega))
      · show _ = fX12_spoon_l44 k f (sI M1 90 14 (nI (cS S))) (nI p) x5 (bW (foldB false (candN S L p) (c + 1))) (nI (bV (foldB false (candN S L p) (c + 1)))) (nI (cS S)) (nI (c + 1))
        rw [nl0, eqn_f z (by omega) (by decide), foldB_none hcand, nI_1]
  · rintro ⟨M1, c2⟩ ⟨rfl, hF, ⟨S2, s1, s2, s3⟩, b1, b2⟩
    simp only [] at s1
    refine ⟨M1, hF, fun k f => ?_⟩
    have ed : nI (8 * (cW S * cH S)) / 8 = nI (cW S * cH S) := by
      rw [show nI (8 * (cW S * cH S)) / 8 = nI (8 * (cW S * cH S) / 8) from pk_div (d := 8) (by omega) (by decide) (by decide), Nat.mul_div_cancel_left _ (by decide)]
    have esq : fX12_isSquare M1 (nI (cW S * cH S)) = some 0 := isSquare_no s1 (Or.inr (by rw [s2, s3]; exact nI_le (Nat.le_refl _) (by omega)))
    show fX12_spoon_l44 k (f + 1) M1 (nI p) x5 _ _ (nI (cS S)) (nI (8 * (cW S * cH S))) = _
    rw [fX12_spoon_l44.eq_2, ed, esq, bd_s, if_pos rfl]
theorem e17 : E17 Inv := by
  intro K M x1 x2 x3 x4 hx4 hI
  refine pl_case (v := -1) hI (C := fX11_spoon M x1 x2 x3 x4) (R := fun M1 => fX12_spoon M1 x1 x2 x3 x4) rfl (fun _ => rfl) ?_
  intro T j l hW hC hM hB hj hl e1 e2
  have hP := hW.2.2.2.1 j hj
  have hSW := scn_SW hP
  have hs8 := hP.2.2.2.1
  have c4 := (hC.2.2.2.2.2.1 j hj).2.2.2.1
  rcases rng x3 (n := 4) (by decide) with h | ⟨p, hp, rfl⟩
  · refine ⟨-1, M, by rw [isParty_no h, if_pos rfl], Fr.rfl, hB, fun M3 _ hS _ => ⟨M3, ?_, Fr.rfl⟩⟩
    rw [nl3, isIn3_no (by decide) h, if_pos rfl]
  · have p3 : fX12_isIn (nI p) 0 3 = 1 := isIn3_yes (n := 3) (by decide) (by omega)
    rw [isParty_yes hp, if_neg i10, c4]
    by_cases h8 : pS (tPar T j) = 8
    · refine ⟨-1, M, by rw [nl8, lt_f (by omega) (by omega)], Fr.rfl, hB, fun M3 _ hS _ => ⟨M3, ?_, Fr.rfl⟩⟩
      rw [p3, if_neg i10]
      have e14 : gI M3 90 14 = nI 8 := by rw [hS.2.2.2.2.2.2.2.2.1]; exact congrArg nI h8
      show (if gI M3 90 14 = 8 then _ else _) = _
      rw [e14, if_pos (show nI 8 = 8 from rfl)]
    · have h8 : cS (scnOf (tPar T j)) < 8 := by show pS (tPar T j) < 8; omega
      obtain ⟨M1, a1, a2, a3, a4, -, a6⟩ := par_beg hW hC hB hj
      obtain ⟨M2, b1, b2, b3⟩ := choice_beg (M := M1)
      have hF2 : Fr cL M M2 := a2.trans (b2.mono (by decide))
      obtain ⟨M3, f0, d1, d2, d3, d4⟩ := spoon_add (p := p) (BS_fr a3 b2 (by decide)) h8 hp rfl (by rw [b2.gi (by decide)]; exact a6 _ h8)
      have hF3 : Fr cL M M3 := hF2.trans (d2.mono (by decide))
      obtain ⟨M5, ⟨g1, g2, g3⟩, g4⟩ := spoon_loop (a1 := 1 + (6 + 16 * j)) hSW h8 hp (CLw_fr (told_law hC hW hl) hF3 (by decide)) d3 d4 (BO_fr b3 d2 (by decide))
      have cls : fX1_addSpoon M (1 + (6 + 16 * j)) (1 + (15 + 16 * l)) (nI p) = some M5 := by
        unfold fX1_addSpoon
        rw [a1, bd_s, b1, bd_s, d1, bd_s, m1_iff (by omega)]
        exact g4 ()
      have g3 : BO M5 (foldB false (candN (scnOf (tPar T j)) (tLaw T l) p) (8 * (pW (tPar T j) * pH (tPar T j)))) := g3
      have href : ∀ M3, MS M3 (610 + 124 * j) (tPar T j) (scnOf (tPar T j)) → ML M3 (858 + 6 * l) (tLaw T l) (tLaw T l 0) → ∃ M2, Fr rL M3 M2 ∧ ∀ k : MM → Int32 → Int32 → Int32 → Option (Int32 × MM), fX12_spoon_l44 k FU M3 (nI p) x4 (-1) 0 (nI (pS (tPar T j))) (nI 0) = k M2 x4 (bW (foldB false (candN (scnOf (tPar T j)) (tLaw T l) p) (8 * (pW (tPar T j) * pH (tPar T j))))) (nI (bV (foldB false (candN (scnOf (tPar T j)) (tLaw T l) p) (8 * (pW (tPar T j) * pH (tPar T j)))))) := fun M3 hS hL => spoon_ref hS hL h8 hp x4
      generalize hb : foldB false (candN (scnOf (tPar T j)) (tLaw T l) p) (8 * (pW (tPar T j) * pH (tPar T j))) = b at *
      refine ⟨if bW b = -1 then -1 else if x4 = 0 then bW b else nI (bV b), M5, ?_, hF3.trans g1, g2, fun M3 _ hS hL => ?_⟩
      · rw [nl8, lt_t (show pS (tPar T j) < 8 from h8) (by decide), cls, bd_s, g3.1, g3.2.1]
        by_cases c : bW b = -1
        · rw [if_pos c, if_pos c]
        · rw [if_neg c, if_neg c]
          by_cases d : x4 = 0
          · rw [if_pos d, if_pos d]
          · rw [if_neg d, if_neg d]
      · obtain ⟨M4, r1, r2⟩ := href M3 hS hL
        refine ⟨M4, ?_, r1⟩
        have e14 : gI M3 90 14 = nI (pS (tPar T j)) := hS.2.2.2.2.2.2.2.2.1
        rw [p3, if_neg i10]
        show (if gI M3 90 14 = 8 then _ else bnd (gI M3 90 14) _) = _
        rw [e14, nl8, eqn_f (by show pS (tPar T j) ≠ 8; have : pS (tPar T j) < 8 := h8; omega) (by omega) (by decide), bnd_r]
        refine (r2 _).trans ?_
        by_cases c : bW b = -1
        · rw [if_pos c, if_pos c, c]
        · rw [if_neg c, if_neg c]
          by_cases d : x4 = 0
          · rw [if_pos d, if_pos d]
          · rw [if_neg d, if_neg d]
