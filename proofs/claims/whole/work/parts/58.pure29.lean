theorem e15 : E15 Inv := by
  intro K M x1 x2 x3 x4 x5 hx5 hI
  refine pl_case (v := -1) hI (C := fX11_together M x1 x2 x3 x4 x5) (R := fun M1 => fX12_together M1 x1 x2 x3 x4 x5) rfl (fun _ => rfl) ?_
  intro T j l hW hC hM hB hj hl e1 e2
  have hP := hW.2.2.2.1 j hj
  have hn8 := hP.2.2.1
  have h2 := num_lt hW (s := 0) (by decide)
  have hcp := hC.2.2.2.2.2.1 j hj
  have c3 := hcp.2.2.1
  have refNo : ∀ M3, MS M3 (610 + 124 * j) (tPar T j) (scnOf (tPar T j)) → (x3 = x4 ∨ (x3 < 0 ∨ nI (pN (tPar T j)) ≤ x3) ∨ (x4 < 0 ∨ nI (pN (tPar T j)) ≤ x4)) → ((fX12_isPerson M3 x3).bind fun p4 => if p4 = 0 then some (-1, M3) else (fX12_isPerson M3 x4).bind fun p7 => if p7 = 0 then some (-1, M3) else if x3 = x4 then some (-1, M3) else gd (inb x3 8) (bnd (gI M3 94 (ix x3)) fun v12 => gd (inb x4 8) (bnd (gI M3 94 (ix x4)) fun v15 => fX12_together_l60 (fun M107 y108 y109 y110 => if y108 = 0 then some (y109, M107) else some (y110, M107)) FU M3 x3 x4 x5 v12 v15 (-1) 0 0))) = some (-1, M3) := fun M3 hS h => by
    rcases rng x3 (n := pN (tPar T j)) (by omega) with q | ⟨a, ha, rfl⟩
    · rw [isPerson_no hS q, bd_s, if_pos rfl]
    · rw [isPerson_yes hS ha, bd_s, if_neg i10]
      rcases rng x4 (n := pN (tPar T j)) (by omega) with q | ⟨b, hb, rfl⟩
      · rw [isPerson_no hS q, bd_s, if_pos rfl]
      · rw [isPerson_yes hS hb, bd_s, if_neg i10]
        rcases h with h | (h | h) | (h | h)
        · rw [if_pos h]
        · exact absurd h (nI_pos (by omega))
        · exact absurd h (nI_ge ha (by omega))
        · exact absurd h (nI_pos (by omega))
        · exact absurd h (nI_ge hb (by omega))
  by_cases hab : x3 = x4
  · exact ⟨-1, M, by rw [if_pos hab], Fr.rfl, hB, fun M3 _ hS _ => ⟨M3, refNo M3 hS (Or.inl hab), Fr.rfl⟩⟩
  · rw [if_neg hab]
    rcases rng x3 (n := pN (tPar T j)) (by omega) with q | ⟨a, ha, rfl⟩
    · exact ⟨-1, M, by rw [hasPerson_no c3 q, if_pos rfl], Fr.rfl, hB, fun M3 _ hS _ => ⟨M3, refNo M3 hS (Or.inr (Or.inl q)), Fr.rfl⟩⟩
    · rw [hasPerson_yes c3 (by omega) ha, if_neg i10]
      rcases rng x4 (n := pN (tPar T j)) (by omega) with q | ⟨b, hb, rfl⟩
      · exact ⟨-1, M, by rw [hasPerson_no c3 q, if_pos rfl], Fr.rfl, hB, fun M3 _ hS _ => ⟨M3, refNo M3 hS (Or.inr (Or.inr q)), Fr.rfl⟩⟩
      · have hne : a ≠ b := fun z => hab (by rw [z])
        have hD := scn_DI hP
        obtain ⟨M1, a1, a2, a3, a4, -⟩ := par_beg hW hC hB hj
        obtain ⟨M2, b1, b2, b3⟩ := choice_beg (M := M1)
        have hF2 : Fr cL M M2 := a2.trans (b2.mono (by decide))
        have ea : gI M2 (1 + (6 + 16 * j) + 1) a = nI (sqC (pW (tPar T j)) (pAt (tPar T j) a)) := by
          rw [hF2.gi (by simp; omega)]
          exact (hcp.2.2.2.2.1 a ha).1
        obtain ⟨M3, d1, d2, d3⟩ := lay_away (p := a) (q := pAt (tPar T j) a) (BS_fr a3 b2 (by decide)) hD ha rfl
        have hF3 : Fr cL M M3 := hF2.trans (d2.mono (by decide))
        have eb : gI M3 (1 + (6 + 16 * j) + 1) b = nI (sqC (pW (tPar T j)) (pAt (tPar T j) b)) := by
          rw [hF3.gi (by simp; omega)]
          exact (hcp.2.2.2.2.1 b hb).1
        have hD1 : DI (setA (scnOf (tPar T j)) a none) := setA_DI hD (fun q z => by cases z)
        obtain ⟨M4, f1, f2, f3⟩ := lay_away (S := setA (scnOf (tPar T j)) a none) (p := b) (q := pAt (tPar T j) b) d3 hD1 hb (by rw [setA_at, if_neg (fun z => hne z.symm)]; rfl)
        have hF4 : Fr cL M M4 := hF3.trans (f2.mono (by decide))
        have hD2 : DI (awS (scnOf (tPar T j)) a b) := setA_DI hD1 (fun q z => by cases z)
        obtain ⟨M5, ⟨g1, g2, g3⟩, g4⟩ := two_loop (S := scnOf (tPar T j)) (a1 := 1 + (6 + 16 * j)) (scn_SW hP) f3 hD2 (CLw_fr (told_law hC hW hl) hF4 (by decide)) ha hb hne (BO_fr (BO_fr b3 d2 (by decide)) f2 (by decide))
        have cls : fX1_placeTwo M (1 + (6 + 16 * j)) (1 + (15 + 16 * l)) (nI a) (nI b) = some M5 := by
          unfold fX1_placeTwo
          rw [a1, bd_s, b1, bd_s, gd_inb (by omega) (by decide), ix_nI (by omega), ea]
          have d1' : fX0_lay M2 (nI (sqC (pW (tPar T j)) (pAt (tPar T j) a))) 0 = some M3 := d1
          rw [d1', bd_s, gd_inb (by omega) (by decide), ix_nI (by omega), eb]
          have f1' : fX0_lay M3 (nI (sqC (pW (tPar T j)) (pAt (tPar T j) b))) 0 = some M4 := f1
          rw [f1', bd_s]
          exact g4 ()
        have h64 : pW (tPar T j) * pH (tPar T j) ≤ 64 := wh_64 (scn_SW hP)
        have hfold : foldB false (cand2 (scnOf (tPar T j)) (tLaw T l) a b) 4096 = foldB false (cand2 (scnOf (tPar T j)) (tLaw T l) a b) (64 * (cW (scnOf (tPar T j)) * cH (scnOf (tPar T j)))) := foldB_skip 4096 (by show 64 * (pW (tPar T j) * pH (tPar T j)) ≤ 4096; omega) (fun k h1 h2 => by
          unfold cand2
          rw [if_neg (fun q => by
            have := q.2.1
            have h1 : 64 * (pW (tPar T j) * pH (tPar T j)) ≤ k := h1
            have this : k / 64 < pW (tPar T j) * pH (tPar T j) := this
            omega)])
        rw [← hfold] at g3
        rw [hasPerson_yes c3 (by omega) hb, if_neg i10, cls, bd_s, g3.1, g3.2.1]
        have head : ∀ M3, MS M3 (610 + 124 * j) (tPar T j) (scnOf (tPar T j)) → ML M3 (858 + 6 * l) (tLaw T l) (tLaw T l 0) → ∃ M4, Fr rL M3 M4 ∧ ((fX12_isPerson M3 (nI a)).bind fun p4 => if p4 = 0 then some (-1, M3) else (fX12_isPerson M3 (nI b)).bind fun p7 => if p7 = 0 then some (-1, M3) else if nI a = nI b then some (-1, M3) else gd (inb (nI a) 8) (bnd (gI M3 94 (ix (nI a))) fun v12 => gd (inb (nI b) 8) (bnd (gI M3 94 (ix (nI b))) fun v15 => fX12_together_l60 (fun M107 y108 y109 y110 => if y108 = 0 then some (y109, M107) else some (y110, M107)) FU M3 (nI a) (nI b) x5 v12 v15 (-1) 0 0))) = if x5 = 0 then some (bW (foldB false (cand2 (scnOf (tPar T j)) (tLaw T l) a b) 4096), M4) else some (nI (bV (foldB false (cand2 (scnOf (tPar T j)) (tLaw T l) a b) 4096)), M4) := fun M3 hS hL => by
          obtain ⟨M4, r1, r2⟩ := together_ref hS hD hL ha hb hne ⟨_, rfl⟩ ⟨_, rfl⟩ x5
          refine ⟨M4, r1, ?_⟩
          rw [isPerson_yes hS ha, bd_s, if_neg i10, isPerson_yes hS hb, bd_s, if_neg i10, if_neg hab, gd_inb (by omega) (by decide), ix_nI (by omega), bnd_r, gd_inb (by omega) (by decide), ix_nI (by omega), bnd_r, (hS.2.2.2.2.2.2.2.2.2.1 a ha).1, (hS.2.2.2.2.2.2.2.2.2.1 b hb).1]
          exact r2 _
        by_cases h5 : x5 = 0
        · refine ⟨_, M5, by rw [if_pos h5], hF4.trans g1, BS_BN g2, fun M3 _ hS hL => ?_⟩
          obtain ⟨M4, r1, r2⟩ := head M3 hS hL
          exact ⟨M4, by rw [if_pos h5] at r2; exact r2, r1⟩
        · refine ⟨_, M5, by rw [if_neg h5], hF4.trans g1, BS_BN g2, fun M3 _ hS hL => ?_⟩
          obtain ⟨M4, r1, r2⟩ := head M3 hS hL
          exact ⟨M4, by rw [if_neg h5] at r2; exact r2, r1⟩
/-! ===== the game ===== -/
def lsS (S : SCN) (p : Nat) : Option Nat := fstN (fun s => cSh S s 4 == p) (cS S)
theorem least_cls {M : MM} {a : Nat} {S : SCN} (hS : SW S) (h3 : gI M a 3 = nI (cS S)) (h7 : ∀ s, s < cS S → gI M (a + 7) s = nI (cSh S s 4)) {p : Nat} (hp : p < 4) : fX5_leastShineOf M a (nI p) = some (opI (lsS S p)) := by
  have h8 := hS.2.2.2.1
  have key := lpk (κ := Unit) (σ := Nat) (fun _ f st => fX5_leastShineOf_l2 M a f (nI p) (nI st)) (fun _ (v : Int32) => some v) (cS S)
    (fun i st => i = st ∧ ∀ k, k < i → (cSh S k 4 == p) = false) (fun v => v = opI (lsS S p)) ?_ ?_ FU 0 0 (by omega) (by show _ < 5000; omega) ⟨rfl, fun k hk => absurd hk (Nat.not_lt_zero k)⟩
  · obtain ⟨v, e, h⟩ := key
    rw [e] at h
    exact h ()
  · rintro s s2 hs ⟨rfl, hn⟩
    have h4 := (hS.2.2.2.2.2.2 s hs).2.2.2.2
    by_cases c : cSh S s 4 = p
    · refine Or.inr ⟨nI s, ?_, fun _ f => ?_⟩
      · unfold lsS
        rw [fstN_some hs hn (by simp [c])]
        rfl
      · show fX5_leastShineOf_l2 M a (f + 1) (nI p) (nI s) = _
        rw [fX5_leastShineOf_l2.eq_2, h3, le_f hs (by omega), gd_inb (by omega) (by decide), ix_nI (by omega), h7 s hs, eqn_t c]
    · refine Or.inl ⟨s + 1, ⟨rfl, fun k hk => ?_⟩, fun _ f => ?_⟩
      · by_cases e : k = s
        · rw [e]; simp [c]
        · exact hn k (by omega)
      · show fX5_leastShineOf_l2 M a (f + 1) (nI p) (nI s) = _
        rw [fX5_leastShineOf_l2.eq_2, h3, le_f hs (by omega), gd_inb (by omega) (by decide), ix_nI (by omega), h7 s hs, eqn_f c (by omega) (by omega), nI_1]
  · rintro s ⟨rfl, hn⟩
    refine ⟨-1, ?_, fun _ f => ?_⟩
    · unfold lsS
      rw [fstN_none hn]
      rfl
    · show fX5_leastShineOf_l2 M a (f + 1) (nI p) (nI (cS S)) = _
      rw [fX5_leastShineOf_l2.eq_2, h3, le_t (Nat.le_refl _) (by omega)]
theorem least_ref {M : MM} {o : Nat} {P : PARD} {S : SCN} (hM : MS M o P S) {p : Nat} (hp : p < 4) : fX12_leastOf M (nI p) = some (opI (lsS S p)) := by
  have hS := hM.2.2.2.2.1
  have h8 := hS.2.2.2.1
  have h14 := hM.2.2.2.2.2.2.2.2.1
  have key := lpk (κ := Unit) (σ := Nat) (fun _ f st => fX12_leastOf_l2 M f (nI p) (nI st)) (fun _ (v : Int32) => some v) (cS S)
    (fun i st => i = st ∧ ∀ k, k < i → (cSh S k 4 == p) = false) (fun v => v = opI (lsS S p)) ?_ ?_ FU 0 0 (by omega) (by show _ < 5000; omega) ⟨rfl, fun k hk => absurd hk (Nat.not_lt_zero k)⟩
  · obtain ⟨v, e, h⟩ := key
    rw [e] at h
    exact h ()
  · rintro s s2 hs ⟨rfl, hn⟩
    have h4 := (hS.2.2.2.2.2.2 s hs).2.2.2.2
    have e100 : gI M 100 s = nI (cSh S s 4) := hM.2.2.2.2.2.2.2.2.2.2.1 s hs 4 (by decide)
    by_cases c : cSh S s 4 = p
    · refine Or.inr ⟨nI s, ?_, fun _ f => ?_⟩
      · unfold lsS
        rw [fstN_some hs hn (by simp [c])]
        rfl
      · show fX12_leastOf_l2 M (f + 1) (nI p) (nI s) = _
        rw [fX12_leastOf_l2.eq_2, h14, le_f hs (by omega), gd_inb (by omega) (by decide), ix_nI (by omega), e100, eqn_t c]
    · refine Or.inl ⟨s + 1, ⟨rfl, fun k hk => ?_⟩, fun _ f => ?_⟩
      · by_cases e : k = s
        · rw [e]; simp [c]
        · exact hn k (by omega)
      · show fX12_leastOf_l2 M (f + 1) (nI p) (nI s) = _
        rw [fX12_leastOf_l2.eq_2, h14, le_f hs (by omega), gd_inb (by omega) (by decide), ix_nI (by omega), e100, eqn_f c (by omega) (by omega), nI_1]
  · rintro s ⟨rfl, hn⟩
    refine ⟨-1, ?_, fun _ f => ?_⟩
    · unfold lsS
      rw [fstN_none hn]
      rfl
    · show fX12_leastOf_l2 M (f + 1) (nI p) (nI (cS S)) = _
      rw [fX12_leastOf_l2.eq_2, h14, le_t (Nat.le_refl _) (by omega)]
theorem setF_comm (S : SCN) {a b : Nat} (x y : Nat) (h : a ≠ b) : setF (setF S a x) b y = setF (setF S b y) a x := by
  have : (fun k j => if k = b ∧ j = 2 then y else (if k = a ∧ j = 2 then x else cSh S k j)) = (fun k j => if k = a ∧ j = 2 then x else (if k = b ∧ j = 2 then y else cSh S k j)) := by
    funext k j
    by_cases e : k = a ∧ j = 2
    · rw [if_pos e, if_neg (fun z => h (e.1.symm.trans z.1)), if_pos e]
    · rw [if_neg e, if_neg e]
  show (cW S, cH S, cN S, cS S, cWa S, cAt S, cNm S, (fun k j => if k = b ∧ j = 2 then y else (if k = a ∧ j = 2 then x else cSh S k j)), cSt S, cHd S) = (cW S, cH S, cN S, cS S, cWa S, cAt S, cNm S, (fun k j => if k = a ∧ j = 2 then x else (if k = b ∧ j = 2 then y else cSh S k j)), cSt S, cHd S)
  rw [this]
/-- both faces by a couple -/
def cpS (S : SCN) (a b c : Nat) : SCN := setF (setF S a (c / 8)) b (c % 8)
theorem cp_two {S : SCN} {a b : Nat} (h : a ≠ b) (c d : Nat) : setF (setF (cpS S a b c) a (d / 8)) b (d % 8) = cpS S a b d := by
  unfold cpS
  rw [← setF_comm (setF S a (c / 8)) (d / 8) (c % 8) h, setF_twice, setF_twice]
theorem cp_id {S : SCN} {a b : Nat} (h : a ≠ b) : ∃ x y, setF (setF S a x) b y = S := ⟨cSh S a 2, cSh S b 2, by rw [setF_id, setF_id]⟩
theorem ls_lt {S : SCN} {p s : Nat} (h : lsS S p = some s) : s < cS S ∧ cSh S s 4 = p := by
  obtain ⟨a, b, -⟩ := fstN_out h
  exact ⟨a, by simpa using b⟩
theorem ls_setF (S : SCN) (s f p : Nat) : lsS (setF S s f) p = lsS S p := by
  unfold lsS
  exact fstN_cong (fun k _ => by rw [setF_ne S (by decide)])
theorem and7 : ∀ c, c < 64 → nI c &&& 7 = nI (c % 8) := by decide +kernel
theorem and56 : ∀ c, c < 64 → nI c &&& 56 = nI (c / 8 * 8) := by decide +kernel
theorem couple_cls {M : MM} {S : SCN} {al a b c : Nat} {L : Nat → Nat} (hB : BS M S aT) (hL : CLw M al L) (ha : a < cS S) (hb : b < cS S) (hc : c < 64) : ∃ M2, fX1_turnCouple M al (nI a) (nI b) (nI c) = some M2 ∧ Fr [66, 70, 71, 74, 75, 76, 77] M M2 ∧ BS M2 (setF (setF S a (c / 8)) b (c % 8)) aT ∧ ∀ p, p < 4 → gI M2 71 p = nI (totS (setF (setF S a (c / 8)) b (c % 8)) (L 0) L p) := by
  obtain ⟨M1, a1, a2, a3⟩ := face_spec hB ha (show c / 8 < 8 by omega)
  have a3 := BS_K (K2 := aT) a3 (fun _ _ _ => rfl)
  obtain ⟨M2, b1, b2, b3⟩ := face_spec a3 (s := b) hb (show c % 8 < 8 by omega)
  have b3 := BS_K (K2 := aT) b3 (fun _ _ _ => rfl)
  obtain ⟨M3, d1, d2, d3, d4⟩ := totals_cls b3 (CLw_fr (CLw_fr hL a2 (by decide)) b2 (by decide))
  refine ⟨M3, ?_, ((a2.mono (by decide)).trans (b2.mono (by decide))).trans (d2.mono (by decide)), d4, d3⟩
  unfold fX1_turnCouple
  have e3 : jshr (nI c) 3 = nI (c / 8) := shr_nI (k := 3) (by omega) (by decide)
  rw [e3, a1, bd_s, and7 c hc, b1, bd_s, d1]
  rfl
theorem prizeOf_ref {M : MM} {o l0 a b c who : Nat} {P : PARD} {S : SCN} {L : Nat → Nat} (hM : MS M o P S) (hL : ML M l0 L (L 0)) (ha : lsS S 0 = some a) (hb : lsS S 1 = some b) (hc : c < 64) (hw : who < 4) : ∃ M2, fX12_prizeOf M (nI who) (nI c) = some (nI (totS (setF (setF S a (c / 8)) b (c % 8)) (L 0) L who), M2) ∧ Fr rL M M2 ∧ Fr [98, 102, 103, 104] M M2 ∧ MS M2 o P (setF (setF S a (c / 8)) b (c % 8)) ∧ ML M2 l0 L (L 0) := by
  have hS := hM.2.2.2.2.1
  have h8 := hS.2.2.2.1
  have la := (ls_lt ha).1
  have lb := (ls_lt hb).1
  have ed : nI c / 8 = nI (c / 8) := pk_div (d := 8) (by omega) (by decide) (by decide)
  have er : nI c - nI c / 8 * 8 = nI (c % 8) := pk_rem (d := 8) (by omega) (by decide) (by decide)
  have hM1 : MS (sI M 98 a (nI (c / 8))) o P (setF S a (c / 8)) := MS_setF hM (by omega)
  have hM2 : MS (sI (sI M 98 a (nI (c / 8))) 98 b (nI (c % 8))) o P (setF (setF S a (c / 8)) b (c % 8)) := MS_setF hM1 (by omega)
  have hL2 : ML (sI (sI M 98 a (nI (c / 8))) 98 b (nI (c % 8))) l0 L (L 0) := ML_gen hL (by rw [gI_ne _ _ _ _ _ _ (by decide), gI_ne _ _ _ _ _ _ (by decide)]) (by rw [gI_ne _ _ _ _ _ _ (by decide), gI_ne _ _ _ _ _ _ (by decide)]) (fun k => by rw [gI_ne _ _ _ _ _ _ (by decide), gI_ne _ _ _ _ _ _ (by decide)])
  obtain ⟨M3, d1, d2, -, d3, d4, d5⟩ := totals_ref hM2 hL2
  have hF : Fr [98, 102, 103, 104] M M3 := ((Fr.rfl.pI (by decide)).pI (by decide)).trans (d2.mono (by decide))
  refine ⟨M3, ?_, hF.mono (by decide), hF, d4, d5⟩
  have l0' : fX12_leastOf M 0 = some (nI a) := by
    have := least_ref hM (p := 0) (by decide)
    rw [ha] at this
    exact this
  have l1' : fX12_leastOf (sI M 98 a (nI (c / 8))) 1 = some (nI b) := by
    have := least_ref hM1 (p := 1) (by decide)
    rw [ls_setF, hb] at this
    exact this
  unfold fX12_prizeOf
  rw [l0', bd_s, gd_inb (by omega) (by decide), ix_nI (by omega), bnd_r, ed, l1', bd_s, gd_inb (by omega) (by decide), ix_nI (by omega), bnd_r]
  rw [ed] at er
  rw [er, d1, bd_s, gd_inb hw (by decide), ix_nI (by omega), d3 who hw]
theorem told_least {M : MM} {T : TOLD} (hC : CT M 1 T) (hW : TW T) {j : Nat} (hj : j < tNum T 0) {p : Nat} (hp : p < 4) : fX5_leastShineOf M (1 + (6 + 16 * j)) (nI p) = some (opI (lsS (scnOf (tPar T j)) p)) :=
  least_cls (scn_SW (hW.2.2.2.1 j hj)) (hC.2.2.2.2.2.1 j hj).2.2.2.1 (fun s hs => ((hC.2.2.2.2.2.1 j hj).2.2.2.2.2.1 s hs).2.2.2.2) hp
theorem ls_opI {S : SCN} (hS : SW S) {p : Nat} : (opI (lsS S p) = -1 ↔ lsS S p = none) := by
  cases h : lsS S p with
  | none => exact ⟨fun _ => rfl, fun _ => rfl⟩
  | some s =>
    have := (ls_lt h).1
    have h8 := hS.2.2.2.1
    exact ⟨fun z => absurd z (m1_ne (by omega)), fun z => by cases z⟩
