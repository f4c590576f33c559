/-! ===== turned ===== -/
theorem setF_twice (S : SCN) (s f g : Nat) : setF (setF S s f) s g = setF S s g := by
  have : (fun k j => if k = s ∧ j = 2 then g else (if k = s ∧ j = 2 then f else cSh S k j)) = (fun k j => if k = s ∧ j = 2 then g else cSh S k j) := by
    funext k j
    by_cases e : k = s ∧ j = 2
    · rw [if_pos e, if_pos e]
    · rw [if_neg e, if_neg e, if_neg e]
  show (cW S, cH S, cN S, cS S, cWa S, cAt S, cNm S, (fun k j => if k = s ∧ j = 2 then g else (if k = s ∧ j = 2 then f else cSh S k j)), cSt S, cHd S) = _
  rw [this]
  rfl
theorem setF_id (S : SCN) (s : Nat) : setF S s (cSh S s 2) = S := by
  have : (fun k j => if k = s ∧ j = 2 then cSh S s 2 else cSh S k j) = cSh S := by
    funext k j
    by_cases e : k = s ∧ j = 2
    · rw [if_pos e, e.1, e.2]
    · rw [if_neg e]
  unfold setF
  rw [this]
def candF (S : SCN) (L : Nat → Nat) (s f : Nat) : Option Nat := if f < 8 then some (sumS (setF S s f) (L 0) L) else none
theorem candF_le {S : SCN} (hS : SW S) {L : Nat → Nat} {s : Nat} : ∀ k v, candF S L s k = some v → v ≤ 64 := fun k v h => by
  unfold candF at h
  by_cases c : k < 8
  · rw [if_pos c] at h
    cases h
    exact sumS_le (setF_SW hS c) _ _
  · rw [if_neg c] at h; cases h
theorem turn_loop {M : MM} {S : SCN} {a1 a s : Nat} {L : Nat → Nat} (hB : BS M S aT) (hL : CLw M a L) (hs : s < cS S) (hb : BO M none) : ∃ M2, (Fr cL M M2 ∧ BN M2 ∧ BO M2 (foldB false (candF S L s) 8)) ∧ ∀ _k : Unit, fX1_turnOne_l15 a1 a FU M (nI s) (nI 0) = some M2 := by
  have hS := hB.1.1
  refine lpk (κ := Unit) (σ := MM × Nat) (fun _ f st => fX1_turnOne_l15 a1 a f st.1 (nI s) (nI st.2)) (fun _ M2 => some M2) 8
    (fun c st => c = st.2 ∧ Fr cL M st.1 ∧ (∃ g, BS st.1 (setF S s g) aT) ∧ BO st.1 (foldB false (candF S L s) c)) _ ?_ ?_ FU 0 (M, 0) (by omega) (by decide) ⟨rfl, Fr.rfl, ⟨cSh S s 2, by rw [setF_id]; exact hB⟩, hb⟩
  · rintro c ⟨M1, c2⟩ hc ⟨rfl, hF, ⟨g, b1⟩, b2⟩
    left
    simp only [] at hF b1 b2
    obtain ⟨M2, d1, d2, d3⟩ := face_spec b1 (s := s) hs hc
    rw [setF_twice] at d3
    have d3 := BS_K (K2 := aT) d3 (fun _ _ _ => rfl)
    obtain ⟨M3, f1, f2, -, f4⟩ := sum_cls d3 (CLw_fr (CLw_fr hL hF (by decide)) d2 (by decide))
    have hv : sumS (setF S s c) (L 0) L ≤ 64 := sumS_le d3.1.1 _ _
    obtain ⟨M4, g1, g2, g3⟩ := offer_spec (BO_fr (BO_fr b2 d2 (by decide)) f2 (by decide)) (fw := false) (v := sumS (setF S s c) (L 0) L) (w := c) (by omega) (by omega)
    have hcand : candF S L s c = some (sumS (setF S s c) (L 0) L) := by unfold candF; rw [if_pos hc]
    refine ⟨(M4, c + 1), ⟨rfl, ((hF.trans (d2.mono (by decide))).trans (f2.mono (by decide))).trans (g2.mono (by decide)), ⟨c, BS_fr f4 g2 (by decide)⟩, by rw [foldB_some hcand]; exact g3⟩, fun _ f => ?_⟩
    show fX1_turnOne_l15 a1 a (f + 1) M1 (nI s) (nI c) = _
    rw [fX1_turnOne_l15.eq_2, nl8, le_f hc (by decide), d1, bd_s, f1, bd_s]
    show (fX1_offer M3 _ (nI c) (bI false)).bind _ = _
    rw [g1, bd_s, nI_1]
  · rintro ⟨M1, c2⟩ ⟨rfl, hF, ⟨g, b1⟩, b2⟩
    refine ⟨M1, ⟨hF, BS_BN b1, b2⟩, fun _ f => ?_⟩
    show fX1_turnOne_l15 a1 a (f + 1) M1 (nI s) (nI 8) = _
    rw [fX1_turnOne_l15.eq_2, nl8, le_t (Nat.le_refl _) (by decide)]
theorem turned_ref {M : MM} {o l0 s : Nat} {P : PARD} {S : SCN} {L : Nat → Nat} (hM : MS M o P S) (hL : ML M l0 L (L 0)) (hs : s < cS S) (x5 : Int32) : ∃ M2, Fr rL M M2 ∧ ∀ k : MM → Int32 → Int32 → Int32 → Option (Int32 × MM), fX12_turned_l28 k FU M (nI s) x5 (-1) 0 (nI 0) = k M2 x5 (bW (foldB false (candF S L s) 8)) (nI (bV (foldB false (candF S L s) 8))) := by
  have hS := hM.2.2.2.2.1
  have h8 := hS.2.2.2.1
  have key := lpk (κ := MM → Int32 → Int32 → Int32 → Option (Int32 × MM)) (σ := MM × Nat) (fun k f st => fX12_turned_l28 k f st.1 (nI s) x5 (bW (foldB false (candF S L s) st.2)) (nI (bV (foldB false (candF S L s) st.2))) (nI st.2)) (fun k M2 => k M2 x5 (bW (foldB false (candF S L s) 8)) (nI (bV (foldB false (candF S L s) 8)))) 8
    (fun c st => c = st.2 ∧ Fr rL M st.1 ∧ (∃ g, MS st.1 o P (setF S s g)) ∧ ML st.1 l0 L (L 0)) (fun M2 => Fr rL M M2) ?_ ?_ FU 0 (M, 0) (by omega) (by decide) ⟨rfl, Fr.rfl, ⟨cSh S s 2, by rw [setF_id]; exact hM⟩, hL⟩
  · obtain ⟨M2, h1, h2⟩ := key
    exact ⟨M2, h1, h2⟩
  · rintro c ⟨M1, c2⟩ hc ⟨rfl, hF, ⟨g, b1⟩, b2⟩
    left
    simp only [] at hF b1 b2
    have hM3 : MS (sI M1 98 s (nI c)) o P (setF S s c) := by
      have := MS_setF b1 (s := s) (f := c) hc
      rw [setF_twice] at this
      exact this
    have hL3 : ML (sI M1 98 s (nI c)) l0 L (L 0) := ML_gen b2 (gI_ne _ _ _ _ _ _ (by decide)) (gI_ne _ _ _ _ _ _ (by decide)) (fun k => gI_ne _ _ _ _ _ _ (by decide))
    obtain ⟨M5, d1, d2, -, d4, d5⟩ := sum_ref hM3 hL3
    have hv : sumS (setF S s c) (L 0) L ≤ 64 := sumS_le hM3.2.2.2.2.1 _ _
    have hcand : candF S L s c = some (sumS (setF S s c) (L 0) L) := by unfold candF; rw [if_pos hc]
    refine ⟨(M5, c + 1), ⟨rfl, (hF.pI (by decide)).trans (d2.mono (by decide)), ⟨c, d4⟩, d5⟩, fun k f => ?_⟩
    show fX12_turned_l28 k (f + 1) M1 (nI s) x5 (bW (foldB false (candF S L s) c)) (nI (bV (foldB false (candF S L s) c))) (nI c) = fX12_turned_l28 k f M5 (nI s) x5 (bW (foldB false (candF S L s) (c + 1))) (nI (bV (foldB false (candF S L s) (c + 1)))) (nI (c + 1))
    rw [fX12_turned_l28.eq_2, nl8, le_f hc (by decide), gd_inb (by omega) (by decide), ix_nI (by omega), bnd_r, d1, bd_s, foldB_some hcand]
    unfold fX12_turned_j65
    rw [nI_1]
    exact ref_max (foldB_b (candF_le hS) (by omega)) (by omega) (fun u w => fX12_turned_l28 k f M5 (nI s) x5 u w (nI (c + 1)))
  · rintro ⟨M1, c2⟩ ⟨rfl, hF, b1, b2⟩
    refine ⟨M1, hF, fun k f => ?_⟩
    show fX12_turned_l28 k (f + 1) M1 (nI s) x5 _ _ (nI 8) = _
    rw [fX12_turned_l28.eq_2, nl8, le_t (Nat.le_refl _) (by decide)]
theorem e16 : E16 Inv := by
  intro K M x1 x2 x3 x4 hx4 hI
  refine pl_case (v := -1) hI (C := fX11_turned M x1 x2 x3 x4) (R := fun M1 => fX12_turned M1 x1 x2 x3 x4) rfl (fun _ => rfl) ?_
  intro T j l hW hC hM hB hj hl e1 e2
  have hP := hW.2.2.2.1 j hj
  have hs8 := hP.2.2.2.1
  have c4 := (hC.2.2.2.2.2.1 j hj).2.2.2.1
  rcases rng x3 (n := pS (tPar T j)) (by omega) with h | ⟨s, hs, rfl⟩
  · refine ⟨-1, M, by rw [hasShine_no c4 h, if_pos rfl], Fr.rfl, hB, fun M3 _ hS _ => ⟨M3, ?_, Fr.rfl⟩⟩
    rw [isShine_no hS h, bd_s, if_pos rfl]
  · obtain ⟨M1, a1, a2, a3, a4, -⟩ := par_beg hW hC hB hj
    obtain ⟨M2, b1, b2, b3⟩ := choice_beg (M := M1)
    have hF2 : Fr cL M M2 := a2.trans (b2.mono (by decide))
    obtain ⟨M5, ⟨g1, g2, g3⟩, g4⟩ := turn_loop (S := scnOf (tPar T j)) (a1 := 1 + (6 + 16 * j)) (BS_fr a3 b2 (by decide)) (CLw_fr (told_law hC hW hl) hF2 (by decide)) hs b3
    have cls : fX1_turnOne M (1 + (6 + 16 * j)) (1 + (15 + 16 * l)) (nI s) = some M5 := by
      unfold fX1_turnOne
      rw [a1, bd_s, b1, bd_s]
      exact g4 ()
    rw [hasShine_yes c4 (by omega) hs, if_neg i10, cls, bd_s, g3.1, g3.2.1]
    by_cases h5 : x4 = 0
    · refine ⟨_, M5, by rw [if_pos h5], hF2.trans g1, g2, fun M3 _ hS hL => ?_⟩
      obtain ⟨M4, r1, r2⟩ := turned_ref (s := s) hS hL hs x4
      refine ⟨M4, ?_, r1⟩
      rw [isShine_yes hS hs, bd_s, if_neg i10]
      refine (r2 _).trans ?_
      rw [if_pos h5]
    · refine ⟨_, M5, by rw [if_neg h5], hF2.trans g1, g2, fun M3 _ hS hL => ?_⟩
      obtain ⟨M4, r1, r2⟩ := turned_ref (s := s) hS hL hs x4
      refine ⟨M4, ?_, r1⟩
      rw [isShine_yes hS hs, bd_s, if_neg i10]
      refine (r2 _).trans ?_
      rw [if_neg h5]
/-! ===== barred ===== -/
def setWs (S : SCN) (wa : Nat → Bool) : SCN := (cW S, cH S, cN S, cS S, wa, cAt S, cNm S, cSh S, cSt S, cHd S)
def barS (S : SCN) (q : Nat) : SCN := setWs S (fun x => if x = q then true else cWa S x)
theorem barS_ne {S : SCN} {q x : Nat} (h : x ≠ q) : onS (barS S q) x = onS S x := by
  unfold onS
  show (match fstN (fun k => cAt S k == some x) (cN S) with
    | some k => 10 + k
    | none => match fstN (fun k => cSh S k 1 == x && !cHd S k) (cS S) with
      | some k => 20 + k
      | none => if (if x = q then true else cWa S x) then 1 else 0) = _
  rw [if_neg h]
  rfl
theorem barS_at {S : SCN} {q : Nat} (h : onS S q = 0) : onS (barS S q) q = 1 := by
  obtain ⟨h1, h2, h3⟩ := onS_free2 h
  unfold onS
  show (match fstN (fun k => cAt S k == some q) (cN S) with
    | some k => 10 + k
    | none => match fstN (fun k => cSh S k 1 == q && !cHd S k) (cS S) with
      | some k => 20 + k
      | none => if (if q = q then true else cWa S q) then 1 else 0) = _
  rw [fstN_none (fun k hk => by simp [h1 k hk]), fstN_none (fun s hs => ?_)]
  · simp
  · cases e : cHd S s with
    | true => simp
    | false => simp [h2 s hs e]
theorem barS_SE (S : SCN) (q : Nat) : SE S (barS S q) := ⟨rfl, rfl, rfl, rfl, rfl, rfl, rfl⟩
theorem SE_bar (S : SCN) (q : Nat) : SE (barS S q) S := ⟨rfl, rfl, rfl, rfl, rfl, rfl, rfl⟩
theorem MS_bar {M : MM} {o : Nat} {P : PARD} {S : SCN} (h : MS M o P S) {wa : Nat → Bool} {bo : Option Nat} (hb : ∀ b, bo = some b → b < 64) (hw : ∀ q, q < 64 → wa q = (pWa P q || bo == some q)) : MS (sI M 90 23 (opI bo)) o P (setWs S wa) := by
  obtain ⟨h1, h2, h3, h4, h5, h6, h7, h8, h9, h10, h11, h12, h12b, bo0, h13, h14⟩ := h
  have g : ∀ d k, d ≠ 90 → gI (sI M 90 23 (opI bo)) d k = gI M d k := fun d k hd => gI_ne _ _ _ _ _ _ hd
  have g90 : ∀ k, k ≠ 23 → gI (sI M 90 23 (opI bo)) 90 k = gI M 90 k := fun k hd => gI_nk _ _ _ _ _ _ hd
  refine ⟨by rw [g90 _ (by decide)]; exact h1, MP_congr h3 h2 (fun i _ => g 91 _ (by decide)), h3, h4, h5, h6, h7, by rw [g90 _ (by decide)]; exact h8, by rw [g90 _ (by decide)]; exact h9, fun k hk => ⟨?_, ?_⟩, fun k hk j hj => ?_, fun k hk => ?_, h12b, bo, gI_eq _ _ _ _, hb, hw⟩
  · rw [g 94 _ (by decide)]; exact (h10 k hk).1
  · rw [g 95 _ (by decide)]; exact (h10 k hk).2
  · rw [g (96 + j) _ (by omega)]; exact h11 k hk j hj
  · rw [g 101 _ (by decide)]; exact h12 k hk
def candW (S : SCN) (L : Nat → Nat) (c : Nat) : Option Nat := if c < cW S * cH S ∧ onS S (sq8 (cW S) c) = 0 then some (sumS (barS S (sq8 (cW S) c)) (L 0) L) else none
theorem candW_le {S : SCN} (hS : SW S) {L : Nat → Nat} : ∀ k v, candW S L k = some v → v ≤ 64 := fun k v h => by
  unfold candW at h
  by_cases c : k < cW S * cH S ∧ onS S (sq8 (cW S) k) = 0
  · rw [if_pos c] at h
    cases h
    exact sumS_le (S := barS S (sq8 (cW S) k)) hS _ _
  · rw [if_neg c] at h; cases h
theorem wall_loop {M : MM} {S : SCN} {a1 a : Nat} {L : Nat → Nat} (hB : BS M S aT) (hL : CLw M a L) (hb : BO M none) : ∃ M2, (Fr cL M M2 ∧ BN M2 ∧ BO M2 (foldB true (candW S L) (cW S * cH S))) ∧ ∀ _k : Unit, fX1_addWall_l14 a1 a FU M (nI 0) = some M2 := by
  have hS := hB.1.1
  have h64 := wh_64 hS
  refine lpk (κ := Unit) (σ := MM × Nat) (fun _ f st => fX1_addWall_l14 a1 a f st.1 (nI st.2)) (fun _ M2 => some M2) (cW S * cH S)
    (fun c st => c = st.2 ∧ Fr cL M st.1 ∧ BS st.1 S aT ∧ BO st.1 (foldB true (candW S L) c)) _ ?_ ?_ FU 0 (M, 0) (by omega) (by show _ < 5000; omega) ⟨rfl, Fr.rfl, hB, hb⟩
  · rintro c ⟨M1, c2⟩ hc ⟨rfl, hF, b1, b2⟩
    left
    simp only [] at hF b1 b2
    have hq : inP (cW S) (cH S) (sq8 (cW S) c) := sq8_inP (by have := hS.1.1; omega) hS.1.2 hc
    have ec : sqC (cW S) (sq8 (cW S) c) = c := sqC_sq8 (by have := hS.1.1; omega) hS.1.2
    by_cases z : onS S (sq8 (cW S) c) = 0
    · obtain ⟨M2, d1, d2, d3⟩ := lay_spec (v := 1) b1 (barS_SE S (sq8 (cW S) c)) hS hq (fun x _ hx => barS_ne hx) (by rw [barS_at z]; rfl)
      obtain ⟨M3, f1, f2, -, f4⟩ := sum_cls d3 (CLw_fr (CLw_fr hL hF (by decide)) d2 (by decide))
      have hv : sumS (barS S (sq8 (cW S) c)) (L 0) L ≤ 64 := sumS_le d3.1.1 _ _
      obtain ⟨M4, g1, g2, g3⟩ := offer_spec (BO_fr (BO_fr b2 d2 (by decide)) f2 (by decide)) (fw := true) (v := sumS (barS S (sq8 (cW S) c)) (L 0) L) (w := c) (by omega) (by omega)
      obtain ⟨M5, k1, k2, k3⟩ := lay_spec (v := 0) (BS_fr f4 g2 (by decide)) (SE_bar S (sq8 (cW S) c)) hS hq (fun x _ hx => (barS_ne hx).symm) (by rw [z]; rfl)
      have k1 : fX0_lay M4 (nI (sqC (cW S) (sq8 (cW S) c))) 0 = some M5 := k1
      rw [ec] at d1 k1
      have hcand : candW S L c = some (sumS (barS S (sq8 (cW S) c)) (L 0) L) := by unfold candW; rw [if_pos ⟨hc, z⟩]
      refine ⟨(M5, c + 1), ⟨rfl, (((hF.trans (d2.mono (by decide))).trans (f2.mono (by decide))).trans (g2.mono (by decide))).trans (k2.mono (by decide)), k3, by rw [foldB_some hcand]; exact BO_fr g3 k2 (by decide)⟩, fun _ f => ?_⟩
      show fX1_addWall_l14 a1 a (f + 1) M1 (nI c) = _
      rw [fX1_addWall_l14.eq_2, squares_spec b1.1, le_f hc (by omega), isFree_spec b1.1 hc, bd_s, if_pos z, if_neg i10, d1, bd_s, f1, bd_s]
      show (fX1_offer M3 _ (nI c) (bI true)).bind _ = _
      rw [g1, bd_s, k1, bd_s, nI_1]
    · have hcand : candW S L c = none := by unfold candW; rw [if_neg (fun q => z q.2)]
      refine ⟨(M1, c + 1), ⟨rfl, hF, b1, by rw [foldB_none hcand]; exact b2⟩, fun _ f => ?_⟩
      show fX1_addWall_l14 a1 a (f + 1) M1 (nI c) = _
      rw [fX1_addWall_l14.eq_2, squares_spec b1.1, le_f hc (by omega), isFree_spec b1.1 hc, bd_s, if_neg z, if_pos rfl, nI_1]
  · rintro ⟨M1, c2⟩ ⟨rfl, hF, b1, b2⟩
    refine ⟨M1, ⟨hF, BS_BN b1, b2⟩, fun _ f => ?_⟩
    show fX1_addWall_l14 a1 a (f + 1) M1 (nI (cW S * cH S)) = _
    rw [fX1_addWall_l14.eq_2, squares_spec b1.1, le_t (Nat.le_refl _) (by omega)]
theorem barred_ref {M : MM} {o l0 : Nat} {P : PARD} {L : Nat → Nat} (hM : MS M o P (scnOf P)) (hL : ML M l0 L (L 0)) (x5 : Int32) : ∃ M2, Fr rL M M2 ∧ ∀ k : MM → Int32 → Int32 → Int32 → Option (Int32 × MM), fX12_barred_l20 k FU M x5 (-1) 0 (nI 0) = k M2 x5 (bW (foldB true (candW (scnOf P) L) (pW P * pH P))) (nI (bV (foldB true (candW (scnOf P) L) (pW P * pH P)))) := by
  have hS := hM.2.2.2.2.1
  have h64 : pW P * pH P ≤ 64 := wh_64 hS
  have key := lpk (κ := MM → Int32 → Int32 → Int32 → Option (Int32 × MM)) (σ := MM × Nat) (fun k f st => fX12_barred_l20 k f st.1 x5 (bW (foldB true (candW (scnOf P) L) st.2)) (nI (bV (foldB true (candW (scnOf P) L) st.2))) (nI st.2)) (fun k M2 => k M2 x5 (bW (foldB true (candW (scnOf P) L) (pW P * pH P))) (nI (bV (foldB true (candW (scnOf P) L) (pW P * pH P))))) (pW P * pH P)
    (fun c st => c = st.2 ∧ Fr rL M st.1 ∧ (∃ wa, MS st.1 o P (setWs (scnOf P) wa)) ∧ ML st.1 l0 L (L 0)) (fun M2 => Fr rL M M2) ?_ ?_ FU 0 (M, 0) (by omega) (by show _ < 5000; omega) ⟨rfl, Fr.rfl, ⟨_, hM⟩, hL⟩
  · obtain ⟨M2, h1, h2⟩ := key
    exact ⟨M2, h1, h2⟩
  · rintro c ⟨M1, c2⟩ hc ⟨rfl, hF, ⟨wa, b1⟩, b2⟩
    left
    simp only [] at hF b1 b2
    have hq : inP (pW P) (pH P) (sq8 (pW P) c) := sq8_inP (show 0 < pW P from by have := hS.1.1; show 0 < cW (scnOf P); omega) hS.1.2 hc
    have hq64 := inP_64 hS.2.1.2 hq
    have hM3 : MS (sI M1 90 23 (-1)) o P (scnOf P) := MS_bar (bo := none) (wa := pWa P) b1 (fun b z => by cases z) (fun q _ => by show pWa P q = (pWa P q || false); rw [Bool.or_false])
    have hF3 : Fr rL M1 (sI M1 90 23 (-1)) := Fr.rfl.pI (by decide)
    have hL3 : ML (sI M1 90 23 (-1)) l0 L (L 0) := ML_gen b2 (gI_nk _ _ _ _ _ _ (by decide)) (gI_nk _ _ _ _ _ _ (by decide)) (fun k => gI_ne _ _ _ _ _ _ (by decide))
    have esq : fX12_isSquare M1 (nI c) = some 1 := isSquare_yes b1 hc
    have eins : fX12_inside (sI M1 90 23 (-1)) (nI c) = some (nI (sq8 (pW P) c)) := inside_spec hM3 (by omega)
    have ho := onS_lt hS (sq8 (pW P) c)
    by_cases z : onS (scnOf P) (sq8 (pW P) c) = 0
    · have hcand : candW (scnOf P) L c = some (sumS (barS (scnOf P) (sq8 (pW P) c)) (L 0) L) := by unfold candW; rw [if_pos ⟨hc, z⟩]; rfl
      have hM4 : MS (sI (sI M1 90 23 (-1)) 90 23 (nI (sq8 (pW P) c))) o P (barS (scnOf P) (sq8 (pW P) c)) := MS_bar (bo := some (sq8 (pW P) c)) hM3 (fun b e => by cases e; exact hq64) (fun q _ => by
        show (if q = sq8 (pW P) c then true else pWa P q) = (pWa P q || (some (sq8 (pW P) c) == some q))
        by_cases e : q = sq8 (pW P) c
        · rw [if_pos e, e]; simp
        · have : (some (sq8 (pW P) c) == some q) = false := by simp; exact fun k => e k.symm
          rw [if_neg e, this, Bool.or_false])
      have hL4 : ML (sI (sI M1 90 23 (-1)) 90 23 (nI (sq8 (pW P) c))) l0 L (L 0) := ML_gen hL3 (gI_nk _ _ _ _ _ _ (by decide)) (gI_nk _ _ _ _ _ _ (by decide)) (fun k => gI_ne _ _ _ _ _ _ (by decide))
      obtain ⟨M5, d1, d2, -, d4, d5⟩ := sum_ref hM4 hL4
      have hv : sumS (barS (scnOf P) (sq8 (pW P) c)) (L 0) L ≤ 64 := sumS_le hM4.2.2.2.2.1 _ _
      refine ⟨(M5, c + 1), ⟨rfl, ((hF.trans hF3).pI (by decide)).trans (d2.mono (by decide)), ⟨_, d4⟩, d5⟩, fun k f => ?_⟩
      show fX12_barred_l20 k (f + 1) M1 x5 (bW (foldB true (candW (scnOf P) L) c)) (nI (bV (foldB true (candW (scnOf P) L) c))) (nI c) = fX12_barred_l20 k f M5 x5 (bW (foldB true (candW (scnOf P) L) (c + 1))) (nI (bV (foldB true (candW (scnOf P) L) (c + 1)))) (nI (c + 1))
      rw [fX12_barred_l20.eq_2, esq, bd_s, if_neg i10, bnd_r, eins, bd_s, on_spec hM3 hq64, bd_s, if_pos (by rw [z]; rfl), bd_s, bnd_r, d1, bd_s, foldB_some hcand]
      unfold fX12_barred_j82
      rw [nI_1]
      exact ref_min (foldB_b (candW_le hS) (by omega)) (by omega) (fun u w => fX12_barred_l20 k f M5 x5 u w (nI (c + 1)))
    · have hcand : candW (scnOf P) L c = none := by unfold candW; rw [if_neg (fun q => z q.2)]
      refine ⟨(sI M1 90 23 (-1), c + 1), ⟨rfl, hF.trans hF3, ⟨_, hM3⟩, hL3⟩, fun k f => ?_⟩
      show fX12_barred_l20 k (f + 1) M1 x5 (bW (foldB true (candW (scnOf P) L) c)) (nI (bV (foldB true (candW (scnOf P) L) c))) (nI c) = fX12_barred_l20 k f (sI M1 90 23 (-1)) x5 (bW (foldB true (candW (scnOf P) L) (c + 1))) (nI (bV (foldB true (candW (scnOf P) L) (c + 1)))) (nI (c + 1))
      rw [fX12_barred_l20.eq_2, esq, bd_s, if_neg i10, bnd_r, eins, bd_s, on_spec hM3 hq64, bd_s, nl0, eqn_f z (by omega) (by decide), foldB_none hcand, nI_1]
  · rintro ⟨M1, c2⟩ ⟨rfl, hF, ⟨wa, b1⟩, b2⟩
    simp only [] at b1
    refine ⟨M1, hF, fun k f => ?_⟩
    have esq : fX12_isSquare M1 (nI (pW P * pH P)) = some 0 := isSquare_no b1 (Or.inr (nI_le (Nat.le_refl _) (by show pW P * pH P < 2 ^ 31; omega)))
    show fX12_barred_l20 k (f + 1) M1 x5 _ _ (nI (pW P * pH P)) = _
    rw [fX12_barred_l20.eq_2, esq, bd_s, if_pos rfl]
theorem e29 : E29 Inv := by
  intro K M x1 x2 x3 hx3 hI
  refine pl_case (v := -1) hI (C := fX11_barred M x1 x2 x3) (R := fun M1 => fX12_barred M1 x1 x2 x3) rfl (fun _ => rfl) ?_
  intro T j l hW hC hM hB hj hl e1 e2
  have hP := hW.2.2.2.1 j hj
  obtain ⟨M1, a1, a2, a3, a4, -⟩ := par_beg hW hC hB hj
  obtain ⟨M2, b1, b2, b3⟩ := choice_beg (M := M1)
  have hF2 : Fr cL M M2 := a2.trans (b2.mono (by decide))
  obtain ⟨M5, ⟨g1, g2, g3⟩, g4⟩ := wall_loop (S := scnOf (tPar T j)) (a1 := 1 + (6 + 16 * j)) (BS_fr a3 b2 (by decide)) (CLw_fr (told_law hC hW hl) hF2 (by decide)) b3
  have cls : fX1_addWall M (1 + (6 + 16 * j)) (1 + (15 + 16 * l)) = some M5 := by
    unfold fX1_addWall
    rw [a1, bd_s, b1, bd_s]
    exact g4 ()
  have g3 : BO M5 (foldB true (candW (scnOf (tPar T j)) (tLaw T l)) (pW (tPar T j) * pH (tPar T j))) := g3
  generalize hb : foldB true (candW (scnOf (tPar T j)) (tLaw T l)) (pW (tPar T j) * pH (tPar T j)) = b at *
  refine ⟨if bW b = -1 then -1 else if x3 = 0 then bW b else nI (bV b), M5, ?_, hF2.trans g1, g2, fun M3 _ hS hL => ?_⟩
  · rw [cls, bd_s, g3.1, g3.2.1]
    by_cases c : bW b = -1
    · rw [if_pos c, if_pos c]
    · rw [if_neg c, if_neg c]
      by_cases d : x3 = 0
      · rw [if_pos d, if_pos d]
      · rw [if_neg d, if_neg d]
  · obtain ⟨M4, r1, r2⟩ := barred_ref hS hL x3
    rw [hb] at r2
    refine ⟨M4, ?_, r1⟩
    refine (r2 _).trans ?_
    by_cases c : bW b = -1
    · rw [if_pos c, if_pos c, c]
    · rw [if_neg c, if_neg c]
      by_cases d : x3 = 0
      · rw [if_pos d, if_pos d]
      · rw [if_neg d, if_neg d]
