/-! ===== puddle ===== -/
/-- sizes of the first i shines are 9 -/
def setZ (S : SCN) (i : Nat) : SCN := (cW S, cH S, cN S, cS S, cWa S, cAt S, cNm S, fun k j => if k < i ∧ j = 3 then 9 else cSh S k j, cSt S, cHd S)
theorem setZ_sh (S : SCN) (i k j : Nat) : cSh (setZ S i) k j = if k < i ∧ j = 3 then 9 else cSh S k j := rfl
theorem setZ_ne (S : SCN) {i k j : Nat} (h : j ≠ 3) : cSh (setZ S i) k j = cSh S k j := by rw [setZ_sh, if_neg (fun z => h z.2)]
theorem setZ_0 (S : SCN) : setZ S 0 = S := by
  have : (fun k j => if k < 0 ∧ j = 3 then 9 else cSh S k j) = cSh S := by
    funext k j
    rw [if_neg (by omega)]
  unfold setZ
  rw [this]
theorem setZ_on (S : SCN) (i q : Nat) : onS (setZ S i) q = onS S q := by
  unfold onS
  simp only [setZ_ne S (i := i) (show (1 : Nat) ≠ 3 by decide)]
  rfl
theorem setZ_look (S : SCN) (i s : Nat) : seenN (setZ S i) s 8 = seenN S s 8 ∧ lookN (setZ S i) s 8 = lookN S s 8 := by
  obtain ⟨a, b, -⟩ := look_cong (S := S) (S2 := setZ S i) (s := s) rfl rfl (setZ_on S i) rfl (fun j hj => setZ_ne S (by omega)) 8
  exact ⟨a, b⟩
theorem setZ_near (S : SCN) (i k s : Nat) (hs : s < cS S) : nearM (setZ S i) k s = nearM S k s := near_cong (S := S) (S2 := setZ S i) rfl (fun s _ => setZ_look S i s) k s hs
theorem setZ_heads (S : SCN) (i c tw s : Nat) (hs : s < cS S) : headsS (setZ S i) c tw s = headsS S c tw s := by
  unfold headsS fstS nearB
  rw [setZ_near S i c s hs]
  rfl
theorem setZ_SW {S : SCN} (h : SW S) (i : Nat) : SW (setZ S i) := by
  obtain ⟨h1, h2, h3, h4, h5, h6, h7⟩ := h
  refine ⟨h1, h2, h3, h4, h5, h6, fun k hk => ?_⟩
  obtain ⟨a, b, c, d, e⟩ := h7 k hk
  rw [setZ_ne S (j := 0) (by decide), setZ_ne S (j := 1) (by decide), setZ_ne S (j := 2) (by decide), setZ_ne S (j := 4) (by decide)]
  refine ⟨a, b, c, ?_, e⟩
  rw [setZ_sh]
  split
  · omega
  · exact d
theorem MS_setZ {M : MM} {o i : Nat} {P : PARD} {S : SCN} (h : MS M o P (setZ S i)) : MS (sI M 99 i 9) o P (setZ S (i + 1)) := by
  obtain ⟨h1, h2, h3, h4, h5, h6, h7, h8, h9, h10, h11, h12, h12b, bo, h13, h14⟩ := h
  have g : ∀ d k, d ≠ 99 → gI (sI M 99 i 9) d k = gI M d k := fun d k hd => gI_ne _ _ _ _ _ _ hd
  have hS2 : SW (setZ S (i + 1)) := by
    obtain ⟨q1, q2, q3, q4, q5, q6, q7⟩ := h5
    refine ⟨q1, q2, q3, q4, q5, q6, fun k hk => ?_⟩
    obtain ⟨a, b, c, d, e⟩ := q7 k hk
    rw [setZ_ne S (j := 0) (by decide)] at a ⊢
    rw [setZ_ne S (j := 1) (by decide)] at b ⊢
    rw [setZ_ne S (j := 2) (by decide)] at c ⊢
    rw [setZ_ne S (j := 4) (by decide)] at e ⊢
    refine ⟨a, b, c, ?_, e⟩
    rw [setZ_sh] at d ⊢
    by_cases c1 : k < i + 1 ∧ 3 = 3
    · rw [if_pos c1]; omega
    · rw [if_neg c1]
      rw [if_neg (fun z => c1 ⟨by omega, rfl⟩)] at d
      exact d
  refine ⟨by rw [g 90 _ (by decide)]; exact h1, MP_congr h3 h2 (fun i _ => g 91 _ (by decide)), h3, h4, hS2, h6, h7, by rw [g 90 _ (by decide)]; exact h8, by rw [g 90 _ (by decide)]; exact h9, fun k hk => ⟨?_, ?_⟩, fun k hk j hj => ?_, fun k hk => ?_, h12b, bo, by rw [g 90 _ (by decide)]; exact h13, h14⟩
  · rw [g 94 _ (by decide)]; exact (h10 k hk).1
  · rw [g 95 _ (by decide)]; exact (h10 k hk).2
  · have hh := h11 k hk j hj
    rw [setZ_sh] at hh ⊢
    by_cases c1 : j = 3
    · subst c1
      by_cases c2 : k = i
      · subst c2
        rw [if_pos ⟨by omega, rfl⟩]
        show gI (sI M 99 k 9) 99 k = _
        rw [gI_eq]; rfl
      · show gI (sI M 99 i 9) 99 k = _
        rw [gI_nk _ _ _ _ _ _ c2]
        by_cases c3 : k < i
        · rw [if_pos ⟨by omega, rfl⟩]; rw [if_pos ⟨c3, rfl⟩] at hh; exact hh
        · rw [if_neg (by omega)]; rw [if_neg (by omega)] at hh; exact hh
    · rw [if_neg (fun z => c1 z.2)] at hh ⊢
      rw [g (96 + j) _ (by omega)]; exact hh
  · rw [g 101 _ (by decide)]; exact h12 k hk
theorem LO_setZ {M : MM} {S : SCN} {i i2 : Nat} (h : LO M (setZ S i)) : LO M (setZ S i2) := by
  refine ⟨fun s p hs hp => ?_, fun s hs => ?_⟩
  · rw [h.1 s p hs hp]
    congr 1
    unfold dgN
    congr 1
    refine fstN_cong (fun k _ => ?_)
    rw [setZ_near S i k s hs, setZ_near S i2 k s hs]
  · rw [h.2 s hs, (setZ_look S i s).2, (setZ_look S i2 s).2]
def hdS (S : SCN) (L : Nat → Nat) (s : Nat) : Nat := if soupS S L s then 0 else headsS S (L 0) (L 1) s
def candP (S : SCN) (L : Nat → Nat) (s : Nat) : Option Nat := some (hdS S L s)
theorem hdS_le {S : SCN} (hS : SW S) (L : Nat → Nat) (s : Nat) : hdS S L s ≤ 8 := by
  have := heads_le hS (L 0) (L 1) s
  unfold hdS
  split <;> omega
theorem candP_le {S : SCN} (hS : SW S) {L : Nat → Nat} : ∀ k v, candP S L k = some v → v ≤ 64 := fun k v h => by
  have := hdS_le hS L k
  unfold candP at h
  cases h
  omega
theorem countZ {S : SCN} (hS : SW S) (L : Nat → Nat) {s : Nat} (hs : s < cS S) : countS (setZ S (s + 1)) (L 0) L s = hdS S L s := by
  have := heads_le hS (L 0) (L 1) s
  have e1 : soupS (setZ S (s + 1)) L s = soupS S L s := by unfold soupS; rw [setZ_ne S (by decide)]
  have e3 : cSh (setZ S (s + 1)) s 3 = 9 := by rw [setZ_sh, if_pos ⟨by omega, rfl⟩]
  unfold countS hdS
  rw [e1, setZ_heads S (s + 1) (L 0) (L 1) s hs, e3]
  by_cases c : soupS S L s = true
  · rw [if_pos c, if_pos c]
  · rw [if_neg c, if_neg c, if_pos (by omega)]
theorem puddle_loop {M : MM} {S : SCN} {a1 a : Nat} {L : Nat → Nat} (hB : BS M S aT) (hN : NR M S (L 0)) (hL : CLw M a L) (h3 : gI M a1 3 = nI (cS S)) (ha1 : a1 < 40) (hb : BO M none) : ∃ M2, (Fr [81] M M2 ∧ BO M2 (foldB false (candP S L) (cS S))) ∧ ∀ _k : Unit, fX1_findPuddle_l18 a1 a FU M (nI 0) = some M2 := by
  have hS := hB.1.1
  have h8 := hS.2.2.2.1
  refine lpk (κ := Unit) (σ := MM × Nat) (fun _ f st => fX1_findPuddle_l18 a1 a f st.1 (nI st.2)) (fun _ M2 => some M2) (cS S)
    (fun c st => c = st.2 ∧ Fr [81] M st.1 ∧ BO st.1 (foldB false (candP S L) c)) _ ?_ ?_ FU 0 (M, 0) (by omega) (by show _ < 5000; omega) ⟨rfl, Fr.rfl, hb⟩
  · rintro c ⟨M1, c2⟩ hc ⟨rfl, hF, b2⟩
    left
    simp only [] at hF b2
    have hv := hdS_le hS L c
    have e3 : gI M1 a1 3 = nI (cS S) := by rw [hF.gi (by simp; omega)]; exact h3
    have hh : fX0_headsIn M1 (nI c) a = some (nI (hdS S L c)) := heads_cls (BS_fr hB hF (by decide)).1 (fun s hs => by rw [hF.gi (by decide)]; exact hN s hs) (CLw_fr hL hF (by decide)) hc
    obtain ⟨M4, g1, g2, g3⟩ := offer_spec b2 (fw := false) (v := hdS S L c) (w := c) (by omega) (by omega)
    refine ⟨(M4, c + 1), ⟨rfl, hF.trans g2, by rw [foldB_some (show candP S L c = some (hdS S L c) from rfl)]; exact g3⟩, fun _ f => ?_⟩
    show fX1_findPuddle_l18 a1 a (f + 1) M1 (nI c) = _
    rw [fX1_findPuddle_l18.eq_2, e3, le_f hc (by omega), hh, bd_s]
    show (fX1_offer M1 _ (nI c) (bI false)).bind _ = _
    rw [g1, bd_s, nI_1]
  · rintro ⟨M1, c2⟩ ⟨rfl, hF, b2⟩
    simp only [] at hF
    refine ⟨M1, ⟨hF, b2⟩, fun _ f => ?_⟩
    have e3 : gI M1 a1 3 = nI (cS S) := by rw [hF.gi (by simp; omega)]; exact h3
    show fX1_findPuddle_l18 a1 a (f + 1) M1 (nI (cS S)) = _
    rw [fX1_findPuddle_l18.eq_2, e3, le_t (Nat.le_refl _) (by omega)]
theorem puddle_ref {M : MM} {o l0 : Nat} {P : PARD} {S : SCN} {L : Nat → Nat} (hM : MS M o P S) (hL : ML M l0 L (L 0)) (x5 : Int32) : ∃ M1 M2, fX12_laysOut M = some M1 ∧ Fr rL M M2 ∧ ∀ k : MM → Int32 → Int32 → Int32 → Option (Int32 × MM), fX12_puddle_l24 k FU M1 x5 (-1) 0 (nI 0) = k M2 x5 (bW (foldB false (candP S L) (cS S))) (nI (bV (foldB false (candP S L) (cS S)))) := by
  have hS := hM.2.2.2.2.1
  have h8 := hS.2.2.2.1
  obtain ⟨M1, a1, a2, a3, a4⟩ := laysOut_spec hM
  have key := lpk (κ := MM → Int32 → Int32 → Int32 → Option (Int32 × MM)) (σ := MM × Nat) (fun k f st => fX12_puddle_l24 k f st.1 x5 (bW (foldB false (candP S L) st.2)) (nI (bV (foldB false (candP S L) st.2))) (nI st.2)) (fun k M2 => k M2 x5 (bW (foldB false (candP S L) (cS S))) (nI (bV (foldB false (candP S L) (cS S))))) (cS S)
    (fun c st => c = st.2 ∧ Fr rL M st.1 ∧ MS st.1 o P (setZ S c) ∧ LO st.1 (setZ S c) ∧ ML st.1 l0 L (L 0)) (fun M2 => Fr rL M M2) ?_ ?_ FU 0 (M1, 0) (by omega) (by show _ < 5000; omega) ⟨rfl, a2.mono (by decide), by rw [setZ_0]; exact a4, by rw [setZ_0]; exact a3, ML_fr hL a2 (by decide) (by decide)⟩
  · obtain ⟨M2, h1, h2⟩ := key
    exact ⟨M1, M2, a1, h1, h2⟩
  · rintro c ⟨M2, c2⟩ hc ⟨rfl, hF, b1, b2, b3⟩
    left
    simp only [] at hF b1 b2 b3
    have f3 : Fr [99] M2 (sI M2 99 c 9) := Fr.rfl.pI (by decide)
    have hM3 := MS_setZ b1
    have hO3 : LO (sI M2 99 c 9) (setZ S (c + 1)) := LO_fr (LO_setZ b2) f3 (by decide) (by decide)
    have hL3 := ML_fr b3 f3 (by decide) (by decide)
    have hv := hdS_le hS L c
    have hcnt : fX12_countOf (sI M2 99 c 9) (nI c) = some (nI (hdS S L c)) := by
      rw [count_ref hM3 hO3 hL3 hc, countZ hS L hc]
    refine ⟨(sI M2 99 c 9, c + 1), ⟨rfl, hF.trans (f3.mono (by decide)), hM3, hO3, hL3⟩, fun k f => ?_⟩
    show fX12_puddle_l24 k (f + 1) M2 x5 (bW (foldB false (candP S L) c)) (nI (bV (foldB false (candP S L) c))) (nI c) = fX12_puddle_l24 k f (sI M2 99 c 9) x5 (bW (foldB false (candP S L) (c + 1))) (nI (bV (foldB false (candP S L) (c + 1)))) (nI (c + 1))
    have e14 : gI M2 90 14 = nI (cS S) := b1.2.2.2.2.2.2.2.2.1
    rw [fX12_puddle_l24.eq_2, e14, le_f hc (by omega), gd_inb (by omega) (by decide), ix_nI (by omega), bnd_r, foldB_some (show candP S L c = some (hdS S L c) from rfl)]
    unfold fX12_puddle_j62
    rw [hcnt, bd_s, bd_s, nI_1]
    exact ref_max (foldB_b (candP_le hS) (by omega)) (by omega) (fun u w => fX12_puddle_l24 k f (sI M2 99 c 9) x5 u w (nI (c + 1)))
  · rintro ⟨M2, c2⟩ ⟨rfl, hF, b1, b2, b3⟩
    refine ⟨M2, hF, fun k f => ?_⟩
    show fX12_puddle_l24 k (f + 1) M2 x5 _ _ (nI (cS S)) = _
    rw [fX12_puddle_l24.eq_2, b1.2.2.2.2.2.2.2.2.1]
    exact le_t (Nat.le_refl _) (by show cS S < 2 ^ 31; omega)
theorem foldB_ne {fw : Bool} {cand : Nat → Option Nat} {v0 : Nat} (h : cand 0 = some v0) : ∀ n, 0 < n → ∃ x, foldB fw cand n = some x
  | 0, h0 => absurd h0 (Nat.lt_irrefl 0)
  | 1, _ => ⟨(0, v0), by rw [foldB_some h]; rfl⟩
  | n + 2, _ => by
    obtain ⟨x, hx⟩ := foldB_ne (fw := fw) h (n + 1) (by omega)
    cases hc : cand (n + 1) with
    | none => exact ⟨x, by rw [foldB_none hc]; exact hx⟩
    | some v =>
      rw [foldB_some hc, hx]
      unfold offB
      simp only []
      by_cases c : (if fw then decide (v < x.2) else decide (x.2 < v)) = true
      · rw [if_pos c]; exact ⟨_, rfl⟩
      · rw [if_neg c]; exact ⟨_, rfl⟩
theorem e26 : E26 Inv := by
  intro K M x1 x2 x3 hx3 hI
  refine pl_case (v := -1) hI (C := fX11_puddle M x1 x2 x3) (R := fun M1 => fX12_puddle M1 x1 x2 x3) rfl (fun _ => rfl) ?_
  intro T j l hW hC hM hB hj hl e1 e2
  have hP := hW.2.2.2.1 j hj
  have hs8 := hP.2.2.2.1
  have h2 := num_lt hW (s := 0) (by decide)
  have c4 := (hC.2.2.2.2.2.1 j hj).2.2.2.1
  by_cases z : pS (tPar T j) = 0
  · refine ⟨-1, M, by rw [c4, eqz_t z], Fr.rfl, hB, fun M3 _ hS hL => ?_⟩
    obtain ⟨M4, M5, r1, r2, r3⟩ := puddle_ref hS hL x3
    refine ⟨M5, ?_, r2⟩
    rw [show cS (scnOf (tPar T j)) = 0 from z] at r3
    rw [r1, bd_s]
    refine (r3 _).trans ?_
    rw [if_pos (show bW (foldB false (candP (scnOf (tPar T j)) (tLaw T l)) 0) = -1 from rfl)]
    rfl
  · obtain ⟨M1, a1, a2, a3, a4, -⟩ := par_beg hW hC hB hj
    obtain ⟨M2, b1, b2, b3⟩ := choice_beg (M := M1)
    have hL2 := CLw_fr (CLw_fr (told_law hC hW hl) a2 (by decide)) b2 (by decide)
    have h0 := hL2.2.1.1
    obtain ⟨M3, r, d1, d2, d3, -, -, -, d7⟩ := spread_spec (BS_fr a3 b2 (by decide)) (c := tLaw T l 0) (by omega)
    have hF3 : Fr cL M M3 := (a2.trans (b2.mono (by decide))).trans (d2.mono (by decide))
    have e3 : gI M3 (1 + (6 + 16 * j)) 3 = nI (pS (tPar T j)) := by rw [hF3.gi (by simp; omega)]; exact c4
    obtain ⟨M5, ⟨g1, g2⟩, g3⟩ := puddle_loop (a1 := 1 + (6 + 16 * j)) d7 d3 (CLw_fr hL2 d2 (by decide)) e3 (by omega) (BO_fr b3 d2 (by decide))
    have cls : fX1_findPuddle M1 (1 + (6 + 16 * j)) (1 + (15 + 16 * l)) = some M5 := by
      unfold fX1_findPuddle
      rw [b1, bd_s, hL2.2.2 0 (by decide), d1, bd_s]
      exact g3 ()
    obtain ⟨x, hx⟩ := foldB_ne (fw := false) (cand := candP (scnOf (tPar T j)) (tLaw T l)) (v0 := hdS (scnOf (tPar T j)) (tLaw T l) 0) rfl (cS (scnOf (tPar T j))) (show 0 < pS (tPar T j) by omega)
    have hxl := (g2.2.2 x hx).1
    have g2 := g2
    rw [hx] at g2
    rw [c4, eqz_f (by omega) (by omega), a1, bd_s, cls, bd_s, g2.1, g2.2.1]
    have hnw : ¬ bW (some x) = -1 := m1_ne (by omega)
    by_cases h5 : x3 = 0
    · refine ⟨_, M5, by rw [if_pos h5], hF3.trans (g1.mono (by decide)), BS_BN (BS_fr d7 g1 (by decide)), fun M3 _ hS hL => ?_⟩
      obtain ⟨M4, M6, r1, r2, r3⟩ := puddle_ref hS hL x3
      refine ⟨M6, ?_, r2⟩
      rw [hx] at r3
      rw [r1, bd_s]
      refine (r3 _).trans ?_
      rw [if_neg hnw, if_pos h5]
    · refine ⟨_, M5, by rw [if_neg h5], hF3.trans (g1.mono (by decide)), BS_BN (BS_fr d7 g1 (by decide)), fun M3 _ hS hL => ?_⟩
      obtain ⟨M4, M6, r1, r2, r3⟩ := puddle_ref hS hL x3
      refine ⟨M6, ?_, r2⟩
      rw [hx] at r3
      rw [r1, bd_s]
      refine (r3 _).trans ?_
      rw [if_neg hnw, if_neg h5]
