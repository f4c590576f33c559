/-! ===== counted ===== -/
theorem BN_fr {M M2 : MM} {L : List Nat} (h : BN M) (hF : Fr L M M2) (h60 : 60 ∉ L) (h73 : 73 ∉ L) : BN M2 := BN_congr h (hF 60 h60).1 (hF 73 h73).1
theorem m1_iff {k : Nat} (hk : k < 2 ^ 31) {α : Type} {x y : α} : (if nI k = -1 then x else y) = y := if_neg (m1_ne hk)
theorem e10 : E10 Inv := by
  intro K M x1 x2 x3 hI
  refine pl_case (v := -1) hI (C := fX11_counted M x1 x2 x3) (R := fun M1 => fX12_counted M1 x1 x2 x3) rfl (fun _ => rfl) ?_
  intro T j l hW hC hM hB hj hl e1 e2
  have hP := hW.2.2.2.1 j hj
  have hs8 := hP.2.2.2.1
  have c4 := (hC.2.2.2.2.2.1 j hj).2.2.2.1
  obtain ⟨M1, a1, a2, a3, a4, -⟩ := par_beg hW hC hB hj
  have hL := CLw_fr (told_law hC hW hl) a2 (by decide)
  obtain ⟨M2, b1, b2, b3, b4⟩ := sum_cls a3 hL
  have hL2 := CLw_fr hL b2 (by decide)
  have hF : Fr cL M M2 := a2.trans (b2.mono (by decide))
  have hBN : BN M2 := BN_fr a4 b2 (by decide) (by decide)
  by_cases h : x3 = -1
  · refine ⟨nI (sumS (scnOf (tPar T j)) (tLaw T l 0) (tLaw T l)), M2, ?_, hF, hBN, fun M3 _ hS hL3 => ?_⟩
    · rw [if_pos h]
      unfold fX11_counted_j48
      rw [a1, bd_s, b1, bd_s, if_pos h]
    · obtain ⟨M4, d1, d2, -⟩ := sum_ref hS hL3
      refine ⟨M4, ?_, d2.mono (by decide)⟩
      rw [if_pos h]
      unfold fX12_counted_j24
      rw [d1, bd_s, if_pos h]
  · rw [if_neg h]
    rcases rng x3 (n := pS (tPar T j)) (by omega) with h2 | ⟨s, hs, rfl⟩
    · refine ⟨-1, M, by rw [hasShine_no c4 h2, if_pos rfl], Fr.rfl, hB, fun M3 _ hS _ => ⟨M3, ?_, Fr.rfl⟩⟩
      rw [if_neg h, isShine_no hS h2, bd_s, if_pos rfl]
    · refine ⟨nI (countS (scnOf (tPar T j)) (tLaw T l 0) (tLaw T l) s), M2, ?_, hF, hBN, fun M3 _ hS hL3 => ?_⟩
      · rw [hasShine_yes c4 (by omega) hs, if_neg i10]
        unfold fX11_counted_j48
        rw [a1, bd_s, b1, bd_s, if_neg h, count_cls b4.1 b3 hL2 hs, bd_s]
      · obtain ⟨M4, d1, d2, d3, d4, d5⟩ := sum_ref hS hL3
        refine ⟨M4, ?_, d2.mono (by decide)⟩
        rw [if_neg h, isShine_yes hS hs, bd_s, if_neg i10]
        unfold fX12_counted_j24
        rw [d1, bd_s, if_neg h, count_ref d4 d3 d5 hs, bd_s]
/-! ===== totals ===== -/
theorem fill_spec {M : MM} {a n : Nat} {v : Int32} (hn : n < 4000) : ∃ M2, fJ7_fill_53178 M a n v = some M2 ∧ Fr [a] M M2 ∧ (∀ k, k < n → gI M2 a k = v) ∧ ∀ k, n ≤ k → gI M2 a k = gI M a k := by
  have key := lpk (κ := Unit) (σ := MM × Nat) (fun _ f st => fJ7_fill_53178_l5 a n f st.1 v (nI st.2) (nI n)) (fun _ M2 => some M2) n
    (fun i st => i = st.2 ∧ Fr [a] M st.1 ∧ (∀ k, k < i → gI st.1 a k = v) ∧ ∀ k, i ≤ k → gI st.1 a k = gI M a k)
    (fun M2 => Fr [a] M M2 ∧ (∀ k, k < n → gI M2 a k = v) ∧ ∀ k, n ≤ k → gI M2 a k = gI M a k) ?_ ?_ FU 0 (M, 0) (by omega) (by show _ < 5000; omega) ⟨rfl, Fr.rfl, fun k hk => absurd hk (Nat.not_lt_zero k), fun k _ => rfl⟩
  · obtain ⟨M2, h1, h2⟩ := key
    exact ⟨M2, by unfold fJ7_fill_53178; rw [bnd_r]; exact h2 (), h1⟩
  · rintro i ⟨M1, j⟩ hi ⟨rfl, hF, a1, a2⟩
    left
    refine ⟨(sI M1 a i v, i + 1), ⟨rfl, hF.pI (List.mem_singleton.mpr rfl), fun k hk => ?_, fun k hk => ?_⟩, fun _ f => ?_⟩
    · show gI (sI M1 a i v) a k = _
      by_cases e : k = i
      · rw [e, gI_eq]
      · rw [gI_nk _ _ _ _ _ _ e]; exact a1 k (by omega)
    · show gI (sI M1 a i v) a k = _
      rw [gI_nk _ _ _ _ _ _ (by omega)]; exact a2 k (by omega)
    · show fJ7_fill_53178_l5 a n (f + 1) M1 v (nI i) (nI n) = fJ7_fill_53178_l5 a n f (sI M1 a i v) v (nI (i + 1)) (nI n)
      rw [fJ7_fill_53178_l5.eq_2, le_f hi (by omega), gd_inb hi (by omega), ix_nI (by omega), bnd_r, nI_1]
  · rintro ⟨M1, j⟩ ⟨rfl, hF, a1, a2⟩
    refine ⟨M1, ⟨hF, a1, a2⟩, fun _ f => ?_⟩
    show fJ7_fill_53178_l5 a n (f + 1) M1 v (nI n) (nI n) = _
    rw [fJ7_fill_53178_l5.eq_2, le_t (Nat.le_refl _) (by omega)]
/-- what a shine adds to a party -/
def addS (S : SCN) (c : Nat) (L : Nat → Nat) (p s : Nat) : Nat := if cSh S s 4 = p then countS S c L s else 0
def totS (S : SCN) (c : Nat) (L : Nat → Nat) (p : Nat) : Nat := sumN (addS S c L p) (cS S)
theorem sumN_le {f : Nat → Nat} {b : Nat} : ∀ {n : Nat}, (∀ k, k < n → f k ≤ b) → sumN f n ≤ n * b
  | 0, _ => by rw [sumN]; omega
  | n + 1, h => by
    have ih := sumN_le (f := f) (b := b) (n := n) (fun k hk => h k (by omega))
    have := h n (by omega)
    rw [sumN, Nat.add_mul, Nat.one_mul]
    omega
theorem addS_le {S : SCN} (hS : SW S) (c : Nat) (L : Nat → Nat) (p s : Nat) : addS S c L p s ≤ 8 := by
  have := countS_le hS c L s
  unfold addS
  split <;> omega
theorem totS_le {S : SCN} (hS : SW S) (c : Nat) (L : Nat → Nat) (p : Nat) : totS S c L p ≤ 64 := by
  have h8 := hS.2.2.2.1
  have := sumN_le (f := addS S c L p) (b := 8) (n := cS S) (fun k _ => addS_le hS c L p k)
  unfold totS
  omega
theorem add_one (a p b v : Nat) (f : Nat → Nat) (M : MM) (h : gI M a p = nI (f p)) : gI (sI M a b (gI M a b + nI v)) a p = nI (f p + if b = p then v else 0) := by
  by_cases e : b = p
  · subst e
    rw [gI_eq, h, nI_add, if_pos rfl]
  · rw [gI_nk _ _ _ _ _ _ (fun z => e z.symm), h, if_neg e, Nat.add_zero]
theorem totals_cls {M : MM} {S : SCN} {a : Nat} {L : Nat → Nat} (hB : BS M S aT) (hL : CLw M a L) : ∃ M2, fX0_addTotals M a = some M2 ∧ Fr [70, 71, 77] M M2 ∧ (∀ p, p < 4 → gI M2 71 p = nI (totS S (L 0) L p)) ∧ BS M2 S aT := by
  have hS := hB.1.1
  have h8 := hS.2.2.2.1
  have h0 := hL.2.1.1
  obtain ⟨M1, r, a1, a2, a3, -, -, -, a7⟩ := spread_spec hB (c := L 0) (by omega)
  obtain ⟨M2, b1, b2, b3, -⟩ := fill_spec (M := M1) (a := 71) (n := 4) (v := 0) (by decide)
  have hB2 : BS M2 S aT := BS_fr a7 b2 (by decide)
  have hN2 : NR M2 S (L 0) := fun s hs => by rw [b2.gi (by decide)]; exact a3 s hs
  have hL2 : CLw M2 a L := CLw_fr (CLw_fr hL a2 (by decide)) b2 (by decide)
  have key := lpk (κ := Unit) (σ := MM × Nat) (fun _ f st => fX0_addTotals_l19 a f st.1 (nI st.2)) (fun _ M3 => some M3) (cS S)
    (fun s st => s = st.2 ∧ Fr [71] M2 st.1 ∧ ∀ p, p < 4 → gI st.1 71 p = nI (sumN (addS S (L 0) L p) s)) (fun M3 => Fr [71] M2 M3 ∧ ∀ p, p < 4 → gI M3 71 p = nI (totS S (L 0) L p)) ?_ ?_ FU 0 (M2, 0) (by omega) (by show _ < 5000; omega) ⟨rfl, Fr.rfl, fun p hp => b3 p hp⟩
  · obtain ⟨M3, ⟨h1, h2⟩, h3⟩ := key
    refine ⟨M3, ?_, ((a2.mono (by decide)).trans (b2.mono (by decide))).trans (h1.mono (by decide)), h2, BS_fr hB2 h1 (by decide)⟩
    unfold fX0_addTotals
    rw [hL.2.2 0 (by decide), a1, bd_s, b1, bd_s]
    exact h3 ()
  · rintro s ⟨M3, s2⟩ hs ⟨rfl, hF, c1⟩
    left
    simp only [] at hF c1
    have hB3 : BS M3 S aT := BS_fr hB2 hF (by decide)
    have hN3 : NR M3 S (L 0) := fun s hs => by rw [hF.gi (by decide)]; exact hN2 s hs
    have hp4 := (hS.2.2.2.2.2.2 s hs).2.2.2.2
    have e68 := (hB3.1.2.2.2.2.2.2.2.2.1 s hs).2.2.2.2
    refine ⟨(sI M3 71 (cSh S s 4) (gI M3 71 (cSh S s 4) + nI (countS S (L 0) L s)), s + 1), ⟨rfl, hF.pI (by decide), fun p hp => ?_⟩, fun _ f => ?_⟩
    · exact add_one 71 p (cSh S s 4) (countS S (L 0) L s) (fun p => sumN (addS S (L 0) L p) s) M3 (c1 p hp)
    · show fX0_addTotals_l19 a (f + 1) M3 (nI s) = fX0_addTotals_l19 a f (sI M3 71 (cSh S s 4) (gI M3 71 (cSh S s 4) + nI (countS S (L 0) L s))) (nI (s + 1))
      rw [fX0_addTotals_l19.eq_2, hB3.1.2.2.2.2.2.1, le_f hs (by omega), gd_inb (by omega) (by decide), ix_nI (by omega), e68, gd_inb hp4 (by decide), count_cls hB3.1 hN3 (CLw_fr hL2 hF (by decide)) hs, bd_s, ix_nI (by omega), gd_inb hp4 (by decide), bnd_r, nI_1]
  · rintro ⟨M3, s2⟩ ⟨rfl, hF, c1⟩
    refine ⟨M3, ⟨hF, c1⟩, fun _ f => ?_⟩
    simp only [] at hF
    show fX0_addTotals_l19 a (f + 1) M3 (nI (cS S)) = _
    rw [fX0_addTotals_l19.eq_2, (BS_fr hB2 hF (by decide)).1.2.2.2.2.2.1, le_t (Nat.le_refl _) (by omega)]
theorem zero_ref {M : MM} : ∃ M2, (Fr [104] M M2 ∧ ∀ p, p < 4 → gI M2 104 p = nI 0) ∧ ∀ k : MM → Option MM, fX12_takesTotals_l6 k FU M (nI 0) = k M2 := by
  refine lpk (κ := MM → Option MM) (σ := MM × Nat) (fun k f st => fX12_takesTotals_l6 k f st.1 (nI st.2)) (fun k M2 => k M2) 4
    (fun i st => i = st.2 ∧ Fr [104] M st.1 ∧ ∀ p, p < i → gI st.1 104 p = nI 0) _ ?_ ?_ FU 0 (M, 0) (by omega) (by decide) ⟨rfl, Fr.rfl, fun p hp => absurd hp (Nat.not_lt_zero p)⟩
  · rintro i ⟨M1, j⟩ hi ⟨rfl, hF, a1⟩
    left
    refine ⟨(sI M1 104 i 0, i + 1), ⟨rfl, hF.pI (by decide), fun p hp => ?_⟩, fun k f => ?_⟩
    · show gI (sI M1 104 i 0) 104 p = _
      by_cases e : p = i
      · rw [e, gI_eq]; rfl
      · rw [gI_nk _ _ _ _ _ _ e]; exact a1 p (by omega)
    · show fX12_takesTotals_l6 k (f + 1) M1 (nI i) = fX12_takesTotals_l6 k f (sI M1 104 i 0) (nI (i + 1))
      rw [fX12_takesTotals_l6.eq_2, nl4, le_f hi (by decide), gd_inb hi (by decide), ix_nI (by omega), bnd_r, nI_1]
  · rintro ⟨M1, j⟩ ⟨rfl, hF, a1⟩
    refine ⟨M1, ⟨hF, a1⟩, fun k f => ?_⟩
    show fX12_takesTotals_l6 k (f + 1) M1 (nI 4) = _
    rw [fX12_takesTotals_l6.eq_2, nl4, le_t (Nat.le_refl _) (by decide)]
theorem LO_fr {M M2 : MM} {S : SCN} {P : List Nat} (h : LO M S) (hF : Fr P M M2) (h1 : 102 ∉ P) (h2 : 103 ∉ P) : LO M2 S := ⟨fun s p hs hp => by rw [hF.gi h1]; exact h.1 s p hs hp, fun s hs => by rw [hF.gi h2]; exact h.2 s hs⟩
theorem totals_ref {M : MM} {o l0 c : Nat} {P : PARD} {S : SCN} {L : Nat → Nat} (hM : MS M o P S) (hL : ML M l0 L c) : ∃ M2, fX12_takesTotals M = some M2 ∧ Fr [102, 103, 104] M M2 ∧ LO M2 S ∧ (∀ p, p < 4 → gI M2 104 p = nI (totS S c L p)) ∧ MS M2 o P S ∧ ML M2 l0 L c := by
  obtain ⟨M1, a1, a2, a3, a4⟩ := laysOut_spec hM
  obtain ⟨M2, ⟨b1, b2⟩, b3⟩ := zero_ref (M := M1)
  have hS := hM.2.2.2.2.1
  have h8 := hS.2.2.2.1
  have hM2 : MS M2 o P S := MS_fr a4 b1 (by decide)
  have hO2 : LO M2 S := LO_fr a3 b1 (by decide) (by decide)
  have hL2 : ML M2 l0 L c := ML_fr (ML_fr hL a2 (by decide) (by decide)) b1 (by decide) (by decide)
  have key := lpk (κ := Unit) (σ := MM × Nat) (fun _ f st => fX12_takesTotals_l26 f st.1 (nI st.2)) (fun _ M3 => some M3) (cS S)
    (fun s st => s = st.2 ∧ Fr [104] M2 st.1 ∧ ∀ p, p < 4 → gI st.1 104 p = nI (sumN (addS S c L p) s)) (fun M3 => Fr [104] M2 M3 ∧ ∀ p, p < 4 → gI M3 104 p = nI (totS S c L p)) ?_ ?_ FU 0 (M2, 0) (by omega) (by show _ < 5000; omega) ⟨rfl, Fr.rfl, fun p hp => b2 p hp⟩
  · obtain ⟨M3, ⟨h1, h2⟩, h3⟩ := key
    refine ⟨M3, ?_, ((a2.mono (by decide)).trans (b1.mono (by decide))).trans (h1.mono (by decide)), LO_fr hO2 h1 (by decide) (by decide), h2, MS_fr hM2 h1 (by decide), ML_fr hL2 h1 (by decide) (by decide)⟩
    unfold fX12_takesTotals
    rw [a1, bd_s, nl0, b3]
    exact h3 ()
  · rintro s ⟨M3, s2⟩ hs ⟨rfl, hF, c1⟩
    left
    simp only [] at hF c1
    have hM3 : MS M3 o P S := MS_fr hM2 hF (by decide)
    have hp4 := (hS.2.2.2.2.2.2 s hs).2.2.2.2
    have e100 : gI M3 100 s = nI (cSh S s 4) := hM3.2.2.2.2.2.2.2.2.2.2.1 s hs 4 (by decide)
    refine ⟨(sI M3 104 (cSh S s 4) (gI M3 104 (cSh S s 4) + nI (countS S c L s)), s + 1), ⟨rfl, hF.pI (by decide), fun p hp => ?_⟩, fun _ f => ?_⟩
    · exact add_one 104 p (cSh S s 4) (countS S c L s) (fun p => sumN (addS S c L p) s) M3 (c1 p hp)
    · show fX12_takesTotals_l26 (f + 1) M3 (nI s) = fX12_takesTotals_l26 f (sI M3 104 (cSh S s 4) (gI M3 104 (cSh S s 4) + nI (countS S c L s))) (nI (s + 1))
      rw [fX12_takesTotals_l26.eq_2, hM3.2.2.2.2.2.2.2.2.1, le_f hs (by omega), gd_inb (by omega) (by decide), ix_nI (by omega), e100, gd_inb hp4 (by decide), count_ref hM3 (LO_fr hO2 hF (by decide) (by decide)) (ML_fr hL2 hF (by decide) (by decide)) hs, bd_s, ix_nI (by omega), gd_inb hp4 (by decide), bnd_r, nI_1]
  · rintro ⟨M3, s2⟩ ⟨rfl, hF, c1⟩
    refine ⟨M3, ⟨hF, c1⟩, fun _ f => ?_⟩
    simp only [] at hF
    show fX12_takesTotals_l26 (f + 1) M3 (nI (cS S)) = _
    rw [fX12_takesTotals_l26.eq_2, (MS_fr hM2 hF (by decide)).2.2.2.2.2.2.2.2.1, le_t (Nat.le_refl _) (by omega)]
