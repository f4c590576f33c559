/-! ===== degrees: the second phase ===== -/
def NB (S : SCN) (k s p : Nat) : Prop := (nearM S k s).testBit p = true
theorem joinD_row {dv : Nat → Nat → Nat} {s t p : Nat} (hp : p < 8) : joinD dv s t 8 s p = if dv s p ≤ joinV dv t p then dv s p else joinV dv t p := by
  unfold joinD
  rw [if_pos ⟨rfl, hp⟩]
theorem joinD_ne {dv : Nat → Nat → Nat} {s t p s2 : Nat} (h : s2 ≠ s) : joinD dv s t 8 s2 p = dv s2 p := by
  unfold joinD
  rw [if_neg (fun q => h q.1)]
theorem joinD_le {dv : Nat → Nat → Nat} {s t p s2 : Nat} (hp : p < 8) : joinD dv s t 8 s2 p ≤ dv s2 p := by
  by_cases h : s2 = s
  · subst h
    rw [joinD_row hp]
    split <;> omega
  · rw [joinD_ne h]
    exact Nat.le_refl _
def SN (S : SCN) (B : Nat) (b : Nat → Nat) (dv : Nat → Nat → Nat) : Prop := ∀ s p, s < 8 → p < 8 → dv s p = 99 ∨ (dv s p ≤ B + b s ∧ s < cS S ∧ NB S (dv s p) s p)
def CM (S : SCN) (r : Nat) (dv : Nat → Nat → Nat) : Prop := ∀ k s p, k ≤ r → s < cS S → p < 8 → NB S k s p → dv s p ≤ k
def CR (S : SCN) (r i : Nat) (dv : Nat → Nat → Nat) : Prop := ∀ s p, s < i → p < 8 → NB S (r + 1) s p → dv s p ≤ r + 1
theorem laysOut_row {M : MM} {o : Nat} {P : PARD} {S : SCN} (hM : MS M o P S) (hL : ∀ s, s < cS S → gI M 103 s = nI (lookN S s 8)) {r i : Nat} (hr : r < 8) (hi : i < cS S) {dv : Nat → Nat → Nat} (hD : DV M dv) (h1 : SN S (8 * r + i) (fun _ => 0) dv) (h2 : CM S r dv) (h3 : CR S r i dv) :
    ∃ M2, (Fr [102] M M2 ∧ ∃ dv2, DV M2 dv2 ∧ SN S (8 * r + (i + 1)) (fun _ => 0) dv2 ∧ CM S r dv2 ∧ CR S r (i + 1) dv2) ∧ ∀ k : (MM → Int32 → Int32 → Option MM) × Int32, fX12_laysOut_l131 k.1 FU M k.2 (nI i) (nI 0) = k.1 M2 k.2 (nI i) := by
  have hS := hM.2.2.2.2.1
  have h8 := hS.2.2.2.1
  refine lpk (κ := (MM → Int32 → Int32 → Option MM) × Int32) (σ := MM × Nat) (fun k f st => fX12_laysOut_l131 k.1 f st.1 k.2 (nI i) (nI st.2)) (fun k M2 => k.1 M2 k.2 (nI i)) (cS S)
    (fun t st => t = st.2 ∧ Fr [102] M st.1 ∧ ∃ d, DV st.1 d ∧ SN S (8 * r + i) (fun s => if s = i then 1 else 0) d ∧ CM S r d ∧ CR S r i d ∧ ∀ t2, t2 < t → (lookN S i 8).testBit t2 = true → ∀ p, p < 8 → NB S r t2 p → d i p ≤ r + 1) _ ?_ ?_ FU 0 (M, 0) (by omega) (by show _ < 5000; omega) ⟨rfl, Fr.rfl, dv, hD, ?_, h2, h3, fun t2 ht => absurd ht (Nat.not_lt_zero t2)⟩
  · rintro t ⟨M1, j⟩ ht ⟨rfl, hF, d, hd, a1, a2, a3, a4⟩
    left
    have h14 : gI M1 90 14 = nI (cS S) := by rw [hF.gi (by decide)]; exact hM.2.2.2.2.2.2.2.2.1
    have hl : gI M1 103 i = nI (lookN S i 8) := by rw [hF.gi (by decide)]; exact hL i hi
    have ll := lookN_lt hS i 8
    have hb : ∀ s p, s < 8 → p < 8 → d s p ≤ 99 := fun s p hs hp => by
      rcases a1 s p hs hp with q | ⟨q, -, -⟩
      · omega
      · simp only [] at q
        split at q <;> omega
    by_cases c : (lookN S i 8).testBit t = true
    · obtain ⟨M2, e1, e2, e3⟩ := joins_spec (s := i) (t := t) (by omega) (by omega) hd hb
      refine ⟨(M2, t + 1), ⟨rfl, hF.trans e2, joinD d i t 8, e3, ?_, ?_, ?_, ?_⟩, fun k f => ?_⟩
      · intro s p hs hp
        by_cases es : s = i
        · subst es
          rw [joinD_row hp]
          by_cases c2 : d s p ≤ joinV d t p
          · rw [if_pos c2]; exact a1 s p hs hp
          · rw [if_neg c2]
            have b1 := hb s p hs hp
            have ht99 : d t p ≠ 99 := fun q => c2 (by unfold joinV; rw [if_pos q]; exact b1)
            have ev : joinV d t p = d t p + 1 := by unfold joinV; rw [if_neg ht99]
            have hne : t ≠ s := fun q => c2 (by rw [ev, q]; omega)
            rcases a1 t p (by omega) hp with q | ⟨q1, q2, q3⟩
            · exact absurd q ht99
            · simp only [] at q1
              rw [if_neg hne] at q1
              refine Or.inr ⟨?_, hi, ?_⟩
              · show joinV d t p ≤ 8 * r + s + if s = s then 1 else 0
                rw [if_pos rfl]; omega
              · rw [ev]
                exact near_step.mpr (Or.inr ⟨t, ht, c, q3⟩)
        · rw [joinD_ne es]; exact a1 s p hs hp
      · intro k2 s p hk hs hp hn
        exact Nat.le_trans (joinD_le hp) (a2 k2 s p hk hs hp hn)
      · intro s p hs hp hn
        exact Nat.le_trans (joinD_le hp) (a3 s p hs hp hn)
      · intro t2 ht2 hl2 p hp hn
        rcases Nat.lt_or_ge t2 t with q | q
        · exact Nat.le_trans (joinD_le hp) (a4 t2 q hl2 p hp hn)
        · have e : t2 = t := by omega
          subst e
          have b := a2 r t2 p (Nat.le_refl r) ht hp hn
          rw [joinD_row hp]
          have ev : joinV d t2 p = d t2 p + 1 := by unfold joinV; rw [if_neg (by omega)]
          split <;> omega
      · show fX12_laysOut_l131 k.1 (f + 1) M1 k.2 (nI i) (nI t) = fX12_laysOut_l131 k.1 f M2 k.2 (nI i) (nI (t + 1))
        rw [fX12_laysOut_l131.eq_2, h14, le_f ht (by omega), gd_inb (by omega) (by decide), ix_nI (by omega), hl, bit_s1 (by omega) (by omega), if_pos c, e1, bd_s, nI_1]
    · refine ⟨(M1, t + 1), ⟨rfl, hF, d, hd, a1, a2, a3, ?_⟩, fun k f => ?_⟩
      · intro t2 ht2 hl2 p hp hn
        rcases Nat.lt_or_ge t2 t with q | q
        · exact a4 t2 q hl2 p hp hn
        · have e : t2 = t := by omega
          subst e
          exact absurd hl2 c
      · show fX12_laysOut_l131 k.1 (f + 1) M1 k.2 (nI i) (nI t) = fX12_laysOut_l131 k.1 f M1 k.2 (nI i) (nI (t + 1))
        rw [fX12_laysOut_l131.eq_2, h14, le_f ht (by omega), gd_inb (by omega) (by decide), ix_nI (by omega), hl, bit_s1 (by omega) (by omega), if_neg c, nI_1]
  · rintro ⟨M1, j⟩ ⟨rfl, hF, d, hd, a1, a2, a3, a4⟩
    have h14 : gI M1 90 14 = nI (cS S) := by rw [hF.gi (by decide)]; exact hM.2.2.2.2.2.2.2.2.1
    refine ⟨M1, ⟨hF, d, hd, ?_, a2, ?_⟩, fun k f => ?_⟩
    · intro s p hs hp
      rcases a1 s p hs hp with q | ⟨q1, q2⟩
      · exact Or.inl q
      · refine Or.inr ⟨?_, q2⟩
        simp only [] at q1
        show d s p ≤ 8 * r + (i + 1) + 0
        split at q1 <;> omega
    · intro s p hs hp hn
      rcases Nat.lt_or_ge s i with q | q
      · exact a3 s p q hp hn
      · have e : s = i := by omega
        subst e
        rcases near_step.mp hn with z | ⟨t, ht, hl, z⟩
        · have := a2 r s p (Nat.le_refl r) hi hp z
          omega
        · exact a4 t ht hl p hp z
    · show fX12_laysOut_l131 k.1 (f + 1) M1 k.2 (nI i) (nI (cS S)) = _
      rw [fX12_laysOut_l131.eq_2, h14, le_t (Nat.le_refl _) (by omega)]
  · intro s p hs hp
    rcases h1 s p hs hp with q | ⟨q1, q2⟩
    · exact Or.inl q
    · exact Or.inr ⟨by simp only [] at q1 ⊢; omega, q2⟩
theorem laysOut_turn {M : MM} {o : Nat} {P : PARD} {S : SCN} (hM : MS M o P S) (hL : ∀ s, s < cS S → gI M 103 s = nI (lookN S s 8)) {r : Nat} (hr : r < 8) {dv : Nat → Nat → Nat} (hD : DV M dv) (h1 : SN S (8 * r) (fun _ => 0) dv) (h2 : CM S r dv) :
    ∃ M2, (Fr [102] M M2 ∧ ∃ dv2, DV M2 dv2 ∧ SN S (8 * (r + 1)) (fun _ => 0) dv2 ∧ CM S (r + 1) dv2) ∧ ∀ k : (MM → Int32 → Option MM) × Int32, fX12_laysOut_l121 k.1 FU M k.2 (nI 0) = k.1 M2 k.2 := by
  have hS := hM.2.2.2.2.1
  have h8 := hS.2.2.2.1
  refine lpk (κ := (MM → Int32 → Option MM) × Int32) (σ := MM × Nat) (fun k f st => fX12_laysOut_l121 k.1 f st.1 k.2 (nI st.2)) (fun k M2 => k.1 M2 k.2) (cS S)
    (fun i st => i = st.2 ∧ Fr [102] M st.1 ∧ ∃ d, DV st.1 d ∧ SN S (8 * r + i) (fun _ => 0) d ∧ CM S r d ∧ CR S r i d) _ ?_ ?_ FU 0 (M, 0) (by omega) (by show _ < 5000; omega) ⟨rfl, Fr.rfl, dv, hD, h1, h2, fun s p hs => absurd hs (Nat.not_lt_zero s)⟩
  · rintro i ⟨M1, j⟩ hi ⟨rfl, hF, d, hd, a1, a2, a3⟩
    left
    have hM1 : MS M1 o P S := MS_fr hM hF (by decide)
    have h14 : gI M1 90 14 = nI (cS S) := hM1.2.2.2.2.2.2.2.2.1
    obtain ⟨M2, ⟨e1, d2, e2, e3, e4, e5⟩, e6⟩ := laysOut_row hM1 (fun s hs => by rw [hF.gi (by decide)]; exact hL s hs) hr hi hd a1 a2 a3
    refine ⟨(M2, i + 1), ⟨rfl, hF.trans e1, d2, e2, e3, e4, e5⟩, fun k f => ?_⟩
    show fX12_laysOut_l121 k.1 (f + 1) M1 k.2 (nI i) = fX12_laysOut_l121 k.1 f M2 k.2 (nI (i + 1))
    rw [fX12_laysOut_l121.eq_2, h14, le_f hi (by omega), nl0]
    have := e6 (fun M70 y71 y72 => fX12_laysOut_l121 k.1 f M70 y71 (y72 + 1), k.2)
    simp only [] at this
    rw [this, nI_1]
  · rintro ⟨M1, j⟩ ⟨rfl, hF, d, hd, a1, a2, a3⟩
    have h14 : gI M1 90 14 = nI (cS S) := by rw [hF.gi (by decide)]; exact hM.2.2.2.2.2.2.2.2.1
    refine ⟨M1, ⟨hF, d, hd, ?_, ?_⟩, fun k f => ?_⟩
    · intro s p hs hp
      rcases a1 s p hs hp with q | ⟨q1, q2⟩
      · exact Or.inl q
      · exact Or.inr ⟨by simp only [] at q1 ⊢; omega, q2⟩
    · intro k s p hk hs hp hn
      rcases Nat.lt_or_ge r k with q | q
      · rw [show k = r + 1 by omega] at hn ⊢
        exact a3 s p hs hp hn
      · exact a2 k s p q hs hp hn
    · show fX12_laysOut_l121 k.1 (f + 1) M1 k.2 (nI (cS S)) = _
      rw [fX12_laysOut_l121.eq_2, h14, le_t (Nat.le_refl _) (by omega)]
theorem laysOut_turns {M : MM} {o : Nat} {P : PARD} {S : SCN} (hM : MS M o P S) (hL : ∀ s, s < cS S → gI M 103 s = nI (lookN S s 8)) {dv : Nat → Nat → Nat} (hD : DV M dv) (h1 : SN S 0 (fun _ => 0) dv) (h2 : CM S 0 dv) :
    ∃ M2, (Fr [102] M M2 ∧ ∃ dv2, DV M2 dv2 ∧ SN S (8 * cS S) (fun _ => 0) dv2 ∧ CM S (cS S) dv2) ∧ ∀ _k : Unit, fX12_laysOut_l111 FU M (nI 0) = some M2 := by
  have hS := hM.2.2.2.2.1
  have h8 := hS.2.2.2.1
  refine lpk (κ := Unit) (σ := MM × Nat) (fun _ f st => fX12_laysOut_l111 f st.1 (nI st.2)) (fun _ M2 => some M2) (cS S)
    (fun r st => r = st.2 ∧ Fr [102] M st.1 ∧ ∃ d, DV st.1 d ∧ SN S (8 * r) (fun _ => 0) d ∧ CM S r d) _ ?_ ?_ FU 0 (M, 0) (by omega) (by show _ < 5000; omega) ⟨rfl, Fr.rfl, dv, hD, h1, h2⟩
  · rintro r ⟨M1, j⟩ hr ⟨rfl, hF, d, hd, a1, a2⟩
    left
    have hM1 : MS M1 o P S := MS_fr hM hF (by decide)
    have h14 : gI M1 90 14 = nI (cS S) := hM1.2.2.2.2.2.2.2.2.1
    obtain ⟨M2, ⟨e1, d2, e2, e3, e4⟩, e6⟩ := laysOut_turn hM1 (fun s hs => by rw [hF.gi (by decide)]; exact hL s hs) (by omega) hd a1 a2
    refine ⟨(M2, r + 1), ⟨rfl, hF.trans e1, d2, e2, e3, e4⟩, fun k f => ?_⟩
    show fX12_laysOut_l111 (f + 1) M1 (nI r) = fX12_laysOut_l111 f M2 (nI (r + 1))
    rw [fX12_laysOut_l111.eq_2, h14, le_f hr (by omega), nl0]
    have := e6 (fun M73 y74 => fX12_laysOut_l111 f M73 (y74 + 1), nI r)
    simp only [] at this
    rw [this, nI_1]
  · rintro ⟨M1, j⟩ ⟨rfl, hF, d, hd, a1, a2⟩
    have h14 : gI M1 90 14 = nI (cS S) := by rw [hF.gi (by decide)]; exact hM.2.2.2.2.2.2.2.2.1
    refine ⟨M1, ⟨hF, d, hd, a1, a2⟩, fun k f => ?_⟩
    show fX12_laysOut_l111 (f + 1) M1 (nI (cS S)) = _
    rw [fX12_laysOut_l111.eq_2, h14, le_t (Nat.le_refl _) (by omega)]
/-- laid out: the degrees and who is looked at -/
def LO (M : MM) (S : SCN) : Prop := (∀ s p, s < cS S → p < 8 → gI M 102 (8 * s + p) = nI (dgN S s p)) ∧ ∀ s, s < cS S → gI M 103 s = nI (lookN S s 8)
theorem laysOut_fill {M : MM} : ∃ M2, (Fr [102, 103] M M2 ∧ PH M2 (fun _ => 0)) ∧ ∀ k : MM → Option MM, fX12_laysOut_l2 k FU M (nI 0) = k M2 := by
  refine lpk (κ := MM → Option MM) (σ := MM × Nat) (fun k f st => fX12_laysOut_l2 k f st.1 (nI st.2)) (fun k M2 => k M2) 64
    (fun i st => i = st.2 ∧ Fr [102, 103] M st.1 ∧ ∀ x, x < i → gI st.1 102 x = nI 99) _ ?_ ?_ FU 0 (M, 0) (by omega) (by decide) ⟨rfl, Fr.rfl, fun x hx => absurd hx (Nat.not_lt_zero x)⟩
  · rintro i ⟨M1, j⟩ hi ⟨rfl, hF, a1⟩
    left
    refine ⟨(sI M1 102 i 99, i + 1), ⟨rfl, hF.pI (by decide), fun x hx => ?_⟩, fun k f => ?_⟩
    · show gI (sI M1 102 i 99) 102 x = nI 99
      rcases Nat.lt_or_ge x i with q | q
      · rw [gI_nk _ _ _ _ _ _ (by omega)]; exact a1 x q
      · rw [show x = i by omega, gI_eq]; rfl
    · show fX12_laysOut_l2 k (f + 1) M1 (nI i) = fX12_laysOut_l2 k f (sI M1 102 i 99) (nI (i + 1))
      rw [fX12_laysOut_l2.eq_2, nl64, le_f hi (by decide), gd_inb hi (by decide), ix_nI (by omega), bnd_r, nI_1]
  · rintro ⟨M1, j⟩ ⟨rfl, hF, a1⟩
    refine ⟨M1, ⟨hF, fun s p hs hp => ?_⟩, fun k f => ?_⟩
    · rw [a1 (8 * s + p) (by omega), tb_0]; rfl
    · show fX12_laysOut_l2 k (f + 1) M1 (nI 64) = _
      rw [fX12_laysOut_l2.eq_2, nl64, le_t (Nat.le_refl _) (by decide)]
def f0 (S : SCN) (s : Nat) : Nat := if s < cS S then seenN S s 8 else 0
def dv0 (S : SCN) (s p : Nat) : Nat := if (f0 S s).testBit p then 0 else 99
theorem dv0_yes {S : SCN} {s p : Nat} (h : s < cS S) (h2 : (seenN S s 8).testBit p = true) : dv0 S s p = 0 := by
  have e : f0 S s = seenN S s 8 := by unfold f0; rw [if_pos h]
  unfold dv0
  rw [e, if_pos h2]
theorem dv0_no {S : SCN} {s p : Nat} (h : ¬ (s < cS S ∧ (seenN S s 8).testBit p = true)) : dv0 S s p = 99 := by
  unfold dv0
  refine if_neg (fun q => h ?_)
  unfold f0 at q
  by_cases c : s < cS S
  · rw [if_pos c] at q; exact ⟨c, q⟩
  · rw [if_neg c, tb_0] at q; cases q
theorem laysOut_spec {M : MM} {o : Nat} {P : PARD} {S : SCN} (hM : MS M o P S) : ∃ M2, fX12_laysOut M = some M2 ∧ Fr [102, 103] M M2 ∧ LO M2 S ∧ MS M2 o P S := by
  have hS := hM.2.2.2.2.1
  have h8 := hS.2.2.2.1
  obtain ⟨M1, ⟨a1, a2⟩, a3⟩ := laysOut_fill (M := M)
  have hM1 : MS M1 o P S := MS_fr hM a1 (by decide)
  obtain ⟨M2, ⟨b1, b2, b3⟩, b4⟩ := laysOut_first hM1 a2
  have hM2 : MS M2 o P S := MS_fr hM1 b1 (by decide)
  have hD : DV M2 (dv0 S) := fun s p hs hp => b2 s p hs hp
  have h1 : SN S 0 (fun _ => 0) (dv0 S) := by
    intro s p hs hp
    by_cases c : s < cS S
    · by_cases d : (seenN S s 8).testBit p = true
      · rw [dv0_yes c d]; exact Or.inr ⟨Nat.le_refl 0, c, d⟩
      · rw [dv0_no (fun q => d q.2)]; exact Or.inl rfl
    · rw [dv0_no (fun q => c q.1)]; exact Or.inl rfl
  have h2 : CM S 0 (dv0 S) := by
    intro k s p hk hs hp hn
    rw [show k = 0 by omega] at hn
    rw [dv0_yes hs hn]
    omega
  obtain ⟨M3, ⟨c1, d, c2, c3, c4⟩, c5⟩ := laysOut_turns hM2 b3 hD h1 h2
  have hM3 : MS M3 o P S := MS_fr hM2 c1 (by decide)
  refine ⟨M3, ?_, (a1.trans b1).trans (c1.mono (by decide)), ⟨fun s p hs hp => ?_, fun s hs => ?_⟩, hM3⟩
  · unfold fX12_laysOut
    rw [nl0, a3, b4, c5 ()]
  · rw [c2 s p (by omega) hp]
    congr 1
    refine dg_is hS hs ?_ (fun r hr hn => c4 r s p hr hs hp hn)
    rcases c3 s p (by omega) hp with q | ⟨q1, q2, q3⟩
    · exact Or.inl q
    · exact Or.inr ⟨by simp only [] at q1; omega, q3⟩
  · rw [c1.gi (by decide)]; exact b3 s hs
