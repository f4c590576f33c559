/-! ===== together ===== -/
theorem away_on {S : SCN} (hD : DI S) {a x qa : Nat} (ha : a < cN S) (e : cAt S a = some qa) : onS (setA S a none) x = if x = qa then 0 else onS S x := by
  by_cases c : x = qa
  · rw [if_pos c, c]; exact setA_away hD ha e
  · rw [if_neg c]
    exact setA_on_ne (fun z => c (Option.some.inj (z.symm.trans e))) (fun z => by cases z)
theorem on_own {S : SCN} (hD : DI S) {a qa : Nat} (ha : a < cN S) (e : cAt S a = some qa) : onS S qa = 10 + a := onS_person ha e (fun j hj z => by
  have := hD.1 j a qa (by omega) ha z e
  omega)
theorem freeFor2 {S : SCN} (hN8 : cN S ≤ 8) (hD : DI S) {a b x : Nat} (ha : a < cN S) (hb : b < cN S) (hne : a ≠ b) (hA : ∃ q, cAt S a = some q) (hB : ∃ q, cAt S b = some q) : (onS S x = 0 ∨ onS S x = 10 + a ∨ onS S x = 10 + b) ↔ onS (setA (setA S a none) b none) x = 0 := by
  obtain ⟨qa, ea⟩ := hA
  obtain ⟨qb, eb⟩ := hB
  have hD1 : DI (setA S a none) := setA_DI hD (fun q z => by cases z)
  have eb1 : cAt (setA S a none) b = some qb := by rw [setA_at, if_neg (fun z => hne z.symm)]; exact eb
  rw [away_on hD1 (a := b) hb eb1, away_on hD ha ea]
  have hfa := freeFor (x := x) hN8 hD ha ⟨qa, ea⟩
  have hfb := freeFor (x := x) hN8 hD hb ⟨qb, eb⟩
  rw [away_on hD ha ea] at hfa
  rw [away_on hD hb eb] at hfb
  by_cases c1 : x = qb
  · rw [if_pos c1]
    refine ⟨fun _ => rfl, fun _ => Or.inr (Or.inr ?_)⟩
    rw [c1]; exact on_own hD hb eb
  · rw [if_neg c1]
    rw [if_neg c1] at hfb
    by_cases c2 : x = qa
    · rw [if_pos c2]
      refine ⟨fun _ => rfl, fun _ => Or.inr (Or.inl ?_)⟩
      rw [c2]; exact on_own hD ha ea
    · rw [if_neg c2]
      rw [if_neg c2] at hfa
      constructor
      · rintro (h | h | h)
        · exact h
        · exact hfa.mp (Or.inr h)
        · exact hfb.mp (Or.inr h)
      · intro h; exact Or.inl h
/-- both away -/
def awS (S : SCN) (a b : Nat) : SCN := setA (setA S a none) b none
def twoS (S : SCN) (a b q1 q2 : Nat) : SCN := setA (setA S a (some q1)) b (some q2)
theorem aw_two {S : SCN} {a b q1 q2 : Nat} (h : a ≠ b) : setA (setA (awS S a b) a (some q1)) b (some q2) = twoS S a b q1 q2 := by
  unfold awS twoS
  rw [setA_comm (p := b) (q := a) (fun z => h z.symm), setA_twice, setA_twice]
def cand2 (S : SCN) (L : Nat → Nat) (a b code : Nat) : Option Nat := if code / 64 ≠ code % 64 ∧ code / 64 < cW S * cH S ∧ code % 64 < cW S * cH S ∧ onS (awS S a b) (sq8 (cW S) (code / 64)) = 0 ∧ onS (awS S a b) (sq8 (cW S) (code % 64)) = 0 then some (sumS (twoS S a b (sq8 (cW S) (code / 64)) (sq8 (cW S) (code % 64))) (L 0) L) else none
theorem twoS_SW {S : SCN} (hS : SW S) {a b q1 q2 : Nat} (h1 : inP (cW S) (cH S) q1) (h2 : inP (cW S) (cH S) q2) : SW (twoS S a b q1 q2) :=
  setA_SW (S := setA S a (some q1)) (setA_SW hS (fun q z => by cases z; exact h1)) (fun q z => by cases z; exact h2)
theorem cand2_le {S : SCN} (hS : SW S) {L : Nat → Nat} {a b : Nat} : ∀ k v, cand2 S L a b k = some v → v ≤ 64 := fun k v h => by
  unfold cand2 at h
  by_cases c : k / 64 ≠ k % 64 ∧ k / 64 < cW S * cH S ∧ k % 64 < cW S * cH S ∧ onS (awS S a b) (sq8 (cW S) (k / 64)) = 0 ∧ onS (awS S a b) (sq8 (cW S) (k % 64)) = 0
  · rw [if_pos c] at h
    cases h
    have hw : 0 < cW S := by have := hS.1.1; omega
    exact sumS_le (twoS_SW hS (sq8_inP hw hS.1.2 c.2.1) (sq8_inP hw hS.1.2 c.2.2.1)) _ _
  · rw [if_neg c] at h; cases h
theorem sq8_inj {w c d : Nat} (hw : 0 < w) (hw8 : w ≤ 8) (h : sq8 w c = sq8 w d) : c = d := by rw [← sqC_sq8 (c := c) hw hw8, h, sqC_sq8 hw hw8]
theorem two_in {M : MM} {S : SCN} {a1 al a b c1 : Nat} {L : Nat → Nat} (hS : SW S) (hB : BS M (setA (awS S a b) a (some (sq8 (cW S) c1))) aT) (hD : DI (setA (awS S a b) a (some (sq8 (cW S) c1)))) (hL : CLw M al L) (ha : a < cN S) (hb : b < cN S) (hne : a ≠ b) (hc1 : c1 < cW S * cH S) (hz : onS (awS S a b) (sq8 (cW S) c1) = 0) (hbo : BO M (foldB false (cand2 S L a b) (64 * c1))) : ∃ M2, (Fr cL M M2 ∧ BS M2 (setA (awS S a b) a (some (sq8 (cW S) c1))) aT ∧ BO M2 (foldB false (cand2 S L a b) (64 * c1 + cW S * cH S))) ∧ ∀ (k : MM → Int32 → Int32 → Int32 → Option MM), fX1_placeTwo_l97 a1 al k FU M (nI a) (nI b) (nI c1) (nI (sumS (setA (awS S a b) a (some (sq8 (cW S) c1))) (L 0) L)) (nI 0) = k M2 (nI a) (nI b) (nI c1) := by
  have h64 := wh_64 hS
  have hw : 0 < cW S := by have := hS.1.1; omega
  refine lpk (κ := MM → Int32 → Int32 → Int32 → Option MM) (σ := MM × Nat) (fun k f st => fX1_placeTwo_l97 a1 al k f st.1 (nI a) (nI b) (nI c1) (nI (sumS (setA (awS S a b) a (some (sq8 (cW S) c1))) (L 0) L)) (nI st.2)) (fun k M2 => k M2 (nI a) (nI b) (nI c1)) (cW S * cH S)
    (fun c st => c = st.2 ∧ Fr cL M st.1 ∧ BS st.1 (setA (awS S a b) a (some (sq8 (cW S) c1))) aT ∧ BO st.1 (foldB false (cand2 S L a b) (64 * c1 + c))) _ ?_ ?_ FU 0 (M, 0) (by omega) (by show _ < 5000; omega) ⟨rfl, Fr.rfl, hB, hbo⟩
  · rintro c ⟨M1, c2⟩ hc ⟨rfl, hF, b1, b2⟩
    left
    simp only [] at hF b1 b2
    have hL1 : CLw M1 al L := CLw_fr hL hF (by decide)
    have hq : inP (cW S) (cH S) (sq8 (cW S) c) := sq8_inP hw hS.1.2 hc
    have ec : sqC (cW S) (sq8 (cW S) c) = c := sqC_sq8 hw hS.1.2
    have esq : fX0_squares M1 = nI (cW S * cH S) := squares_spec (S := setA (awS S a b) a (some (sq8 (cW S) c1))) b1.1
    have efr : fX0_isFree M1 (nI c) = some (if onS (setA (awS S a b) a (some (sq8 (cW S) c1))) (sq8 (cW S) c) = 0 then 1 else 0) := isFree_spec (S := setA (awS S a b) a (some (sq8 (cW S) c1))) b1.1 hc
    have hco : (64 * c1 + c) / 64 = c1 ∧ (64 * c1 + c) % 64 = c := by omega
    have haa : cAt (awS S a b) a = none := by
      unfold awS
      rw [setA_at, if_neg hne, setA_at, if_pos rfl]
    have hbb : cAt (setA (awS S a b) a (some (sq8 (cW S) c1))) b = none := by
      rw [setA_at, if_neg (fun z => hne z.symm)]
      unfold awS
      rw [setA_at, if_pos rfl]
    have hon : onS (setA (awS S a b) a (some (sq8 (cW S) c1))) (sq8 (cW S) c) = 0 ↔ (c1 ≠ c ∧ onS (awS S a b) (sq8 (cW S) c) = 0) := by
      by_cases e : c1 = c
      · rw [← e]
        have : onS (setA (awS S a b) a (some (sq8 (cW S) c1))) (sq8 (cW S) c1) = 10 + a := setA_put (S := awS S a b) ha (by rw [setA_id haa]; exact hz)
        rw [this]
        constructor
        · intro h; omega
        · rintro ⟨h, -⟩; exact absurd rfl h
      · rw [setA_on_ne (S := awS S a b) (fun z => by rw [haa] at z; cases z) (fun z => e (sq8_inj hw hS.1.2 (Option.some.inj z)))]
        exact ⟨fun h => ⟨e, h⟩, fun h => h.2⟩
    by_cases z : onS (setA (awS S a b) a (some (sq8 (cW S) c1))) (sq8 (cW S) c) = 0
    · obtain ⟨M2, d1, d2, d3⟩ := sumWith_spec (p := b) b1 hD hL1 hb hbb hq z
      rw [aw_two hne] at d1
      have d1 : fX1_sumWith M1 (nI b) (nI (sqC (cW S) (sq8 (cW S) c))) al (nI (sumS (setA (awS S a b) a (some (sq8 (cW S) c1))) (L 0) L)) = some (nI (sumS (twoS S a b (sq8 (cW S) c1) (sq8 (cW S) c)) (L 0) L), M2) := d1
      rw [ec] at d1
      have hv : sumS (twoS S a b (sq8 (cW S) c1) (sq8 (cW S) c)) (L 0) L ≤ 64 := sumS_le (twoS_SW hS (sq8_inP hw hS.1.2 hc1) hq) _ _
      obtain ⟨M3, f1, f2, f3⟩ := offer_spec (BO_fr b2 d2 (by decide)) (fw := false) (v := sumS (twoS S a b (sq8 (cW S) c1) (sq8 (cW S) c)) (L 0) L) (w := 64 * c1 + c) (by omega) (by omega)
      have hcand : cand2 S L a b (64 * c1 + c) = some (sumS (twoS S a b (sq8 (cW S) c1) (sq8 (cW S) c)) (L 0) L) := by
        unfold cand2
        rw [hco.1, hco.2, if_pos ⟨(hon.mp z).1, hc1, hc, hz, (hon.mp z).2⟩]
      refine ⟨(M3, c + 1), ⟨rfl, (hF.trans (d2.mono (by decide))).trans (f2.mono (by decide)), BS_fr d3 f2 (by decide), ?_⟩, fun k f => ?_⟩
      · show BO M3 (foldB false (cand2 S L a b) (64 * c1 + c + 1))
        rw [foldB_some hcand]; exact f3
      · show fX1_placeTwo_l97 a1 al k (f + 1) M1 (nI a) (nI b) (nI c1) _ (nI c) = _
        rw [fX1_placeTwo_l97.eq_2, esq, le_f hc (by omega), efr, bd_s, if_pos z, if_neg i10, d1, bd_s, nl64, pk_mul, nI_add]
        show (fX1_offer M2 _ (nI (64 * c1 + c)) (bI false)).bind _ = _
        rw [f1, bd_s, nI_1]
    · have hcand : cand2 S L a b (64 * c1 + c) = none := by
        unfold cand2
        rw [hco.1, hco.2, if_neg (fun q => z (hon.mpr ⟨q.1, q.2.2.2.2⟩))]
      refine ⟨(M1, c + 1), ⟨rfl, hF, b1, ?_⟩, fun k f => ?_⟩
      · show BO M1 (foldB false (cand2 S L a b) (64 * c1 + c + 1))
        rw [foldB_none hcand]; exact b2
      · show fX1_placeTwo_l97 a1 al k (f + 1) M1 (nI a) (nI b) (nI c1) _ (nI c) = _
        rw [fX1_placeTwo_l97.eq_2, esq, le_f hc (by omega), efr, bd_s, if_neg z, if_pos rfl, nI_1]
  · rintro ⟨M1, c2⟩ ⟨rfl, hF, b1, b2⟩
    refine ⟨M1, ⟨hF, b1, b2⟩, fun k f => ?_⟩
    have esq : fX0_squares M1 = nI (cW S * cH S) := squares_spec (S := setA (awS S a b) a (some (sq8 (cW S) c1))) b1.1
    show fX1_placeTwo_l97 a1 al k (f + 1) M1 (nI a) (nI b) (nI c1) _ (nI (cW S * cH S)) = _
    rw [fX1_placeTwo_l97.eq_2, esq, le_t (Nat.le_refl _) (by omega)]
theorem two_loop {M : MM} {S : SCN} {a1 al a b : Nat} {L : Nat → Nat} (hS : SW S) (hB : BS M (awS S a b) aT) (hD : DI (awS S a b)) (hL : CLw M al L) (ha : a < cN S) (hb : b < cN S) (hne : a ≠ b) (hbo : BO M none) : ∃ M2, (Fr cL M M2 ∧ BS M2 (awS S a b) aT ∧ BO M2 (foldB false (cand2 S L a b) (64 * (cW S * cH S)))) ∧ ∀ _k : Unit, fX1_placeTwo_l44 a1 al FU M (nI a) (nI b) (nI 0) = some M2 := by
  have h64 := wh_64 hS
  have hw : 0 < cW S := by have := hS.1.1; omega
  refine lpk (κ := Unit) (σ := MM × Nat) (fun _ f st => fX1_placeTwo_l44 a1 al f st.1 (nI a) (nI b) (nI st.2)) (fun _ M2 => some M2) (cW S * cH S)
    (fun c st => c = st.2 ∧ Fr cL M st.1 ∧ BS st.1 (awS S a b) aT ∧ BO st.1 (foldB false (cand2 S L a b) (64 * c))) _ ?_ ?_ FU 0 (M, 0) (by omega) (by show _ < 5000; omega) ⟨rfl, Fr.rfl, hB, hbo⟩
  · rintro c ⟨M1, c2⟩ hc ⟨rfl, hF, b1, b2⟩
    left
    simp only [] at hF b1 b2
    have hL1 : CLw M1 al L := CLw_fr hL hF (by decide)
    have hq : inP (cW S) (cH S) (sq8 (cW S) c) := sq8_inP hw hS.1.2 hc
    have ec : sqC (cW S) (sq8 (cW S) c) = c := sqC_sq8 hw hS.1.2
    have esq : fX0_squares M1 = nI (cW S * cH S) := squares_spec (S := awS S a b) b1.1
    have efr : fX0_isFree M1 (nI c) = some (if onS (awS S a b) (sq8 (cW S) c) = 0 then 1 else 0) := isFree_spec (S := awS S a b) b1.1 hc
    have haa : cAt (awS S a b) a = none := by
      unfold awS
      rw [setA_at, if_neg hne, setA_at, if_pos rfl]
    by_cases z : onS (awS S a b) (sq8 (cW S) c) = 0
    · obtain ⟨M2, d1, d2, d3⟩ := lay_put (p := a) b1 ha haa hq z
      have d1 : fX0_lay M1 (nI (sqC (cW S) (sq8 (cW S) c))) (nI (10 + a)) = some M2 := d1
      rw [ec] at d1
      obtain ⟨M3, f1, f2, -, f4⟩ := sum_cls d3 (CLw_fr hL1 d2 (by decide))
      have hD3 : DI (setA (awS S a b) a (some (sq8 (cW S) c))) := setA_DI hD (fun x e => by cases e; rw [setA_id haa]; exact z)
      obtain ⟨M4, ⟨g1, g2, g3⟩, g4⟩ := two_in (a1 := a1) hS f4 hD3 (CLw_fr (CLw_fr hL1 d2 (by decide)) f2 (by decide)) ha hb hne hc z (BO_fr (BO_fr b2 d2 (by decide)) f2 (by decide))
      obtain ⟨M5, k1, k2, k3⟩ := lay_away (p := a) (q := sq8 (cW S) c) g2 hD3 ha (by rw [setA_at, if_pos rfl])
      rw [setA_twice, setA_id haa] at k3
      have k1 : fX0_lay M4 (nI (sqC (cW S) (sq8 (cW S) c))) 0 = some M5 := k1
      rw [ec] at k1
      refine ⟨(M5, c + 1), ⟨rfl, (((hF.trans (d2.mono (by decide))).trans (f2.mono (by decide))).trans g1).trans (k2.mono (by decide)), k3, ?_⟩, fun _ f => ?_⟩
      · show BO M5 (foldB false (cand2 S L a b) (64 * (c + 1)))
        rw [foldB_skip (n := 64 * c + cW S * cH S) (64 * (c + 1)) (by omega) (fun k h1 h2 => by
          unfold cand2
          rw [if_neg (fun q => by have := q.2.2.1; omega)])]
        exact BO_fr g3 k2 (by decide)
      · show fX1_placeTwo_l44 a1 al (f + 1) M1 (nI a) (nI b) (nI c) = _
        rw [fX1_placeTwo_l44.eq_2, esq, le_f hc (by omega), efr, bd_s, if_pos z, if_neg i10, nl10, nI_add, d1, bd_s, f1, bd_s]
        refine (g4 _).trans ?_
        rw [k1, bd_s, nI_1]
    · refine ⟨(M1, c + 1), ⟨rfl, hF, b1, ?_⟩, fun _ f => ?_⟩
      · show BO M1 (foldB false (cand2 S L a b) (64 * (c + 1)))
        rw [foldB_skip (n := 64 * c) (64 * (c + 1)) (by omega) (fun k h1 h2 => by
          unfold cand2
          rw [if_neg (fun q => z (by have := q.2.2.2.1; rw [show k / 64 = c by omega] at this; exact this))])]
        exact b2
      · show fX1_placeTwo_l44 a1 al (f + 1) M1 (nI a) (nI b) (nI c) = _
        rw [fX1_placeTwo_l44.eq_2, esq, le_f hc (by omega), efr, bd_s, if_neg z, if_pos rfl, nI_1]
  · rintro ⟨M1, c2⟩ ⟨rfl, hF, b1, b2⟩
    refine ⟨M1, ⟨hF, b1, b2⟩, fun _ f => ?_⟩
    have esq : fX0_squares M1 = nI (cW S * cH S) := squares_spec (S := awS S a b) b1.1
    show fX1_placeTwo_l44 a1 al (f + 1) M1 (nI a) (nI b) (nI (cW S * cH S)) = _
    rw [fX1_placeTwo_l44.eq_2, esq, le_t (Nat.le_refl _) (by omega)]
theorem together_ref {M : MM} {o l0 a b : Nat} {P : PARD} {S : SCN} {L : Nat → Nat} (hM : MS M o P S) (hD : DI S) (hL : ML M l0 L (L 0)) (ha : a < cN S) (hb : b < cN S) (hne : a ≠ b) (hA : ∃ q, cAt S a = some q) (hBq : ∃ q, cAt S b = some q) (x5 : Int32) : ∃ M2, Fr rL M M2 ∧ ∀ k : MM → Int32 → Int32 → Int32 → Option (Int32 × MM), fX12_together_l60 k FU M (nI a) (nI b) x5 (opI (cAt S a)) (opI (cAt S b)) (-1) 0 (nI 0) = k M2 x5 (bW (foldB false (cand2 S L a b) 4096)) (nI (bV (foldB false (cand2 S L a b) 4096))) := by
  have hS := hM.2.2.2.2.1
  have hn8 := hS.2.2.1
  have h64 := wh_64 hS
  have hw : 0 < cW S := by have := hS.1.1; omega
  have key := lpk (κ := MM → Int32 → Int32 → Int32 → Option (Int32 × MM)) (σ := MM × Nat) (fun k f st => fX12_together_l60 k f st.1 (nI a) (nI b) x5 (opI (cAt S a)) (opI (cAt S b)) (bW (foldB false (cand2 S L a b) st.2)) (nI (bV (foldB false (cand2 S L a b) st.2))) (nI st.2)) (fun k M2 => k M2 x5 (bW (foldB false (cand2 S L a b) 4096)) (nI (bV (foldB false (cand2 S L a b) 4096)))) 4096
    (fun c st => c = st.2 ∧ Fr rL M st.1 ∧ (∃ oa ob, MS st.1 o P (setA (setA S a oa) b ob)) ∧ ML st.1 l0 L (L 0)) (fun M2 => Fr rL M M2) ?_ ?_ FU 0 (M, 0) (by omega) (by decide) ⟨rfl, Fr.rfl, ⟨cAt S a, cAt S b, by rw [setA_id (S := S) rfl, setA_id rfl]; exact hM⟩, hL⟩
  · obtain ⟨M2, h1, h2⟩ := key
    exact ⟨M2, h1, h2⟩
  · rintro c ⟨M1, c2⟩ hc ⟨rfl, hF, ⟨oa, ob, b1⟩, b2⟩
    left
    simp only [] at hF b1 b2
    have hM3 : MS (sI (sI M1 94 a (opI (cAt S a))) 94 b (opI (cAt S b))) o P S := by
      have h1 := MS_setA b1 (p := a) (c := cAt S a) (fun q e => hS.2.2.2.2.1 a q ha e)
      rw [setA_comm (p := b) (q := a) (fun z => hne z.symm), setA_twice] at h1
      have h2 := MS_setA h1 (p := b) (c := cAt S b) (fun q e => hS.2.2.2.2.1 b q hb e)
      rw [setA_twice, setA_id (S := S) (p := a) rfl, setA_id rfl] at h2
      exact h2
    have hF3 : Fr rL M1 (sI (sI M1 94 a (opI (cAt S a))) 94 b (opI (cAt S b))) := (Fr.rfl.pI (by decide)).pI (by decide)
    have hL3 : ML (sI (sI M1 94 a (opI (cAt S a))) 94 b (opI (cAt S b))) l0 L (L 0) := ML_gen b2 (by rw [gI_ne _ _ _ _ _ _ (by decide), gI_ne _ _ _ _ _ _ (by decide)]) (by rw [gI_ne _ _ _ _ _ _ (by decide), gI_ne _ _ _ _ _ _ (by decide)]) (fun k => by rw [gI_ne _ _ _ _ _ _ (by decide), gI_ne _ _ _ _ _ _ (by decide)])
    have ed : nI c / 64 = nI (c / 64) := pk_div (d := 64) (by omega) (by decide) (by decide)
    have er : nI c - nI c / 64 * 64 = nI (c % 64) := pk_rem (d := 64) (by omega) (by decide) (by decide)
    have l1 : c / 64 < 64 := by omega
    have l2 : c % 64 < 64 := by omega
    have skip : cand2 S L a b c = none → ∀ k f, fX12_together_l60 k f (sI (sI M1 94 a (opI (cAt S a))) 94 b (opI (cAt S b))) (nI a) (nI b) x5 (opI (cAt S a)) (opI (cAt S b)) (bW (foldB false (cand2 S L a b) c)) (nI (bV (foldB false (cand2 S L a b) c))) (nI (c + 1)) = fX12_together_l60 k f (sI (sI M1 94 a (opI (cAt S a))) 94 b (opI (cAt S b))) (nI a) (nI b) x5 (opI (cAt S a)) (opI (cAt S b)) (bW (foldB false (cand2 S L a b) (c + 1))) (nI (bV (foldB false (cand2 S L a b) (c + 1)))) (nI (c + 1)) := fun hn k f => by rw [foldB_none hn]
    have inv3 : (c + 1 = c + 1 ∧ Fr rL M (sI (sI M1 94 a (opI (cAt S a))) 94 b (opI (cAt S b))) ∧ (∃ oa ob, MS (sI (sI M1 94 a (opI (cAt S a))) 94 b (opI (cAt S b))) o P (setA (setA S a oa) b ob)) ∧ ML (sI (sI M1 94 a (opI (cAt S a))) 94 b (opI (cAt S b))) l0 L (L 0)) := ⟨rfl, hF.trans hF3, ⟨cAt S a, cAt S b, by rw [setA_id (S := S) rfl, setA_id rfl]; exact hM3⟩, hL3⟩
    have head : ∀ k f, fX12_together_l60 k (f + 1) M1 (nI a) (nI b) x5 (opI (cAt S a)) (opI (cAt S b)) (bW (foldB false (cand2 S L a b) c)) (nI (bV (foldB false (cand2 S L a b) c))) (nI c) = _ := fun k f => by
      rw [fX12_together_l60.eq_2, show (4096 : Int32) = nI 4096 from rfl, le_f hc (by decide), bnd_r, bnd_r, gd_inb (by omega) (by decide), ix_nI (by omega), bnd_r, gd_inb (by omega) (by decide), ix_nI (by omega), bnd_r, er, ed, nI_1]
    by_cases c1 : c / 64 = c % 64
    · have hn : cand2 S L a b c = none := by unfold cand2; rw [if_neg (fun q => q.1 c1)]
      refine ⟨(_, c + 1), inv3, fun k f => (head k f).trans ?_⟩
      rw [eqn_t c1]
      exact skip hn k f
    · rcases Nat.lt_or_ge (c / 64) (cW S * cH S) with q1 | q1
      · rcases Nat.lt_or_ge (c % 64) (cW S * cH S) with q2 | q2
        · have hq1 : inP (cW S) (cH S) (sq8 (cW S) (c / 64)) := sq8_inP hw hS.1.2 q1
          have hq2 : inP (cW S) (cH S) (sq8 (cW S) (c % 64)) := sq8_inP hw hS.1.2 q2
          have hk1 := inP_64 hS.2.1.2 hq1
          have hk2 := inP_64 hS.2.1.2 hq2
          have ff1 := freeFor2 (x := sq8 (cW S) (c / 64)) hn8 hD ha hb hne hA hBq
          have ff2 := freeFor2 (x := sq8 (cW S) (c % 64)) hn8 hD ha hb hne hA hBq
          have head2 : ∀ k f, fX12_together_l60 k (f + 1) M1 (nI a) (nI b) x5 (opI (cAt S a)) (opI (cAt S b)) (bW (foldB false (cand2 S L a b) c)) (nI (bV (foldB false (cand2 S L a b) c))) (nI c) = _ := fun k f => (head k f).trans (by rw [eqn_f c1 (by omega) (by omega), isSquare_yes hM3 q1, bd_s, if_neg i10, isSquare_yes hM3 q2, bd_s, if_neg i10, inside_spec hM3 l1, bd_s, isFreeFor_ref hM3 hk1 (by omega) (by omega), bd_s])
          by_cases z1 : onS (awS S a b) (sq8 (cW S) (c / 64)) = 0
          · have head3 : ∀ k f, fX12_together_l60 k (f + 1) M1 (nI a) (nI b) x5 (opI (cAt S a)) (opI (cAt S b)) (bW (foldB false (cand2 S L a b) c)) (nI (bV (foldB false (cand2 S L a b) c))) (nI c) = _ := fun k f => (head2 k f).trans (by rw [if_pos (ff1.mpr z1), if_neg i10, inside_spec hM3 l2, bd_s, isFreeFor_ref hM3 hk2 (by omega) (by omega), bd_s])
            by_cases z2 : onS (awS S a b) (sq8 (cW S) (c % 64)) = 0
            · have hcand : cand2 S L a b c = some (sumS (twoS S a b (sq8 (cW S) (c / 64)) (sq8 (cW S) (c % 64))) (L 0) L) := by unfold cand2; rw [if_pos ⟨c1, q1, q2, z1, z2⟩]
              have hM4 : MS (sI (sI (sI M1 94 a (opI (cAt S a))) 94 b (opI (cAt S b))) 94 a (nI (sq8 (cW S) (c / 64)))) o P (setA S a (some (sq8 (cW S) (c / 64)))) := MS_setA hM3 (p := a) (c := some (sq8 (cW S) (c / 64))) (fun q e => by cases e; exact hq1)
              have hM5 : MS (sI (sI (sI (sI M1 94 a (opI (cAt S a))) 94 b (opI (cAt S b))) 94 a (nI (sq8 (cW S) (c / 64)))) 94 b (nI (sq8 (cW S) (c % 64)))) o P (twoS S a b (sq8 (cW S) (c / 64)) (sq8 (cW S) (c % 64))) := MS_setA hM4 (p := b) (c := some (sq8 (cW S) (c % 64))) (fun q e => by cases e; exact hq2)
              have hL5 : ML (sI (sI (sI (sI M1 94 a (opI (cAt S a))) 94 b (opI (cAt S b))) 94 a (nI (sq8 (cW S) (c / 64)))) 94 b (nI (sq8 (cW S) (c % 64)))) l0 L (L 0) := ML_gen hL3 (by rw [gI_ne _ _ _ _ _ _ (by decide), gI_ne _ _ _ _ _ _ (by decide)]) (by rw [gI_ne _ _ _ _ _ _ (by decide), gI_ne _ _ _ _ _ _ (by decide)]) (fun k => by rw [gI_ne _ _ _ _ _ _ (by decide), gI_ne _ _ _ _ _ _ (by decide)])
              obtain ⟨M6, d1, d2, -, d4, d5⟩ := sum_ref hM5 hL5
              have hv : sumS (twoS S a b (sq8 (cW S) (c / 64)) (sq8 (cW S) (c % 64))) (L 0) L ≤ 64 := sumS_le hM5.2.2.2.2.1 _ _
              refine ⟨(M6, c + 1), ⟨rfl, (((hF.trans hF3).pI (by decide)).pI (by decide)).trans (d2.mono (by decide)), ⟨_, _, d4⟩, d5⟩, fun k f => (head3 k f).trans ?_⟩
              show _ = fX12_together_l60 k f M6 (nI a) (nI b) x5 (opI (cAt S a)) (opI (cAt S b)) (bW (foldB false (cand2 S L a b) (c + 1))) (nI (bV (foldB false (cand2 S L a b) (c + 1)))) (nI (c + 1))
              have ei : fX12_inside (sI (sI (sI M1 94 a (opI (cAt S a))) 94 b (opI (cAt S b))) 94 a (nI (sq8 (cW S) (c / 64)))) (nI (c % 64)) = some (nI (sq8 (cW S) (c % 64))) := inside_spec hM4 l2
              rw [if_pos (ff2.mpr z2), if_neg i10, bd_s, gd_inb (by omega) (by decide), bnd_r, ei, bd_s, gd_inb (by omega) (by decide), bnd_r, d1, bd_s, foldB_some hcand]
              unfold fX12_together_j206
              rw [nI_1]
              exact ref_max (foldB_b (cand2_le hS) (by omega)) (by omega) (fun u w => fX12_together_l60 k f M6 (nI a) (nI b) x5 (opI (cAt S a)) (opI (cAt S b)) u w (nI (c + 1)))
            · have hn : cand2 S L a b c = none := by unfold cand2; rw [if_neg (fun q => z2 q.2.2.2.2)]
              refine ⟨(_, c + 1), inv3, fun k f => (head3 k f).trans ?_⟩
              rw [if_neg (fun q => z2 (ff2.mp q)), if_pos rfl]
              exact skip hn k f
          · have hn : cand2 S L a b c = none := by unfold cand2; rw [if_neg (fun q => z1 q.2.2.2.1)]
            refine ⟨(_, c + 1), inv3, fun k f => (head2 k f).trans ?_⟩
            rw [if_neg (fun q => z1 (ff1.mp q)), if_pos rfl]
            exact skip hn k f
        · have hn : cand2 S L a b c = none := by unfold cand2; rw [if_neg (fun q => by have := q.2.2.1; omega)]
          refine ⟨(_, c + 1), inv3, fun k f => (head k f).trans ?_⟩
          rw [eqn_f c1 (by omega) (by omega), isSquare_yes hM3 q1, bd_s, if_neg i10, isSquare_no hM3 (Or.inr (nI_le q2 (by omega))), bd_s, if_pos rfl]
          exact skip hn k f
      · have hn : cand2 S L a b c = none := by unfold cand2; rw [if_neg (fun q => by have := q.2.1; omega)]
        refine ⟨(_, c + 1), inv3, fun k f => (head k f).trans ?_⟩
        rw [eqn_f c1 (by omega) (by omega), isSquare_no hM3 (Or.inr (nI_le q1 (by omega))), bd_s, if_pos rfl]
        exact skip hn k f
  · rintro ⟨M1, c2⟩ ⟨rfl, hF, b1, b2⟩
    refine ⟨M1, hF, fun k f => ?_⟩
    show fX12_together_l60 k (f + 1) M1 (nI a) (nI b) x5 _ _ _ _ (nI 4096) = _
    rw [fX12_together_l60.eq_2, if_pos (by decide)]
