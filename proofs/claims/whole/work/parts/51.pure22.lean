/-! the class -/
def candA (S : SCN) (L : Nat → Nat) (p c : Nat) : Option Nat := if c < cW S * cH S ∧ onS (setA S p none) (sq8 (cW S) c) = 0 then some (sumS (setA S p (some (sq8 (cW S) c))) (L 0) L) else none
theorem candA_le {S : SCN} (hS : SW S) {L : Nat → Nat} {p : Nat} : ∀ k v, candA S L p k = some v → v ≤ 64 := fun k v h => by
  unfold candA at h
  by_cases c : k < cW S * cH S ∧ onS (setA S p none) (sq8 (cW S) k) = 0
  · rw [if_pos c] at h
    cases h
    refine sumS_le (setA_SW hS (fun q z => ?_)) _ _
    cases z
    exact sq8_inP (by have := hS.1.1; omega) hS.1.2 c.1
  · rw [if_neg c] at h; cases h
theorem place_loop {M : MM} {S : SCN} {a1 a p : Nat} {fw : Bool} {L : Nat → Nat} (hB : BS M (setA S p none) aT) (hS0 : SW S) (hD : DI (setA S p none)) (hL : CLw M a L) (hp : p < cN S) (hb : BO M none) : ∃ M2, (Fr cL M M2 ∧ BS M2 (setA S p none) aT ∧ BO M2 (foldB fw (candA S L p) (cW S * cH S))) ∧ ∀ _k : Unit, fX1_placeOne_l39 a1 a FU M (nI p) (bI fw) (nI (sumS (setA S p none) (L 0) L)) (nI 0) = some M2 := by
  have hS := hB.1.1
  have h64 : cW S * cH S ≤ 64 := wh_64 hS0
  refine lpk (κ := Unit) (σ := MM × Nat) (fun _ f st => fX1_placeOne_l39 a1 a f st.1 (nI p) (bI fw) (nI (sumS (setA S p none) (L 0) L)) (nI st.2)) (fun _ M2 => some M2) (cW S * cH S)
    (fun c st => c = st.2 ∧ Fr cL M st.1 ∧ BS st.1 (setA S p none) aT ∧ BO st.1 (foldB fw (candA S L p) c)) _ ?_ ?_ FU 0 (M, 0) (by omega) (by show _ < 5000; omega) ⟨rfl, Fr.rfl, hB, hb⟩
  · rintro c ⟨M1, c2⟩ hc ⟨rfl, hF, b1, b2⟩
    left
    simp only [] at hF b1 b2
    have hL1 : CLw M1 a L := CLw_fr hL hF (by decide)
    have hq : inP (cW S) (cH S) (sq8 (cW S) c) := sq8_inP (by have := hS0.1.1; omega) hS0.1.2 hc
    have ec : sqC (cW S) (sq8 (cW S) c) = c := sqC_sq8 (by have := hS0.1.1; omega) hS0.1.2
    have esq : fX0_squares M1 = nI (cW S * cH S) := squares_spec (S := setA S p none) b1.1
    have efr : fX0_isFree M1 (nI c) = some (if onS (setA S p none) (sq8 (cW S) c) = 0 then 1 else 0) := isFree_spec (S := setA S p none) b1.1 hc
    by_cases z : onS (setA S p none) (sq8 (cW S) c) = 0
    · obtain ⟨M2, d1, d2, d3⟩ := sumWith_spec (p := p) b1 hD hL1 hp (by rw [setA_at, if_pos rfl]) hq z
      rw [setA_twice] at d1
      have d1 : fX1_sumWith M1 (nI p) (nI (sqC (cW S) (sq8 (cW S) c))) a (nI (sumS (setA S p none) (L 0) L)) = some (nI (sumS (setA S p (some (sq8 (cW S) c))) (L 0) L), M2) := d1
      rw [ec] at d1
      have hv : sumS (setA S p (some (sq8 (cW S) c))) (L 0) L ≤ 64 := sumS_le (setA_SW hS0 (fun q e => by cases e; exact hq)) _ _
      obtain ⟨M3, f1, f2, f3⟩ := offer_spec (BO_fr b2 d2 (by decide)) (fw := fw) (v := sumS (setA S p (some (sq8 (cW S) c))) (L 0) L) (w := c) (by omega) (by omega)
      have hcand : candA S L p c = some (sumS (setA S p (some (sq8 (cW S) c))) (L 0) L) := by unfold candA; rw [if_pos ⟨hc, z⟩]
      refine ⟨(M3, c + 1), ⟨rfl, (hF.trans (d2.mono (by decide))).trans (f2.mono (by decide)), BS_fr d3 f2 (by decide), by rw [foldB_some hcand]; exact f3⟩, fun _ f => ?_⟩
      show fX1_placeOne_l39 a1 a (f + 1) M1 (nI p) (bI fw) _ (nI c) = _
      rw [fX1_placeOne_l39.eq_2, esq, le_f hc (by omega), efr, bd_s, if_pos z, if_neg i10, d1, bd_s]
      show (fX1_offer M2 _ (nI c) (bI fw)).bind _ = _
      rw [f1, bd_s, nI_1]
    · have hcand : candA S L p c = none := by unfold candA; rw [if_neg (fun q => z q.2)]
      refine ⟨(M1, c + 1), ⟨rfl, hF, b1, by rw [foldB_none hcand]; exact b2⟩, fun _ f => ?_⟩
      show fX1_placeOne_l39 a1 a (f + 1) M1 (nI p) (bI fw) _ (nI c) = _
      rw [fX1_placeOne_l39.eq_2, esq, le_f hc (by omega), efr, bd_s, if_neg z, if_pos rfl, nI_1]
  · rintro ⟨M1, c2⟩ ⟨rfl, hF, b1, b2⟩
    refine ⟨M1, ⟨hF, b1, b2⟩, fun _ f => ?_⟩
    have esq : fX0_squares M1 = nI (cW S * cH S) := squares_spec (S := setA S p none) b1.1
    show fX1_placeOne_l39 a1 a (f + 1) M1 (nI p) (bI fw) _ (nI (cW S * cH S)) = _
    rw [fX1_placeOne_l39.eq_2, esq, le_t (Nat.le_refl _) (by omega)]
/-! the reference -/
theorem isFreeFor_ref {M : MM} {o : Nat} {P : PARD} {S : SCN} (hM : MS M o P S) {q a b : Nat} (hq : q < 64) (ha : a < 8) (hb : b < 8) : fX12_isFreeFor M (nI q) (nI a) (nI b) = some (if onS S q = 0 ∨ onS S q = 10 + a ∨ onS S q = 10 + b then 1 else 0) := by
  have ho := onS_lt hM.2.2.2.2.1 q
  unfold fX12_isFreeFor
  rw [on_spec hM hq, bd_s, bd_s, bd_s, nl0, nl10, nI_add, nI_add]
  by_cases c0 : onS S q = 0
  · rw [eqn_t c0, if_pos (Or.inl c0)]
  · rw [eqn_f c0 (by omega) (by decide)]
    by_cases c1 : onS S q = 10 + a
    · rw [eqn_t c1, if_pos (Or.inr (Or.inl c1))]
    · rw [eqn_f c1 (by omega) (by omega)]
      by_cases c2 : onS S q = 10 + b
      · rw [eqn_t c2, if_pos (Or.inr (Or.inr c2))]
      · rw [eqn_f c2 (by omega) (by omega), if_neg (fun z => by omega)]
/-- the reference's comparison with the best so far -/
theorem ref_off {b : BST} (hb : ∀ x, b = some x → x.1 < 5000 ∧ x.2 < 5000) {fw : Bool} {v w : Nat} (hv : v < 5000) {R : Type} (K : Int32 → Int32 → R) : (if bW b = -1 then K (nI w) (nI v) else if bI fw = 0 then (if nI (bV b) < nI v then K (nI w) (nI v) else K (bW b) (nI (bV b))) else (if nI v < nI (bV b) then K (nI w) (nI v) else K (bW b) (nI (bV b)))) = K (bW (offB fw b v w)) (nI (bV (offB fw b v w))) := by
  cases b with
  | none => rw [if_pos (show bW none = -1 from rfl)]; rfl
  | some x =>
    obtain ⟨h1, h2⟩ := hb x rfl
    rw [show bW (some x) = nI x.1 from rfl, show bV (some x) = x.2 from rfl, m1_iff (by omega)]
    unfold offB
    simp only []
    cases fw with
    | true =>
      rw [bI_t, if_neg i10, if_pos rfl]
      by_cases c : v < x.2
      · rw [lt_t c (by omega), if_pos (decide_eq_true c)]; rfl
      · rw [lt_f (by omega) (by omega), if_neg (by rw [decide_eq_false c]; decide)]; rfl
    | false =>
      rw [bI_f, if_pos rfl, if_neg (show ¬ false = true by decide)]
      by_cases c : x.2 < v
      · rw [lt_t c (by omega), if_pos (decide_eq_true c)]; rfl
      · rw [lt_f (by omega) (by omega), if_neg (by rw [decide_eq_false c]; decide)]; rfl
theorem ref_max {b : BST} (hb : ∀ x, b = some x → x.1 < 5000 ∧ x.2 < 5000) {v w : Nat} (hv : v < 5000) {R : Type} (K : Int32 → Int32 → R) : (if bW b = -1 then K (nI w) (nI v) else (if nI (bV b) < nI v then K (nI w) (nI v) else K (bW b) (nI (bV b)))) = K (bW (offB false b v w)) (nI (bV (offB false b v w))) := by
  rw [← ref_off hb (fw := false) hv K, bI_f, if_pos rfl]
theorem ref_min {b : BST} (hb : ∀ x, b = some x → x.1 < 5000 ∧ x.2 < 5000) {v w : Nat} (hv : v < 5000) {R : Type} (K : Int32 → Int32 → R) : (if bW b = -1 then K (nI w) (nI v) else (if nI v < nI (bV b) then K (nI w) (nI v) else K (bW b) (nI (bV b)))) = K (bW (offB true b v w)) (nI (bV (offB true b v w))) := by
  rw [← ref_off hb (fw := true) hv K, bI_t, if_neg i10]
theorem foldB_b {fw : Bool} {cand : Nat → Option Nat} (hB : ∀ k v, cand k = some v → v ≤ 64) {n : Nat} (hn : n < 5000) : ∀ x, foldB fw cand n = some x → x.1 < 5000 ∧ x.2 < 5000 := fun x h => by
  have := foldB_lt hB n x h
  omega
theorem stand_ref {M : MM} {o l0 p : Nat} {P : PARD} {S : SCN} {fw : Bool} {L : Nat → Nat} (hM : MS M o P S) (hD : DI S) (hL : ML M l0 L (L 0)) (hp : p < cN S) (hA : ∃ q, cAt S p = some q) (x5 : Int32) : ∃ M2, Fr rL M M2 ∧ ∀ k : MM → Int32 → Int32 → Int32 → Option (Int32 × MM), fX12_stand_l36 k FU M (nI p) (bI fw) x5 (opI (cAt S p)) (-1) 0 (nI 0) = k M2 x5 (bW (foldB fw (candA S L p) (cW S * cH S))) (nI (bV (foldB fw (candA S L p) (cW S * cH S)))) := by
  have hS := hM.2.2.2.2.1
  have hn8 := hS.2.2.1
  have h64 := wh_64 hS
  obtain ⟨q0, hq0⟩ := id hA
  have hin0 := hS.2.2.2.2.1 p q0 hp hq0
  have key := lpk (κ := MM → Int32 → Int32 → Int32 → Option (Int32 × MM)) (σ := MM × Nat) (fun k f st => fX12_stand_l36 k f st.1 (nI p) (bI fw) x5 (opI (cAt S p)) (bW (foldB fw (candA S L p) st.2)) (nI (bV (foldB fw (candA S L p) st.2))) (nI st.2)) (fun k M2 => k M2 x5 (bW (foldB fw (candA S L p) (cW S * cH S))) (nI (bV (foldB fw (candA S L p) (cW S * cH S))))) (cW S * cH S)
    (fun c st => c = st.2 ∧ Fr rL M st.1 ∧ (∃ oo, MS st.1 o P (setA S p oo)) ∧ ML st.1 l0 L (L 0)) (fun M2 => Fr rL M M2) ?_ ?_ FU 0 (M, 0) (by omega) (by show _ < 5000; omega) ⟨rfl, Fr.rfl, ⟨cAt S p, by rw [setA_id rfl]; exact hM⟩, hL⟩
  · obtain ⟨M2, h1, h2⟩ := key
    exact ⟨M2, h1, h2⟩
  · rintro c ⟨M1, c2⟩ hc ⟨rfl, hF, ⟨oo, b1⟩, b2⟩
    left
    simp only [] at hF b1 b2
    have hq : inP (cW S) (cH S) (sq8 (cW S) c) := sq8_inP (by have := hS.1.1; omega) hS.1.2 hc
    have hq64 := inP_64 hS.2.1.2 hq
    have hM3 : MS (sI M1 94 p (opI (cAt S p))) o P S := by
      have := MS_setA b1 (p := p) (c := cAt S p) (fun q e => hS.2.2.2.2.1 p q hp e)
      rw [setA_twice, setA_id rfl] at this
      exact this
    have hF3 : Fr rL M1 (sI M1 94 p (opI (cAt S p))) := Fr.rfl.pI (by decide)
    have hL3 : ML (sI M1 94 p (opI (cAt S p))) l0 L (L 0) := ML_gen b2 (gI_ne _ _ _ _ _ _ (by decide)) (gI_ne _ _ _ _ _ _ (by decide)) (fun k => gI_ne _ _ _ _ _ _ (by decide))
    have hff : (onS S (sq8 (cW S) c) = 0 ∨ onS S (sq8 (cW S) c) = 10 + p ∨ onS S (sq8 (cW S) c) = 10 + p) ↔ onS (setA S p none) (sq8 (cW S) c) = 0 := by
      rw [or_self]
      exact freeFor hn8 hD hp hA
    have esq : fX12_isSquare M1 (nI c) = some 1 := isSquare_yes b1 hc
    by_cases z : onS (setA S p none) (sq8 (cW S) c) = 0
    · have hcand : candA S L p c = some (sumS (setA S p (some (sq8 (cW S) c))) (L 0) L) := by unfold candA; rw [if_pos ⟨hc, z⟩]
      have hM4 : MS (sI (sI M1 94 p (opI (cAt S p))) 94 p (nI (sq8 (cW S) c))) o P (setA S p (some (sq8 (cW S) c))) := MS_setA hM3 (p := p) (c := some (sq8 (cW S) c)) (fun q e => by cases e; exact hq)
      have hL4 : ML (sI (sI M1 94 p (opI (cAt S p))) 94 p (nI (sq8 (cW S) c))) l0 L (L 0) := ML_gen hL3 (gI_ne _ _ _ _ _ _ (by decide)) (gI_ne _ _ _ _ _ _ (by decide)) (fun k => gI_ne _ _ _ _ _ _ (by decide))
      obtain ⟨M5, d1, d2, -, d4, d5⟩ := sum_ref hM4 hL4
      have hv : sumS (setA S p (some (sq8 (cW S) c))) (L 0) L ≤ 64 := sumS_le hM4.2.2.2.2.1 _ _
      refine ⟨(M5, c + 1), ⟨rfl, ((hF.trans hF3).pI (by decide)).trans (d2.mono (by decide)), ⟨_, d4⟩, d5⟩, fun k f => ?_⟩
      show fX12_stand_l36 k (f + 1) M1 (nI p) (bI fw) x5 (opI (cAt S p)) (bW (foldB fw (candA S L p) c)) (nI (bV (foldB fw (candA S L p) c))) (nI c) = fX12_stand_l36 k f M5 (nI p) (bI fw) x5 (opI (cAt S p)) (bW (foldB fw (candA S L p) (c + 1))) (nI (bV (foldB fw (candA S L p) (c + 1)))) (nI (c + 1))
      rw [fX12_stand_l36.eq_2, esq, bd_s, if_neg i10, gd_inb (by omega) (by decide), ix_nI (by omega), bnd_r, inside_spec hM3 (by omega), bd_s, isFreeFor_ref hM3 hq64 (by omega) (by omega), bd_s, if_pos (hff.mpr z), if_neg i10, bd_s, gd_inb (by omega) (by decide), bnd_r, d1, bd_s, foldB_some hcand]
      unfold fX12_stand_j120
      rw [nI_1]
      exact ref_off (foldB_b (candA_le hS) (by omega)) (by omega) (fun u w => fX12_stand_l36 k f M5 (nI p) (bI fw) x5 (opI (cAt S p)) u w (nI (c + 1)))
    · have hcand : candA S L p c = none := by unfold candA; rw [if_neg (fun q => z q.2)]
      refine ⟨(sI M1 94 p (opI (cAt S p)), c + 1), ⟨rfl, hF.trans hF3, ⟨cAt S p, by rw [setA_id rfl]; exact hM3⟩, hL3⟩, fun k f => ?_⟩
      show fX12_stand_l36 k (f + 1) M1 (nI p) (bI fw) x5 (opI (cAt S p)) (bW (foldB fw (candA S L p) c)) (nI (bV (foldB fw (candA S L p) c))) (nI c) = fX12_stand_l36 k f (sI M1 94 p (opI (cAt S p))) (nI p) (bI fw) x5 (opI (cAt S p)) (bW (foldB fw (candA S L p) (c + 1))) (nI (bV (foldB fw (candA S L p) (c + 1)))) (nI (c + 1))
      rw [fX12_stand_l36.eq_2, esq, bd_s, if_neg i10, gd_inb (by omega) (by decide), ix_nI (by omega), bnd_r, inside_spec hM3 (by omega), bd_s, isFreeFor_ref hM3 hq64 (by omega) (by omega), bd_s, if_neg (fun q => z (hff.mp q)), if_pos rfl, foldB_none hcand, nI_1]
  · rintro ⟨M1, c2⟩ ⟨rfl, hF, ⟨oo, b1⟩, b2⟩
    simp only [] at b1
    refine ⟨M1, hF, fun k f => ?_⟩
    have esq : fX12_isSquare M1 (nI (cW S * cH S)) = some 0 := isSquare_no b1 (Or.inr (nI_le (Nat.le_refl _) (by show cW S * cH S < 2 ^ 31; omega)))
    show fX12_stand_l36 k (f + 1) M1 (nI p) (bI fw) x5 (opI (cAt S p)) _ _ (nI (cW S * cH S)) = _
    rw [fX12_stand_l36.eq_2, esq, bd_s, if_pos rfl]
theorem bool_bI {x : Int32} (h : x = 0 ∨ x = 1) : ∃ b : Bool, x = bI b := by
  rcases h with h | h
  · exact ⟨false, h⟩
  · exact ⟨true, h⟩
theorem BS_BN {M : MM} {S : SCN} {K : Nat → Bool} (h : BS M S K) : BN M := NX_BN h.1.1.1 h.1.1.2.1 h.1.2.1
theorem e14 : E14 Inv := by
  intro K M x1 x2 x3 x4 x5 hx4 hx5 hI
  obtain ⟨fw, rfl⟩ := bool_bI hx4
  refine pl_case (v := -1) hI (C := fX11_stand M x1 x2 x3 (bI fw) x5) (R := fun M1 => fX12_stand M1 x1 x2 x3 (bI fw) x5) rfl (fun _ => rfl) ?_
  intro T j l hW hC hM hB hj hl e1 e2
  have hP := hW.2.2.2.1 j hj
  have hn8 := hP.2.2.1
  have hcp := hC.2.2.2.2.2.1 j hj
  have c3 := hcp.2.2.1
  rcases rng x3 (n := pN (tPar T j)) (by omega) with h | ⟨p, hp, rfl⟩
  · refine ⟨-1, M, by rw [hasPerson_no c3 h, if_pos rfl], Fr.rfl, hB, fun M3 _ hS _ => ⟨M3, ?_, Fr.rfl⟩⟩
    rw [isPerson_no hS h, bd_s, if_pos rfl]
  · have h2 := num_lt hW (s := 0) (by decide)
    obtain ⟨M1, a1, a2, a3, a4, -⟩ := par_beg hW hC hB hj
    obtain ⟨M2, b1, b2, b3⟩ := choice_beg (M := M1)
    have hF2 : Fr cL M M2 := a2.trans (b2.mono (by decide))
    have e62 : gI M2 (1 + (6 + 16 * j) + 1) p = nI (sqC (pW (tPar T j)) (pAt (tPar T j) p)) := by
      rw [hF2.gi (by simp; omega)]
      exact (hcp.2.2.2.2.1 p hp).1
    obtain ⟨M3, d1, d2, d3⟩ := lay_away (p := p) (q := pAt (tPar T j) p) (BS_fr a3 b2 (by decide)) (scn_DI hP) hp rfl
    have hF3 : Fr cL M M3 := hF2.trans (d2.mono (by decide))
    have hL3 := CLw_fr (told_law hC hW hl) hF3 (by decide)
    obtain ⟨M4, f1, f2, -, f4⟩ := sum_cls d3 hL3
    have hD4 : DI (setA (scnOf (tPar T j)) p none) := setA_DI (scn_DI hP) (fun q z => by cases z)
    obtain ⟨M5, ⟨g1, g2, g3⟩, g4⟩ := place_loop (S := scnOf (tPar T j)) (a1 := 1 + (6 + 16 * j)) (fw := fw) f4 (scn_SW hP) hD4 (CLw_fr hL3 f2 (by decide)) hp (BO_fr (BO_fr b3 d2 (by decide)) f2 (by decide))
    have cls : fX1_placeOne M (1 + (6 + 16 * j)) (1 + (15 + 16 * l)) (nI p) (bI fw) = some M5 := by
      unfold fX1_placeOne
      rw [a1, bd_s, b1, bd_s, gd_inb (by omega) (by decide), ix_nI (by omega), e62]
      have d1' : fX0_lay M2 (nI (sqC (pW (tPar T j)) (pAt (tPar T j) p))) 0 = some M3 := d1
      rw [d1', bd_s, f1, bd_s]
      exact g4 ()
    rw [hasPerson_yes c3 (by omega) hp, if_neg i10, cls, bd_s, g3.1, g3.2.1]
    have ref : ∀ M3, MS M3 (610 + 124 * j) (tPar T j) (scnOf (tPar T j)) → ML M3 (858 + 6 * l) (tLaw T l) (tLaw T l 0) → ∃ M4, Fr rL M3 M4 ∧ ∀ k : MM → Int32 → Int32 → Int32 → Option (Int32 × MM), fX12_stand_l36 k FU M3 (nI p) (bI fw) x5 (opI (some (pAt (tPar T j) p))) (-1) 0 (nI 0) = k M4 x5 (bW (foldB fw (candA (scnOf (tPar T j)) (tLaw T l) p) (pW (tPar T j) * pH (tPar T j)))) (nI (bV (foldB fw (candA (scnOf (tPar T j)) (tLaw T l) p) (pW (tPar T j) * pH (tPar T j))))) := fun M3 hS hL => stand_ref hS (scn_DI hP) hL hp ⟨_, rfl⟩ x5
    have hFF : Fr cL M M5 := (hF3.trans (f2.mono (by decide))).trans g1
    have head : ∀ M3, MS M3 (610 + 124 * j) (tPar T j) (scnOf (tPar T j)) → ML M3 (858 + 6 * l) (tLaw T l) (tLaw T l 0) → ∃ M4, Fr rL M3 M4 ∧ ((fX12_isPerson M3 (nI p)).bind fun p4 => if p4 = 0 then some (-1, M3) else gd (inb (nI p) 8) (bnd (gI M3 94 (ix (nI p))) fun v8 => fX12_stand_l36 (fun M83 y84 y85 y86 => if y84 = 0 then some (y85, M83) else some (y86, M83)) FU M3 (nI p) (bI fw) x5 v8 (-1) 0 0)) = if x5 = 0 then some (bW (foldB fw (candA (scnOf (tPar T j)) (tLaw T l) p) (pW (tPar T j) * pH (tPar T j))), M4) else some (nI (bV (foldB fw (candA (scnOf (tPar T j)) (tLaw T l) p) (pW (tPar T j) * pH (tPar T j)))), M4) := fun M3 hS hL => by
      obtain ⟨M4, r1, r2⟩ := ref M3 hS hL
      refine ⟨M4, r1, ?_⟩
      rw [isPerson_yes hS hp, bd_s, if_neg i10, gd_inb (by omega) (by decide), ix_nI (by omega), bnd_r, (hS.2.2.2.2.2.2.2.2.2.1 p hp).1]
      exact r2 _
    by_cases h5 : x5 = 0
    · refine ⟨_, M5, by rw [if_pos h5], hFF, BS_BN g2, fun M3 _ hS hL => ?_⟩
      obtain ⟨M4, r1, r2⟩ := head M3 hS hL
      exact ⟨M4, by rw [if_pos h5] at r2; exact r2, r1⟩
    · refine ⟨_, M5, by rw [if_neg h5], hFF, BS_BN g2, fun M3 _ hS hL => ?_⟩
      obtain ⟨M4, r1, r2⟩ := head M3 hS hL
      exact ⟨M4, by rw [if_neg h5] at r2; exact r2, r1⟩
