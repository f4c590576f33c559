/-! ===== an evening of the reference ===== -/
def PM (M : MM) (o : Nat) (P : PARD) (l0 : Nat) (L : Nat → Nat) (X : PLS) : Prop := MS M o P X.1 ∧ ML M l0 L (L 0) ∧ gI M 90 33 = nI X.2.1 ∧ (∀ p, p < 8 → gI M 107 p = nI (X.2.2.1 p)) ∧ ∀ s, s < 8 → gI M 108 s = nI (X.2.2.2 s)
/-- of the reference's own fields all but one stay -/
def N90 (M M2 : MM) (n : Nat) : Prop := ∀ k, k ≠ n → gI M2 90 k = gI M 90 k
theorem tax_ref {M : MM} {o l0 s : Nat} {P : PARD} {S : SCN} {L : Nat → Nat} {bs : Nat → Nat} (hM : MS M o P S) (hL : ML M l0 L (L 0)) (hO : LO M S) (hs : s < cS S) (hT : ∀ p, p < 8 → gI M 107 p = nI (bs p)) : ∃ M2, (Fr [107] M M2 ∧ ∀ p, p < 8 → gI M2 107 p = nI (bs p + txS S L p s)) ∧ ∀ k : MM → Int32 → Option MM, fX12_counts_l40 k FU M (nI s) (nI 0) = k M2 (nI s) := by
  have hS := hM.2.2.2.2.1
  have h8 := hS.2.2.2.1
  have hn8 := hS.2.2.1
  have hl := hL.2.1
  refine lpk (κ := MM → Int32 → Option MM) (σ := MM × Nat) (fun k f st => fX12_counts_l40 k f st.1 (nI s) (nI st.2)) (fun k M2 => k M2 (nI s)) (cN S)
    (fun i st => i = st.2 ∧ Fr [107] M st.1 ∧ ∀ p, p < 8 → gI st.1 107 p = nI (bs p + if p < i then txS S L p s else 0)) _ ?_ ?_ FU 0 (M, 0) (by omega) (by show _ < 5000; omega) ⟨rfl, Fr.rfl, fun p hp => by rw [if_neg (Nat.not_lt_zero p)]; exact hT p hp⟩
  · rintro i ⟨M1, j⟩ hi ⟨rfl, hF, a1⟩
    left
    simp only [] at hF a1
    have hM1 : MS M1 o P S := MS_fr hM hF (by decide)
    have hL1 : ML M1 l0 L (L 0) := ML_fr hL hF (by decide) (by decide)
    have hO1 : LO M1 S := LO_fr hO hF (by decide) (by decide)
    refine ⟨(sI M1 107 i (gI M1 107 i + nI (txS S L i s)), i + 1), ⟨rfl, hF.pI (by decide), fun p hp => ?_⟩, fun k f => ?_⟩
    · show gI (sI M1 107 i (gI M1 107 i + nI (txS S L i s))) 107 p = _
      by_cases e : p = i
      · subst e
        rw [gI_eq, a1 p hp, if_neg (by omega), if_pos (by omega), nI_add]
        rfl
      · rw [gI_nk _ _ _ _ _ _ e, a1 p hp]
        by_cases d : p < i
        · rw [if_pos d, if_pos (by omega)]
        · rw [if_neg d, if_neg (by omega)]
    · show fX12_counts_l40 k (f + 1) M1 (nI s) (nI i) = fX12_counts_l40 k f (sI M1 107 i (gI M1 107 i + nI (txS S L i s))) (nI s) (nI (i + 1))
      rw [fX12_counts_l40.eq_2, hM1.2.2.2.2.2.2.2.1, le_f hi (by omega), gd_inb (by omega) (by decide), soup_ref hM1 hL1 hs, bd_s]
      unfold fX12_counts_j86 fX12_counts_j87 txS
      cases hsp : soupS S L s with
      | true =>
        rw [bI_t, if_neg i10, gd_inb (by omega) (by decide), ix_nI (by omega), bnd_r, if_pos rfl, nI_1]
        rfl
      | false =>
        rw [bI_f, if_pos rfl, near_ref hS hO1 hL1 hs (by omega), bd_s, if_neg (show ¬ false = true by decide)]
        cases hb : nearB S (L 0) s i with
        | false =>
          rw [bI_f, if_pos rfl, gd_inb (by omega) (by decide), ix_nI (by omega), bnd_r, if_neg (show ¬ false = true by decide), nI_1]
          rfl
        | true =>
          rw [bI_t, if_neg i10, if_pos rfl]
          simp (disch := omega) only [hL1.1, nl5, nI_add, gd_inb, ix_nI, bnd_r]
          rw [hL1.2.2.1 5 (by decide), nI_1]
  · rintro ⟨M1, j⟩ ⟨rfl, hF, a1⟩
    simp only [] at hF a1
    refine ⟨M1, ⟨hF, fun p hp => ?_⟩, fun k f => ?_⟩
    · rw [a1 p hp]
      by_cases d : p < cN S
      · rw [if_pos d]
      · have e : txS S L p s = 0 := by
          unfold txS
          split
          · rfl
          · rw [if_neg (show ¬ nearB S (L 0) s p = true from fun z => d (near_bit hS z))]
        rw [if_neg d, e]
    · show fX12_counts_l40 k (f + 1) M1 (nI s) (nI (cN S)) = _
      rw [fX12_counts_l40.eq_2, (MS_fr hM hF (by decide)).2.2.2.2.2.2.2.1, le_t (Nat.le_refl _) (by omega)]
theorem counts_ref {M : MM} {o l0 : Nat} {P : PARD} {L : Nat → Nat} {X : PLS} (h : PM M o P l0 L X) : ∃ M2, fX12_counts M = some M2 ∧ Fr [90, 102, 103, 107, 108] M M2 ∧ N90 M M2 33 ∧ PM M2 o P l0 L (cntS L X) := by
  obtain ⟨hM, hL, h33, h107, h108⟩ := h
  have hS := hM.2.2.2.2.1
  have h8 := hS.2.2.2.1
  obtain ⟨M1, a1, a2, a3, a4⟩ := laysOut_spec hM
  have f1 : Fr [90] M1 (sI M1 90 33 (gI M1 90 33 + 1)) := Fr.rfl.pI (by decide)
  have hM2 : MS (sI M1 90 33 (gI M1 90 33 + 1)) o P X.1 := MS_gen a4 (fun k hk => gI_nk _ _ _ _ _ _ (by omega)) (fun c k hc => gI_ne _ _ _ _ _ _ (by omega))
  have hL2 : ML (sI M1 90 33 (gI M1 90 33 + 1)) l0 L (L 0) := ML_gen (ML_fr hL a2 (by decide) (by decide)) (gI_nk _ _ _ _ _ _ (by decide)) (gI_nk _ _ _ _ _ _ (by decide)) (fun k => gI_ne _ _ _ _ _ _ (by decide))
  have hO2 : LO (sI M1 90 33 (gI M1 90 33 + 1)) X.1 := LO_fr a3 f1 (by decide) (by decide)
  have key := lpk (κ := Unit) (σ := MM × Nat) (fun _ f st => fX12_counts_l16 f st.1 (nI st.2)) (fun _ M3 => some M3) (cS X.1)
    (fun s st => s = st.2 ∧ Fr [107, 108] (sI M1 90 33 (gI M1 90 33 + 1)) st.1 ∧ (∀ p, p < 8 → gI st.1 107 p = nI (X.2.2.1 p + sumN (txS X.1 L p) s)) ∧ ∀ t, t < 8 → gI st.1 108 t = nI (X.2.2.2 t + if t < s then countS X.1 (L 0) L t else 0))
    (fun M3 => Fr [107, 108] (sI M1 90 33 (gI M1 90 33 + 1)) M3 ∧ (∀ p, p < 8 → gI M3 107 p = nI (X.2.2.1 p + sumN (txS X.1 L p) (cS X.1))) ∧ ∀ t, t < 8 → gI M3 108 t = nI (X.2.2.2 t + if t < cS X.1 then countS X.1 (L 0) L t else 0)) ?_ ?_ FU 0 (sI M1 90 33 (gI M1 90 33 + 1), 0) (by omega) (by show _ < 5000; omega) ⟨rfl, Fr.rfl, fun p hp => ?_, fun t ht => ?_⟩
  · obtain ⟨M3, ⟨b1, b2, b3⟩, b4⟩ := key
    have hF : Fr [90, 102, 103, 107, 108] M M3 := ((a2.mono (by decide)).trans (f1.mono (by decide))).trans (b1.mono (by decide))
    refine ⟨M3, ?_, hF, fun k hk => ?_, MS_fr hM2 b1 (by decide), ML_fr hL2 b1 (by decide) (by decide), ?_, b2, b3⟩
    · unfold fX12_counts
      rw [a1, bd_s, bnd_r]
      exact b4 ()
    · rw [b1.gi (by decide), gI_nk _ _ _ _ _ _ hk, a2.gi (by decide)]
    · show gI M3 90 33 = nI (X.2.1 + 1)
      rw [b1.gi (by decide), gI_eq, a2.gi (by decide), h33, nI_1]
  · rintro s ⟨M3, s2⟩ hs ⟨rfl, hF, b1, b2⟩
    left
    simp only [] at hF b1 b2
    have hM3 : MS M3 o P X.1 := MS_fr hM2 hF (by decide)
    have hL3 : ML M3 l0 L (L 0) := ML_fr hL2 hF (by decide) (by decide)
    have hO3 : LO M3 X.1 := LO_fr hO2 hF (by decide) (by decide)
    have f4 : Fr [108] M3 (sI M3 108 s (gI M3 108 s + nI (countS X.1 (L 0) L s))) := Fr.rfl.pI (by decide)
    have b3 : ∀ t, t < 8 → gI (sI M3 108 s (gI M3 108 s + nI (countS X.1 (L 0) L s))) 108 t = nI (X.2.2.2 t + if t < s + 1 then countS X.1 (L 0) L t else 0) := fun t ht => by
      by_cases e : t = s
      · subst e
        rw [gI_eq, b2 t ht, if_neg (by omega), if_pos (by omega), nI_add]
        rfl
      · rw [gI_nk _ _ _ _ _ _ e, b2 t ht]
        by_cases d : t < s
        · rw [if_pos d, if_pos (by omega)]
        · rw [if_neg d, if_neg (by omega)]
    obtain ⟨M5, ⟨d1, d2⟩, d3⟩ := tax_ref (bs := fun p => X.2.2.1 p + sumN (txS X.1 L p) s) (MS_fr hM3 f4 (by decide)) (ML_fr hL3 f4 (by decide) (by decide)) (LO_fr hO3 f4 (by decide) (by decide)) hs (fun p hp => by rw [f4.gi (by decide)]; exact b1 p hp)
    refine ⟨(M5, s + 1), ⟨rfl, (hF.pI (by decide)).trans (d1.mono (by decide)), fun p hp => ?_, fun t ht => ?_⟩, fun _ f => ?_⟩
    · show gI M5 107 p = _
      rw [d2 p hp, sumN, ← Nat.add_assoc]
    · show gI M5 108 t = _
      rw [d1.gi (by decide)]; exact b3 t ht
    · show fX12_counts_l16 (f + 1) M3 (nI s) = _
      rw [fX12_counts_l16.eq_2, hM3.2.2.2.2.2.2.2.2.1, le_f hs (by omega), gd_inb (by omega) (by decide), count_ref hM3 hO3 hL3 hs, bd_s, gd_inb (by omega) (by decide), ix_nI (by omega), bnd_r, nl0, d3, nI_1]
  · rintro ⟨M3, s2⟩ ⟨rfl, hF, b1, b2⟩
    refine ⟨M3, ⟨hF, b1, b2⟩, fun _ f => ?_⟩
    simp only [] at hF
    show fX12_counts_l16 (f + 1) M3 (nI (cS X.1)) = _
    rw [fX12_counts_l16.eq_2, (MS_fr hM2 hF (by decide)).2.2.2.2.2.2.2.2.1, le_t (Nat.le_refl _) (by omega)]
  · rw [f1.gi (by decide), a2.gi (by decide), h107 p hp]
    rfl
  · rw [f1.gi (by decide), a2.gi (by decide), h108 t ht, if_neg (Nat.not_lt_zero t)]
    rfl
/-- what one deed of the reference leaves -/
def DR (M : MM) (o : Nat) (P : PARD) (l0 : Nat) (L : Nat → Nat) (X2 : PLS) (r : Option MM) : Prop := ∃ M2, r = some M2 ∧ Fr rL M M2 ∧ N90 M M2 33 ∧ PM M2 o P l0 L X2
theorem PM_sI {M : MM} {o l0 : Nat} {P : PARD} {L : Nat → Nat} {X : PLS} {S2 : SCN} (h : PM M o P l0 L X) {c k : Nat} {v : Int32} (hc : c = 94 ∨ c = 98 ∨ c = 101) (hS : MS (sI M c k v) o P S2) : PM (sI M c k v) o P l0 L (S2, X.2) ∧ Fr rL M (sI M c k v) ∧ N90 M (sI M c k v) 33 := by
  obtain ⟨hM, hL, h33, h107, h108⟩ := h
  have g : ∀ d i, d ≠ c → gI (sI M c k v) d i = gI M d i := fun d i hd => gI_ne _ _ _ _ _ _ hd
  refine ⟨⟨hS, ML_gen hL (g 90 _ (by omega)) (g 90 _ (by omega)) (fun i => g 91 i (by omega)), by rw [g 90 _ (by omega)]; exact h33, fun p hp => by rw [g 107 _ (by omega)]; exact h107 p hp, fun p hp => by rw [g 108 _ (by omega)]; exact h108 p hp⟩, Fr.rfl.pI (by rcases hc with rfl | rfl | rfl <;> decide), fun i _ => g 90 i (by omega)⟩
theorem go_ref {M : MM} {o l0 : Nat} {P : PARD} {L : Nat → Nat} {X : PLS} (h : PM M o P l0 L X) (hX : PX X) {p d : Nat} (hp : p < cN X.1) (hd : d < 8) : match goS X p d with
    | none => fX12_can M 0 (nI p) (nI d) = some 0
    | some X2 => fX12_can M 0 (nI p) (nI d) = some 1 ∧ DR M o P l0 L X2 (fX12_does M 0 (nI p) (nI d)) := by
  have hM := h.1
  have hS := hM.2.2.2.2.1
  have hn8 := hS.2.2.1
  obtain ⟨q, hq⟩ := hX.2.2 p hp
  have hin := hS.2.2.2.2.1 p q hp hq
  have hq64 := inP_64 hS.2.1.2 hin
  have e94 : gI M 94 p = nI q := by rw [(hM.2.2.2.2.2.2.2.2.2.1 p hp).1, hq]; rfl
  have can : fX12_can M 0 (nI p) (nI d) = (if opI (stepP (cW X.1) (cH X.1) q d) = -1 then some 0 else (fX12_on M (opI (stepP (cW X.1) (cH X.1) q d))).bind (fun p22 => (if p22 = 0 then some 1 else some 0))) := by
    unfold fX12_can
    rw [if_neg (by decide), if_pos rfl, isPerson_yes hM hp, bd_s, if_neg i10, gd_inb (by omega) (by decide), ix_nI (by omega), e94, beside_spec hM hq64 hd, bd_s, gd_inb (by omega) (by decide), bd_s]
  have does : fX12_does M 0 (nI p) (nI d) = some (sI M 94 p (opI (stepP (cW X.1) (cH X.1) q d))) := by
    unfold fX12_does
    rw [if_pos rfl, gd_inb (by omega) (by decide), ix_nI (by omega), e94, beside_spec hM hq64 hd, bd_s, gd_inb (by omega) (by decide), bnd_r]
  rw [can, does]
  cases hs : stepP (cW X.1) (cH X.1) q d with
  | none =>
    have : goS X p d = none := by unfold goS; rw [hq]; simp only []; rw [hs]
    rw [this]
    simp only []
    rw [if_pos (show opI none = -1 from rfl)]
  | some q2 =>
    have hin2 := (stepP_in hS.1.2 hS.2.1.2 hs).1
    have hq2 := inP_64 hS.2.1.2 hin2
    have ho := onS_lt hS q2
    rw [show opI (some q2) = nI q2 from rfl, m1_iff (by omega), on_spec hM hq2, bd_s, nl0]
    by_cases c : onS X.1 q2 = 0
    · have hg : goS X p d = some (setA X.1 p (some q2), X.2) := by unfold goS; rw [hq]; simp only []; rw [hs]; simp only []; rw [if_pos c]
      rw [hg]
      obtain ⟨b1, b2, b3⟩ := PM_sI h (c := 94) (k := p) (v := opI (some q2)) (Or.inl rfl) (MS_setA hM (fun x z => by cases z; exact hin2))
      exact ⟨by rw [eqn_t c], _, rfl, b2, b3, b1⟩
    · have hg : goS X p d = none := by unfold goS; rw [hq]; simp only []; rw [hs]; simp only []; rw [if_neg c]
      rw [hg]
      simp only []
      rw [eqn_f c (by omega) (by decide)]
theorem deed_ref {M : MM} {o l0 : Nat} {P : PARD} {L : Nat → Nat} {X : PLS} (h : PM M o P l0 L X) (hX : PX X) {e0 e1 e2 : Int32} (hd : DOK e0 e2) : match deedS L X e0 e1 e2 with
    | none => fX12_can M e0 e1 e2 = some 0
    | some X2 => fX12_can M e0 e1 e2 = some 1 ∧ DR M o P l0 L X2 (fX12_does M e0 e1 e2) := by
  obtain ⟨⟨j, hj, ej⟩, h2⟩ := hd
  have hM := h.1
  have hS := hM.2.2.2.2.1
  have h8 := hS.2.2.2.1
  have hn8 := hS.2.2.1
  unfold deedS
  by_cases c4 : e0 = 4
  · rw [if_pos c4]
    obtain ⟨M2, a1, a2, a3, a4⟩ := counts_ref h
    refine ⟨?_, M2, ?_, a2.mono (by decide), a3, a4⟩
    · unfold fX12_can
      rw [if_pos c4]
    · unfold fX12_does
      rw [c4, if_neg (by decide), if_neg (by decide), if_neg (by decide), if_neg (by decide), a1]
      rfl
  · rw [if_neg c4]
    by_cases c0 : e0 = 0
    · rw [if_pos c0]
      obtain ⟨d, hd, rfl⟩ := h2 (Or.inl c0)
      subst c0
      rcases rng e1 (n := cN X.1) (by omega) with z | ⟨p, hp, rfl⟩
      · rw [if_pos z]
        simp only []
        unfold fX12_can
        rw [if_neg (by decide), if_pos rfl, isPerson_no hM z, bd_s, if_pos rfl]
      · rw [if_neg (fun z => by
          rcases z with z | z
          · exact nI_pos (by omega) z
          · exact nI_ge hp (by omega) z), ix_nI (by omega), ix_nI (by omega)]
        exact go_ref h hX hp hd
    · rw [if_neg c0]
      rcases rng e1 (n := cS X.1) (by omega) with z | ⟨s, hs, rfl⟩
      · rw [if_pos z]
        simp only []
        unfold fX12_can
        rw [if_neg c4, if_neg c0, isShine_no hM z, bd_s, if_pos rfl]
      · have can : fX12_can M e0 (nI s) e2 = (if e0 = 1 then some 1 else (if e0 = 3 then fX12_can_j87 M (gI M 101 s) 1 else fX12_can_j87 M (gI M 101 s) 0)) := by
          unfold fX12_can
          rw [if_neg c4, if_neg c0, isShine_yes hM hs, bd_s, if_neg i10, gd_inb (by omega) (by decide), ix_nI (by omega)]
        have e101 : gI M 101 s = bI (cSt X.1 s) := hM.2.2.2.2.2.2.2.2.2.2.2.1 s (by omega)
        rw [if_neg (fun z => by
          rcases z with z | z
          · exact nI_pos (by omega) z
          · exact nI_ge hs (by omega) z), ix_nI (by omega), can]
        by_cases c1 : e0 = 1
        · obtain ⟨d, hd, rfl⟩ := h2 (Or.inr c1)
          rw [if_pos c1, if_pos c1, ix_nI (by omega)]
          obtain ⟨b1, b2, b3⟩ := PM_sI h (c := 98) (k := s) (v := nI d) (Or.inr (Or.inl rfl)) (MS_setF hM hd)
          refine ⟨rfl, _, ?_, b2, b3, b1⟩
          unfold fX12_does
          rw [c1, if_neg (by decide), if_pos rfl, gd_inb (by omega) (by decide), ix_nI (by omega), bnd_r]
        · rw [if_neg c1, if_neg c1, e101]
          have go : ∀ b : Bool, (cSt X.1 s = b → fX12_does M e0 (nI s) e2 = some (sI M 101 s (bI (!b)))) → match (if cSt X.1 s = b then some (setT X.1 s (!cSt X.1 s), X.2) else none : Option PLS) with
              | none => fX12_can_j87 M (bI (cSt X.1 s)) (bI b) = some 0
              | some X2 => fX12_can_j87 M (bI (cSt X.1 s)) (bI b) = some 1 ∧ DR M o P l0 L X2 (fX12_does M e0 (nI s) e2) := by
            intro b hdo
            unfold fX12_can_j87
            by_cases c : cSt X.1 s = b
            · rw [if_pos c]
              obtain ⟨b1, b2, b3⟩ := PM_sI h (c := 101) (k := s) (v := bI (!cSt X.1 s)) (Or.inr (Or.inr rfl)) (MS_setT hM)
              refine ⟨by rw [if_pos (by rw [c])], _, ?_, b2, b3, b1⟩
              rw [hdo c, c]
            · rw [if_neg c]
              simp only []
              rw [if_neg]
              intro z
              apply c
              cases hc : cSt X.1 s <;> cases b <;> simp_all [bI]
          by_cases c3 : e0 = 3
          · rw [if_pos c3, decide_eq_true c3]
            refine go true (fun _ => ?_)
            unfold fX12_does
            rw [c3, if_neg (by decide), if_neg (by decide), if_neg (by decide), if_pos rfl, gd_inb (by omega) (by decide), ix_nI (by omega), bnd_r, nar0]
            rfl
          · rw [if_neg c3, decide_eq_false c3]
            refine go false (fun _ => ?_)
            have e2' : e0 = 2 := by
              rcases (show j = 0 ∨ j = 1 ∨ j = 2 ∨ j = 3 ∨ j = 4 by omega) with rfl | rfl | rfl | rfl | rfl
              · exact absurd ej c0
              · exact absurd ej c1
              · exact ej
              · exact absurd ej c3
              · exact absurd ej c4
            unfold fX12_does
            rw [e2', if_neg (by decide), if_neg (by decide), if_pos rfl, gd_inb (by omega) (by decide), ix_nI (by omega), bnd_r, nar1]
            rfl
/-- an evening that the reference has loaded -/
def ME (M : MM) (e : Nat) (D : Nat) (E : Nat → Nat → Int32) : Prop := gI M 90 31 = nI e ∧ e + 121 ≤ 1130 ∧ D ≤ 40 ∧ gI M 91 e = nI D ∧ (∀ i, i < D → ∀ j, j < 3 → gI M 91 (e + 1 + 3 * i + j) = E i j) ∧ ∀ i, i < D → DOK (E i 0) (E i 2)
theorem ME_gen {M M2 : MM} {e D : Nat} {E : Nat → Nat → Int32} (h : ME M e D E) (g31 : gI M2 90 31 = gI M 90 31) (g91 : ∀ k, gI M2 91 k = gI M 91 k) : ME M2 e D E := by
  obtain ⟨h1, h2, h3, h4, h5, h6⟩ := h
  exact ⟨g31.trans h1, h2, h3, by rw [g91]; exact h4, fun i hi j hj => by rw [g91]; exact h5 i hi j hj, h6⟩
theorem deedOf_ref {M : MM} {e D : Nat} {E : Nat → Nat → Int32} (h : ME M e D E) {i j : Nat} (hi : i < D) (hj : j < 3) : fX12_deedOf M (nI i) (nI j) = some (E i j) := by
  obtain ⟨h1, h2, h3, h4, h5, h6⟩ := h
  unfold fX12_deedOf
  rw [h1, nl1, nl3, nI_add, pk_mul, nI_add, nI_add, gd_inb (by omega) (by decide), ix_nI (by omega), h5 i hi j hj]
theorem PM_32 {M : MM} {o l0 : Nat} {P : PARD} {L : Nat → Nat} {X : PLS} (h : PM M o P l0 L X) {k : Nat} {v : Int32} (hk : 31 < k ∧ k ≠ 33) : PM (sI M 90 k v) o P l0 L X := by
  obtain ⟨hM, hL, h33, h107, h108⟩ := h
  have g : ∀ d i, d ≠ 90 → gI (sI M 90 k v) d i = gI M d i := fun d i hd => gI_ne _ _ _ _ _ _ hd
  have g90 : ∀ i, i ≠ k → gI (sI M 90 k v) 90 i = gI M 90 i := fun i hd => gI_nk _ _ _ _ _ _ hd
  exact ⟨MS_gen hM (fun i hi => g90 i (by omega)) (fun c i hc => g c i (by omega)), ML_gen hL (g90 _ (by omega)) (g90 _ (by omega)) (fun i => g 91 i (by decide)), by rw [g90 _ (by omega)]; exact h33, fun p hp => by rw [g 107 _ (by decide)]; exact h107 p hp, fun p hp => by rw [g 108 _ (by decide)]; exact h108 p hp⟩
theorem run_ref {M : MM} {o l0 e : Nat} {P : PARD} {L : Nat → Nat} {X : PLS} {D : Nat} {E : Nat → Nat → Int32} (h : PM M o P l0 L X) (hX : PX X) (hE : ME M e D E) (h32 : gI M 90 32 = nI 0) {n N : Nat} (hn : n < 2 ^ 31) (hN : N = if n < D then n else D) : ∃ M2, (Fr rL M M2 ∧ gI M2 90 32 = nI (runS L E X N).1 ∧ PM M2 o P l0 L (runS L E X N).2) ∧ ∀ _k : Unit, fX12_runs_l4 FU M (nI n) = some M2 := by
  have hD := hE.2.2.1
  have hND : N ≤ D ∧ N ≤ n ∧ (N = n ∨ N = D) := by
    rw [hN]
    split <;> omega
  refine lpk (κ := Unit) (σ := MM) (fun _ f M1 => fX12_runs_l4 f M1 (nI n)) (fun _ M2 => some M2) N
    (fun i M1 => Fr rL M M1 ∧ gI M1 90 32 = nI i ∧ (runS L E X i).1 = i ∧ PM M1 o P l0 L (runS L E X i).2 ∧ ME M1 e D E) _ ?_ ?_ FU 0 M (by omega) (by show _ < 5000; omega) ⟨Fr.rfl, h32, rfl, h, hE⟩
  · rintro i M1 hi ⟨hF, a0, a1, a2, a3⟩
    have he := a3.2.1
    have hPX := run_PX (L := L) (E := E) hX i (fun k hk => hE.2.2.2.2.2 k (by omega))
    have hd := deed_ref (e1 := E i 1) a2 hPX (hE.2.2.2.2.2 i (by omega))
    have d0 := deedOf_ref a3 (show i < D by omega) (show 0 < 3 by decide)
    have d1 := deedOf_ref a3 (show i < D by omega) (show 1 < 3 by decide)
    have d2 := deedOf_ref a3 (show i < D by omega) (show 2 < 3 by decide)
    have head : ∀ f, fX12_runs_l4 (f + 1) M1 (nI n) = (fX12_can M1 (E i 0) (E i 1) (E i 2)).bind (fun p14 => (if p14 = 0 then some M1 else (fX12_does M1 (E i 0) (E i 1) (E i 2)).bind (fun p23 => bnd (sI p23 90 32 ((gI p23 90 32) + 1)) (fun M25 => fX12_runs_l4 f M25 (nI n))))) := fun f => by
      rw [fX12_runs_l4.eq_2, a0, le_f (show i < n by omega) hn, a3.1, gd_inb (by omega) (by decide), ix_nI (by omega), a3.2.2.2.1, le_f (show i < D by omega) (by omega), show (0 : Int32) = nI 0 from rfl, show (1 : Int32) = nI 1 from rfl, show (2 : Int32) = nI 2 from rfl, d0, bd_s, d1, bd_s, d2, bd_s, bd_s, bd_s, bd_s]
    cases hg : deedS L (runS L E X i).2 (E i 0) (E i 1) (E i 2) with
    | none =>
      rw [hg] at hd
      simp only [] at hd
      have er := runS_none a1 hg N hi
      refine Or.inr ⟨M1, ⟨hF, by rw [er, a1]; exact a0, by rw [er]; exact a2⟩, fun _ f => ?_⟩
      show fX12_runs_l4 (f + 1) M1 (nI n) = _
      rw [head, hd, bd_s, if_pos rfl]
    | some X2 =>
      rw [hg] at hd
      simp only [] at hd
      obtain ⟨b0, M2, b1, b2, b3, b4⟩ := hd
      have er := runS_some a1 hg
      have f2 : Fr rL M2 (sI M2 90 32 (gI M2 90 32 + 1)) := Fr.rfl.pI (by decide)
      refine Or.inl ⟨sI M2 90 32 (gI M2 90 32 + 1), ⟨(hF.trans b2).trans f2, ?_, by rw [er], by rw [er]; exact PM_32 b4 ⟨by decide, by decide⟩, ME_gen (ME_gen a3 (b3 31 (by decide)) (fun k => b2.gi (by decide) k)) (gI_nk _ _ _ _ _ _ (by decide)) (fun k => gI_ne _ _ _ _ _ _ (by decide))⟩, fun _ f => ?_⟩
      · rw [gI_eq, b3 32 (by decide), a0, nI_1]
      · show fX12_runs_l4 (f + 1) M1 (nI n) = _
        rw [head, b0, bd_s, if_neg i10, b1, bd_s, bnd_r]
  · rintro M1 ⟨hF, a0, a1, a2, a3⟩
    have he := a3.2.1
    refine ⟨M1, ⟨hF, by rw [a1]; exact a0, a2⟩, fun _ f => ?_⟩
    show fX12_runs_l4 (f + 1) M1 (nI n) = _
    rw [fX12_runs_l4.eq_2, a0]
    rcases hND.2.2 with z | z
    · rw [le_t (by omega) (by omega)]
    · by_cases c : n ≤ N
      · rw [le_t c (by omega)]
      · rw [le_f (by omega) hn, a3.1, gd_inb (by omega) (by decide), ix_nI (by omega), a3.2.2.2.1, le_t (by omega) (by omega)]
theorem begins_ref {M : MM} {o l0 : Nat} {P : PARD} {S : SCN} {L : Nat → Nat} (hM : MS M o P S) (hL : ML M l0 L (L 0)) : ∃ M2, fX12_begins M = some M2 ∧ Fr [90, 107, 108] M M2 ∧ (∀ k, k ≠ 32 → k ≠ 33 → gI M2 90 k = gI M 90 k) ∧ gI M2 90 32 = nI 0 ∧ PM M2 o P l0 L (S, 0, fun _ => 0, fun _ => 0) := by
  have f1 : Fr [90] M (sI (sI M 90 32 0) 90 33 0) := (Fr.rfl.pI (by decide)).pI (by decide)
  have g90 : ∀ k, k ≠ 32 → k ≠ 33 → gI (sI (sI M 90 32 0) 90 33 0) 90 k = gI M 90 k := fun k h1 h2 => by rw [gI_nk _ _ _ _ _ _ h2, gI_nk _ _ _ _ _ _ h1]
  have key := lpk (κ := Unit) (σ := MM × Nat) (fun _ f st => fX12_begins_l12 f st.1 (nI st.2)) (fun _ M3 => some M3) 8
    (fun i st => i = st.2 ∧ Fr [107, 108] (sI (sI M 90 32 0) 90 33 0) st.1 ∧ (∀ p, p < i → gI st.1 107 p = nI 0) ∧ ∀ p, p < i → gI st.1 108 p = nI 0) (fun M3 => Fr [107, 108] (sI (sI M 90 32 0) 90 33 0) M3 ∧ (∀ p, p < 8 → gI M3 107 p = nI 0) ∧ ∀ p, p < 8 → gI M3 108 p = nI 0) ?_ ?_ FU 0 (sI (sI M 90 32 0) 90 33 0, 0) (by omega) (by decide) ⟨rfl, Fr.rfl, fun p hp => absurd hp (Nat.not_lt_zero p), fun p hp => absurd hp (Nat.not_lt_zero p)⟩
  · obtain ⟨M3, ⟨b1, b2, b3⟩, b4⟩ := key
    have hM2 : MS (sI (sI M 90 32 0) 90 33 0) o P S := MS_gen hM (fun k hk => g90 k (by omega) (by omega)) (fun c k hc => f1.gi (by simp; omega) k)
    have hL2 : ML (sI (sI M 90 32 0) 90 33 0) l0 L (L 0) := ML_gen hL (g90 _ (by decide) (by decide)) (g90 _ (by decide) (by decide)) (fun k => f1.gi (by decide) k)
    refine ⟨M3, ?_, (f1.mono (by decide)).trans (b1.mono (by decide)), fun k h1 h2 => by rw [b1.gi (by decide)]; exact g90 k h1 h2, ?_, MS_fr hM2 b1 (by decide), ML_fr hL2 b1 (by decide) (by decide), ?_, b2, b3⟩
    · unfold fX12_begins
      rw [bnd_r, bnd_r]
      exact b4 ()
    · rw [b1.gi (by decide), gI_nk _ _ _ _ _ _ (by decide), gI_eq]; rfl
    · rw [b1.gi (by decide), gI_eq]; rfl
  · rintro i ⟨M3, j⟩ hi ⟨rfl, hF, b1, b2⟩
    left
    refine ⟨(sI (sI M3 107 i 0) 108 i 0, i + 1), ⟨rfl, (hF.pI (by decide)).pI (by decide), fun p hp => ?_, fun p hp => ?_⟩, fun _ f => ?_⟩
    · show gI (sI (sI M3 107 i 0) 108 i 0) 107 p = _
      rw [gI_ne _ _ _ _ _ _ (by decide)]
      by_cases e : p = i
      · rw [e, gI_eq]; rfl
      · rw [gI_nk _ _ _ _ _ _ e]; exact b1 p (by omega)
    · show gI (sI (sI M3 107 i 0) 108 i 0) 108 p = _
      by_cases e : p = i
      · rw [e, gI_eq]; rfl
      · rw [gI_nk _ _ _ _ _ _ e, gI_ne _ _ _ _ _ _ (by decide)]; exact b2 p (by omega)
    · show fX12_begins_l12 (f + 1) M3 (nI i) = fX12_begins_l12 f (sI (sI M3 107 i 0) 108 i 0) (nI (i + 1))
      rw [fX12_begins_l12.eq_2, nl8, le_f hi (by decide), gd_inb hi (by decide), ix_nI (by omega), bnd_r, gd_inb hi (by decide), bnd_r, nI_1]
  · rintro ⟨M3, j⟩ ⟨rfl, hF, b1, b2⟩
    refine ⟨M3, ⟨hF, b1, b2⟩, fun _ f => ?_⟩
    show fX12_begins_l12 (f + 1) M3 (nI 8) = _
    rw [fX12_begins_l12.eq_2, nl8, le_t (Nat.le_refl _) (by decide)]
