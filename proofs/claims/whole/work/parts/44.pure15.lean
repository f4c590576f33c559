/-! ===== an evening, abstractly ===== -/
/-- a scene, how often it was counted, what each is taxed, what each shine has -/
abbrev PLS : Type := SCN × Nat × (Nat → Nat) × (Nat → Nat)
def txS (S : SCN) (L : Nat → Nat) (p s : Nat) : Nat := if soupS S L s then 0 else if nearB S (L 0) s p then L 5 else 0
def cntS (L : Nat → Nat) (X : PLS) : PLS := (X.1, X.2.1 + 1, fun p => X.2.2.1 p + sumN (txS X.1 L p) (cS X.1), fun s => X.2.2.2 s + if s < cS X.1 then countS X.1 (L 0) L s else 0)
def goS (X : PLS) (p d : Nat) : Option PLS := match cAt X.1 p with
  | none => none
  | some q => match stepP (cW X.1) (cH X.1) q d with
    | none => none
    | some q2 => if onS X.1 q2 = 0 then some (setA X.1 p (some q2), X.2) else none
def deedS (L : Nat → Nat) (X : PLS) (e0 e1 e2 : Int32) : Option PLS :=
  if e0 = 4 then some (cntS L X) else if e0 = 0 then (if e1 < 0 ∨ nI (cN X.1) ≤ e1 then none else goS X (ix e1) (ix e2)) else
  if e1 < 0 ∨ nI (cS X.1) ≤ e1 then none else if e0 = 1 then some (setF X.1 (ix e1) (ix e2), X.2) else
  if cSt X.1 (ix e1) = decide (e0 = 3) then some (setT X.1 (ix e1) (!cSt X.1 (ix e1)), X.2) else none
/-- a deed's numbers are such as can be -/
def DOK (e0 e2 : Int32) : Prop := (∃ j : Nat, j < 5 ∧ e0 = nI j) ∧ (e0 = 0 ∨ e0 = 1 → ∃ j : Nat, j < 8 ∧ e2 = nI j)
/-- the first i deeds, or those before the first that can't be -/
def runS (L : Nat → Nat) (E : Nat → Nat → Int32) (X : PLS) : Nat → Nat × PLS
  | 0 => (0, X)
  | i + 1 => if (runS L E X i).1 < i then runS L E X i else match deedS L (runS L E X i).2 (E i 0) (E i 1) (E i 2) with
    | none => runS L E X i
    | some X2 => (i + 1, X2)
theorem runS_le (L : Nat → Nat) (E : Nat → Nat → Int32) (X : PLS) : ∀ i, (runS L E X i).1 ≤ i
  | 0 => Nat.le_refl 0
  | i + 1 => by
    have := runS_le L E X i
    rw [runS]
    split
    · omega
    · split
      · omega
      · exact Nat.le_refl _
theorem runS_stuck {L : Nat → Nat} {E : Nat → Nat → Int32} {X : PLS} {i : Nat} (h : (runS L E X i).1 < i) : ∀ m, i ≤ m → runS L E X m = runS L E X i := by
  intro m
  induction m with
  | zero => intro hm; rw [show i = 0 by omega]
  | succ m ih =>
    intro hm
    rcases Nat.lt_or_ge m i with c | c
    · rw [show i = m + 1 by omega]
    · have := ih c
      rw [runS, this, if_pos (by omega)]
theorem runS_none {L : Nat → Nat} {E : Nat → Nat → Int32} {X : PLS} {i : Nat} (h : (runS L E X i).1 = i) (hd : deedS L (runS L E X i).2 (E i 0) (E i 1) (E i 2) = none) : ∀ m, i < m → runS L E X m = runS L E X i := by
  have e : runS L E X (i + 1) = runS L E X i := by
    rw [runS, if_neg (by omega), hd]
  intro m hm
  rw [runS_stuck (i := i + 1) (by rw [e]; omega) m hm, e]
theorem runS_some {L : Nat → Nat} {E : Nat → Nat → Int32} {X X2 : PLS} {i : Nat} (h : (runS L E X i).1 = i) (hd : deedS L (runS L E X i).2 (E i 0) (E i 1) (E i 2) = some X2) : runS L E X (i + 1) = (i + 1, X2) := by
  rw [runS, if_neg (by omega), hd]
/-- what holds of every state of an evening -/
def PX (X : PLS) : Prop := SW X.1 ∧ DI X.1 ∧ ∀ k, k < cN X.1 → ∃ q, cAt X.1 k = some q
theorem go_PX {X X2 : PLS} {p d : Nat} (h : PX X) (hp : p < cN X.1) (e : goS X p d = some X2) : ∃ q q2, cAt X.1 p = some q ∧ stepP (cW X.1) (cH X.1) q d = some q2 ∧ onS X.1 q2 = 0 ∧ X2 = (setA X.1 p (some q2), X.2) ∧ PX X2 := by
  obtain ⟨h1, h2, h3⟩ := h
  obtain ⟨q, hq⟩ := h3 p hp
  unfold goS at e
  rw [hq] at e
  simp only [] at e
  cases hs : stepP (cW X.1) (cH X.1) q d with
  | none => rw [hs] at e; cases e
  | some q2 =>
    rw [hs] at e
    simp only [] at e
    by_cases c : onS X.1 q2 = 0
    · rw [if_pos c] at e
      have e2 := (Option.some.inj e).symm
      refine ⟨q, q2, hq, hs, c, e2, ?_⟩
      rw [e2]
      obtain ⟨f1, f2, f3⟩ := onS_free2 c
      refine ⟨setA_SW h1 (fun x z => by cases z; exact (stepP_in h1.1.2 h1.2.1.2 hs).1), setA_DI h2 (fun x z => ?_), fun k hk => ?_⟩
      · cases z
        refine onS_free (fun k hk z => ?_) f2 f3
        rw [setA_at] at z
        by_cases c2 : k = p
        · rw [if_pos c2] at z; cases z
        · rw [if_neg c2] at z; exact f1 k hk z
      · show ∃ x, cAt (setA X.1 p (some q2)) k = some x
        rw [setA_at]
        by_cases c2 : k = p
        · exact ⟨q2, by rw [if_pos c2]⟩
        · rw [if_neg c2]; exact h3 k hk
    · rw [if_neg c] at e; cases e
theorem setF_DI {S : SCN} (h : DI S) {s f : Nat} : DI (setF S s f) :=
  ⟨h.1, fun i q t hi ht e hh => by rw [setF_ne S (j := 1) (by decide)]; exact h.2.1 i q t hi ht e hh, h.2.2⟩
/-! ===== an evening of the class ===== -/
def PC (M : MM) (a : Nat) (L : Nat → Nat) (X : PLS) : Prop := BS M X.1 aT ∧ CLw M a L ∧ (∀ k q, k < cN X.1 → cAt X.1 k = some q → gI M 62 k = nI (sqC (cW X.1) q)) ∧ gI M 78 1 = nI X.2.1 ∧ (∀ p, p < 8 → gI M 79 p = nI (X.2.2.1 p)) ∧ ∀ s, s < 8 → gI M 80 s = nI (X.2.2.2 s)
abbrev pF : List Nat := [60, 62, 66, 69, 70, 74, 75, 76, 77, 78, 79, 80]
theorem tax_cls {M : MM} {a s : Nat} {S : SCN} {L : Nat → Nat} {bs : Nat → Nat} (hB : BS M S aT) (hL : CLw M a L) (hN : NR M S (L 0)) (hs : s < cS S) (hT : ∀ p, p < 8 → gI M 79 p = nI (bs p)) : ∃ M2, (Fr [79] M M2 ∧ ∀ p, p < 8 → gI M2 79 p = nI (bs p + if nearB S (L 0) s p then L 5 else 0)) ∧ ∀ k : MM → Int32 → Option MM, fX6_countAll_l80 a k FU M (nI s) (nI 0) = k M2 (nI s) := by
  have hS := hB.1.1
  have h8 := hS.2.2.2.1
  have hn8 := hS.2.2.1
  have nl := nearM_lt hS (L 0) s
  refine lpk (κ := MM → Int32 → Option MM) (σ := MM × Nat) (fun k f st => fX6_countAll_l80 a k f st.1 (nI s) (nI st.2)) (fun k M2 => k M2 (nI s)) (cN S)
    (fun i st => i = st.2 ∧ Fr [79] M st.1 ∧ ∀ p, p < 8 → gI st.1 79 p = nI (bs p + if p < i ∧ nearB S (L 0) s p = true then L 5 else 0)) _ ?_ ?_ FU 0 (M, 0) (by omega) (by show _ < 5000; omega) ⟨rfl, Fr.rfl, fun p hp => by rw [if_neg (fun z => Nat.not_lt_zero p z.1)]; exact hT p hp⟩
  · rintro i ⟨M1, j⟩ hi ⟨rfl, hF, a1⟩
    left
    simp only [] at hF a1
    have hB1 : BS M1 S aT := BS_fr hB hF (by decide)
    have hL1 : CLw M1 a L := CLw_fr hL hF (by decide)
    have e70 : gI M1 70 s = nI (nearM S (L 0) s) := by rw [hF.gi (by decide)]; exact hN s hs
    by_cases c : nearB S (L 0) s i = true
    · refine ⟨(sI M1 79 i (gI M1 79 i + nI (L 5)), i + 1), ⟨rfl, hF.pI (by decide), fun p hp => ?_⟩, fun k f => ?_⟩
      · show gI (sI M1 79 i (gI M1 79 i + nI (L 5))) 79 p = _
        by_cases e : p = i
        · subst e
          rw [gI_eq, a1 p hp, if_neg (by omega), if_pos ⟨by omega, c⟩, nI_add]
          rfl
        · rw [gI_nk _ _ _ _ _ _ e, a1 p hp]
          by_cases d : p < i ∧ nearB S (L 0) s p = true
          · rw [if_pos d, if_pos ⟨by omega, d.2⟩]
          · rw [if_neg d, if_neg (fun z => d ⟨by omega, z.2⟩)]
      · show fX6_countAll_l80 a k (f + 1) M1 (nI s) (nI i) = fX6_countAll_l80 a k f (sI M1 79 i (gI M1 79 i + nI (L 5))) (nI s) (nI (i + 1))
        rw [fX6_countAll_l80.eq_2, hB1.1.2.2.2.2.1, le_f hi (by omega), gd_inb (by omega) (by decide), ix_nI (by omega), e70, bit_u0 (by omega) (by omega), if_pos (show (nearM S (L 0) s).testBit i = true from c), gd_inb (by omega) (by decide), gd_inb (by omega) (by decide), ix_nI (by omega), bnd_r, hL1.2.2 5 (by decide), nI_1]
    · refine ⟨(M1, i + 1), ⟨rfl, hF, fun p hp => ?_⟩, fun k f => ?_⟩
      · show gI M1 79 p = _
        rw [a1 p hp]
        by_cases d : p < i ∧ nearB S (L 0) s p = true
        · rw [if_pos d, if_pos ⟨by omega, d.2⟩]
        · rw [if_neg d, if_neg (fun z => ?_)]
          by_cases e : p = i
          · rw [e] at z; exact c z.2
          · exact d ⟨by omega, z.2⟩
      · show fX6_countAll_l80 a k (f + 1) M1 (nI s) (nI i) = fX6_countAll_l80 a k f M1 (nI s) (nI (i + 1))
        rw [fX6_countAll_l80.eq_2, hB1.1.2.2.2.2.1, le_f hi (by omega), gd_inb (by omega) (by decide), ix_nI (by omega), e70, bit_u0 (by omega) (by omega), if_neg (show ¬ (nearM S (L 0) s).testBit i = true from c), nI_1]
  · rintro ⟨M1, j⟩ ⟨rfl, hF, a1⟩
    simp only [] at hF a1
    refine ⟨M1, ⟨hF, fun p hp => ?_⟩, fun k f => ?_⟩
    · rw [a1 p hp]
      by_cases d : nearB S (L 0) s p = true
      · rw [if_pos d, if_pos ⟨near_bit hS d, d⟩]
      · rw [if_neg d, if_neg (fun z => d z.2)]
    · show fX6_countAll_l80 a k (f + 1) M1 (nI s) (nI (cN S)) = _
      rw [fX6_countAll_l80.eq_2, (BS_fr hB hF (by decide)).1.2.2.2.2.1, le_t (Nat.le_refl _) (by omega)]
theorem countAll_cls {M : MM} {a : Nat} {L : Nat → Nat} {X : PLS} (h : PC M a L X) : ∃ M2, fX6_countAll M a = some M2 ∧ Fr [70, 77, 78, 79, 80] M M2 ∧ PC M2 a L (cntS L X) ∧ gI M2 78 4 = gI M 78 4 := by
  obtain ⟨hB, hL, h62, h78, h79, h80⟩ := h
  have hS := hB.1.1
  have h8 := hS.2.2.2.1
  have h0 := hL.2.1.1
  have f0 : Fr [78] M (sI M 78 1 (gI M 78 1 + 1)) := Fr.rfl.pI (by decide)
  obtain ⟨M2, r, a1, a2, a3, -, -, -, a7⟩ := spread_spec (BS_fr hB f0 (by decide)) (c := L 0) (by omega)
  have hL2 : CLw M2 a L := CLw_fr (CLw_fr hL f0 (by decide)) a2 (by decide)
  have key := lpk (κ := Unit) (σ := MM × Nat) (fun _ f st => fX6_countAll_l24 a f st.1 (nI st.2)) (fun _ M3 => some M3) (cS X.1)
    (fun s st => s = st.2 ∧ Fr [79, 80] M2 st.1 ∧ (∀ p, p < 8 → gI st.1 79 p = nI (X.2.2.1 p + sumN (txS X.1 L p) s)) ∧ ∀ t, t < 8 → gI st.1 80 t = nI (X.2.2.2 t + if t < s then countS X.1 (L 0) L t else 0))
    (fun M3 => Fr [79, 80] M2 M3 ∧ (∀ p, p < 8 → gI M3 79 p = nI (X.2.2.1 p + sumN (txS X.1 L p) (cS X.1))) ∧ ∀ t, t < 8 → gI M3 80 t = nI (X.2.2.2 t + if t < cS X.1 then countS X.1 (L 0) L t else 0)) ?_ ?_ FU 0 (M2, 0) (by omega) (by show _ < 5000; omega) ⟨rfl, Fr.rfl, fun p hp => ?_, fun t ht => ?_⟩
  · obtain ⟨M3, ⟨b1, b2, b3⟩, b4⟩ := key
    have hF : Fr [70, 77, 78, 79, 80] M M3 := ((f0.mono (by decide)).trans (a2.mono (by decide))).trans (b1.mono (by decide))
    refine ⟨M3, ?_, hF, ⟨BS_fr hB hF (by decide), CLw_fr hL hF (by decide), fun k q hk e => ?_, ?_, b2, b3⟩, by rw [b1.gi (by decide), a2.gi (by decide), gI_nk _ _ _ _ _ _ (by decide)]⟩
    · unfold fX6_countAll
      rw [bnd_r, gI_ne _ _ _ _ _ _ (by have := hL.1; omega), hL.2.2 0 (by decide), a1, bd_s]
      exact b4 ()
    · rw [hF.gi (by decide)]; exact h62 k q hk e
    · show gI M3 78 1 = nI (X.2.1 + 1)
      rw [b1.gi (by decide), a2.gi (by decide), gI_eq, h78, nI_1]
  · rintro s ⟨M3, s2⟩ hs ⟨rfl, hF, b1, b2⟩
    left
    simp only [] at hF b1 b2
    have hB3 : BS M3 X.1 aT := BS_fr a7 hF (by decide)
    have hL3 : CLw M3 a L := CLw_fr hL2 hF (by decide)
    have hN3 : NR M3 X.1 (L 0) := fun s hs => by rw [hF.gi (by decide)]; exact a3 s hs
    have f4 : Fr [80] M3 (sI M3 80 s (gI M3 80 s + nI (countS X.1 (L 0) L s))) := Fr.rfl.pI (by decide)
    have hB4 := BS_fr hB3 f4 (by decide)
    have hL4 := CLw_fr hL3 f4 (by decide)
    have hN4 : NR (sI M3 80 s (gI M3 80 s + nI (countS X.1 (L 0) L s))) X.1 (L 0) := fun s hs => by rw [f4.gi (by decide)]; exact hN3 s hs
    have b3 : ∀ t, t < 8 → gI (sI M3 80 s (gI M3 80 s + nI (countS X.1 (L 0) L s))) 80 t = nI (X.2.2.2 t + if t < s + 1 then countS X.1 (L 0) L t else 0) := fun t ht => by
      by_cases e : t = s
      · subst e
        rw [gI_eq, b2 t ht, if_neg (by omega), if_pos (by omega), nI_add]
        rfl
      · rw [gI_nk _ _ _ _ _ _ e, b2 t ht]
        by_cases d : t < s
        · rw [if_pos d, if_pos (by omega)]
        · rw [if_neg d, if_neg (by omega)]
    have head : ∀ f, fX6_countAll_l24 a (f + 1) M3 (nI s) = if bI (soupS X.1 L s) = 0 then fX6_countAll_l80 a (fun M28 y29 => fX6_countAll_l24 a f M28 (y29 + 1)) FU (sI M3 80 s (gI M3 80 s + nI (countS X.1 (L 0) L s))) (nI s) 0 else fX6_countAll_l24 a f (sI M3 80 s (gI M3 80 s + nI (countS X.1 (L 0) L s))) (nI (s + 1)) := fun f => by
      rw [fX6_countAll_l24.eq_2, hB3.1.2.2.2.2.2.1, le_f hs (by omega), gd_inb (by omega) (by decide), count_cls hB3.1 hN3 hL3 hs, bd_s, gd_inb (by omega) (by decide), ix_nI (by omega), bnd_r, gd_inb (by omega) (by decide), soup_cls hB4.1 hL4 hs, nI_1]
    cases hsp : soupS X.1 L s with
    | true =>
      refine ⟨(sI M3 80 s (gI M3 80 s + nI (countS X.1 (L 0) L s)), s + 1), ⟨rfl, hF.pI (by decide), fun p hp => ?_, b3⟩, fun _ f => ?_⟩
      · show gI (sI M3 80 s _) 79 p = _
        rw [gI_ne _ _ _ _ _ _ (by decide), b1 p hp, sumN]
        unfold txS
        rw [hsp, if_pos rfl, Nat.add_zero]
      · show fX6_countAll_l24 a (f + 1) M3 (nI s) = _
        rw [head f, hsp, bI_t, if_neg i10]
    | false =>
      obtain ⟨M5, ⟨d1, d2⟩, d3⟩ := tax_cls (bs := fun p => X.2.2.1 p + sumN (txS X.1 L p) s) hB4 hL4 hN4 hs (fun p hp => by rw [gI_ne _ _ _ _ _ _ (by decide)]; exact b1 p hp)
      refine ⟨(M5, s + 1), ⟨rfl, (hF.pI (by decide)).trans (d1.mono (by decide)), fun p hp => ?_, fun t ht => ?_⟩, fun _ f => ?_⟩
      · show gI M5 79 p = _
        rw [d2 p hp, sumN]
        have e : txS X.1 L p s = if nearB X.1 (L 0) s p then L 5 else 0 := by
          unfold txS
          rw [hsp, if_neg (by decide)]
        rw [e, ← Nat.add_assoc]
      · show gI M5 80 t = _
        rw [d1.gi (by decide)]; exact b3 t ht
      · show fX6_countAll_l24 a (f + 1) M3 (nI s) = _
        rw [head f, hsp, bI_f, if_pos rfl, nl0, d3, nI_1]
  · rintro ⟨M3, s2⟩ ⟨rfl, hF, b1, b2⟩
    refine ⟨M3, ⟨hF, b1, b2⟩, fun _ f => ?_⟩
    simp only [] at hF
    show fX6_countAll_l24 a (f + 1) M3 (nI (cS X.1)) = _
    rw [fX6_countAll_l24.eq_2, (BS_fr a7 hF (by decide)).1.2.2.2.2.2.1, le_t (Nat.le_refl _) (by omega)]
  · rw [a2.gi (by decide), gI_ne _ _ _ _ _ _ (by decide), h79 p hp]
    rfl
  · rw [a2.gi (by decide), gI_ne _ _ _ _ _ _ (by decide), h80 t ht, if_neg (Nat.not_lt_zero t)]
    rfl
theorem go_cls {M : MM} {a : Nat} {L : Nat → Nat} {X : PLS} (h : PC M a L X) (hX : PX X) {p d : Nat} (hp : p < cN X.1) (hd : d < 8) : match goS X p d with
    | none => fX6_go M (nI p) (nI d) = some (0, M)
    | some X2 => ∃ M2, fX6_go M (nI p) (nI d) = some (1, M2) ∧ Fr [62, 69, 74, 75, 76] M M2 ∧ PC M2 a L X2 := by
  obtain ⟨hB, hL, h62, h78, h79, h80⟩ := id h
  have hS := hB.1.1
  have hn8 := hS.2.2.1
  obtain ⟨q, hq⟩ := hX.2.2 p hp
  have hin := hS.2.2.2.2.1 p q hp hq
  have e62 := h62 p q hp hq
  have hl := sqC_lt hS.1.2 hS.2.1.2 hin
  have head : fX6_go M (nI p) (nI d) = (if cqI (cW X.1) (stepP (cW X.1) (cH X.1) q d) = -1 then some (0, M) else (fX0_isFree M (cqI (cW X.1) (stepP (cW X.1) (cH X.1) q d))).bind (fun p8 => (if p8 = 0 then some (0, M) else (fX0_lay M (nI (sqC (cW X.1) q)) 0).bind (fun p11 => (fX0_lay p11 (cqI (cW X.1) (stepP (cW X.1) (cH X.1) q d)) (10 + nI p)).bind (fun p13 => gd (inb (nI p) 8) (bnd (sI p13 62 (ix (nI p)) (cqI (cW X.1) (stepP (cW X.1) (cH X.1) q d))) (fun M16 => some (1, M16)))))))) := by
    unfold fX6_go
    rw [hasPerson_yes hB.1.2.2.2.2.1 (by omega) hp, if_neg i10, gd_inb (by omega) (by decide), ix_nI (by omega), bnd_r, e62, stepF hB.1 hin hd, bd_s]
  rw [head]
  cases hs : stepP (cW X.1) (cH X.1) q d with
  | none =>
    have : goS X p d = none := by unfold goS; rw [hq]; simp only []; rw [hs]
    rw [this]
    simp only []
    rw [if_pos (show cqI (cW X.1) none = -1 from rfl)]
  | some q2 =>
    have hin2 := (stepP_in hS.1.2 hS.2.1.2 hs).1
    have hl2 := sqC_lt hS.1.2 hS.2.1.2 hin2
    have ho := onS_lt hS q2
    rw [show cqI (cW X.1) (some q2) = nI (sqC (cW X.1) q2) from rfl, m1_iff (by omega)]
    have free : fX0_isFree M (nI (sqC (cW X.1) q2)) = some (if onS X.1 q2 = 0 then 1 else 0) := by
      unfold fX0_isFree
      rw [gd_inb hl2 (by decide), ix_nI (by omega), hB.1.2.2.2.2.2.2.2.2.2 q2 hin2, nl0]
      by_cases c : onS X.1 q2 = 0
      · rw [eqn_t c, if_pos c]
      · rw [eqn_f c (by omega) (by decide), if_neg c]
    rw [free, bd_s]
    by_cases c : onS X.1 q2 = 0
    · have hg : goS X p d = some (setA X.1 p (some q2), X.2) := by unfold goS; rw [hq]; simp only []; rw [hs]; simp only []; rw [if_pos c]
      rw [hg]
      simp only []
      obtain ⟨M1, a1, a2, a3⟩ := lay_away hB hX.2.1 hp hq
      have hfr : onS (setA X.1 p none) q2 = 0 := by
        obtain ⟨f1, f2, f3⟩ := onS_free2 c
        refine onS_free (fun k hk z => ?_) f2 f3
        rw [setA_at] at z
        by_cases c2 : k = p
        · rw [if_pos c2] at z; cases z
        · rw [if_neg c2] at z; exact f1 k hk z
      obtain ⟨M2, b1, b2, b3⟩ := lay_put (S := setA X.1 p none) (p := p) (q := q2) a3 hp (by rw [setA_at, if_pos rfl]) hin2 hfr
      rw [setA_twice] at b3
      have f3 : Fr [62] M2 (sI M2 62 p (nI (sqC (cW X.1) q2))) := Fr.rfl.pI (by decide)
      have hF : Fr [62, 69, 74, 75, 76] M (sI M2 62 p (nI (sqC (cW X.1) q2))) := ((a2.mono (by decide)).trans (b2.mono (by decide))).trans (f3.mono (by decide))
      refine ⟨sI M2 62 p (nI (sqC (cW X.1) q2)), ?_, hF, BS_fr b3 f3 (by decide), CLw_fr hL hF (by decide), fun k x hk e => ?_, ?_, fun k hk => ?_, fun k hk => ?_⟩
      · rw [if_pos c, if_neg i10, a1, bd_s, nl10, nI_add]
        have b1' : fX0_lay M1 (nI (sqC (cW X.1) q2)) (nI (10 + p)) = some M2 := b1
        rw [b1', bd_s, gd_inb (by omega) (by decide), ix_nI (by omega), bnd_r]
      · show gI (sI M2 62 p (nI (sqC (cW X.1) q2))) 62 k = nI (sqC (cW X.1) x)
        have e : cAt (setA X.1 p (some q2)) k = some x := e
        rw [setA_at] at e
        by_cases c2 : k = p
        · rw [if_pos c2] at e
          cases e
          rw [c2, gI_eq]
        · rw [if_neg c2] at e
          rw [gI_nk _ _ _ _ _ _ c2, b2.gi (by decide), a2.gi (by decide)]
          exact h62 k x hk e
      · rw [f3.gi (by decide), b2.gi (by decide), a2.gi (by decide)]; exact h78
      · rw [f3.gi (by decide), b2.gi (by decide), a2.gi (by decide)]; exact h79 k hk
      · rw [f3.gi (by decide), b2.gi (by decide), a2.gi (by decide)]; exact h80 k hk
    · have hg : goS X p d = none := by unfold goS; rw [hq]; simp only []; rw [hs]; simp only []; rw [if_neg c]
      rw [hg]
      simp only []
      rw [if_neg c, if_pos rfl]
