/-! ===== one more spoon ===== -/
def spo (S : SCN) (p q f : Nat) (h : Bool) : SCN := (cW S, cH S, cN S, cS S + 1, cWa S, cAt S, cNm S, fun k j => if k = cS S then (if j = 0 then 1 else if j = 1 then q else if j = 2 then f else if j = 3 then 9 else p) else cSh S k j, cSt S, fun k => if k = cS S then h else cHd S k)
theorem spo_sh (S : SCN) (p q f k j : Nat) (h : Bool) : cSh (spo S p q f h) k j = if k = cS S then (if j = 0 then 1 else if j = 1 then q else if j = 2 then f else if j = 3 then 9 else p) else cSh S k j := rfl
theorem spo_hd (S : SCN) (p q f k : Nat) (h : Bool) : cHd (spo S p q f h) k = if k = cS S then h else cHd S k := rfl
theorem spo_old (S : SCN) {p q f k j : Nat} {h : Bool} (hk : k ≠ cS S) : cSh (spo S p q f h) k j = cSh S k j := by rw [spo_sh, if_neg hk]
theorem spo_0 (S : SCN) (p q f : Nat) (h : Bool) : cSh (spo S p q f h) (cS S) 0 = 1 := by rw [spo_sh, if_pos rfl, if_pos rfl]
theorem spo_1 (S : SCN) (p q f : Nat) (h : Bool) : cSh (spo S p q f h) (cS S) 1 = q := by rw [spo_sh, if_pos rfl, if_neg (by decide), if_pos rfl]
theorem spo_2 (S : SCN) (p q f : Nat) (h : Bool) : cSh (spo S p q f h) (cS S) 2 = f := by rw [spo_sh, if_pos rfl, if_neg (by decide), if_neg (by decide), if_pos rfl]
theorem spo_3 (S : SCN) (p q f : Nat) (h : Bool) : cSh (spo S p q f h) (cS S) 3 = 9 := by rw [spo_sh, if_pos rfl, if_neg (by decide), if_neg (by decide), if_neg (by decide), if_pos rfl]
theorem spo_4 (S : SCN) (p q f : Nat) (h : Bool) : cSh (spo S p q f h) (cS S) 4 = p := by rw [spo_sh, if_pos rfl, if_neg (by decide), if_neg (by decide), if_neg (by decide), if_neg (by decide)]
theorem fstN_last {p : Nat → Bool} {n : Nat} (h : p n = false) : fstN p (n + 1) = fstN p n := by
  rw [fstN]
  cases fstN p n with
  | some k => rfl
  | none => simp only [h]; rfl
theorem spo_on (S : SCN) (p q f x : Nat) (h : Bool) (hx : h = true ∨ x ≠ q) : onS (spo S p q f h) x = onS S x := by
  have e : fstN (fun k => cSh (spo S p q f h) k 1 == x && !cHd (spo S p q f h) k) (cS S + 1) = fstN (fun k => cSh S k 1 == x && !cHd S k) (cS S) := by
    rw [fstN_last]
    · refine fstN_cong (fun k hk => ?_)
      rw [spo_old S (by omega), spo_hd, if_neg (by omega)]
    · rw [spo_1, spo_hd, if_pos rfl]
      rcases hx with hx | hx
      · rw [hx]; simp
      · have : (q == x) = false := by simp; exact fun z => hx z.symm
        rw [this, Bool.false_and]
  unfold onS
  show (match fstN (fun k => cAt S k == some x) (cN S) with
    | some k => 10 + k
    | none => match fstN (fun k => cSh (spo S p q f h) k 1 == x && !cHd (spo S p q f h) k) (cS S + 1) with
      | some k => 20 + k
      | none => if cWa S x then 1 else 0) = _
  rw [e]
  rfl
theorem spo_at {S : SCN} {p q f : Nat} (h0 : onS S q = 0) : onS (spo S p q f false) q = 20 + cS S := by
  obtain ⟨h1, h2, h3⟩ := onS_free2 h0
  refine onS_shine (S := spo S p q f false) (show cS S < cS S + 1 by omega) (spo_1 S p q f false) (by rw [spo_hd, if_pos rfl]) h1 (fun t ht e => ?_)
  rw [spo_old S (by omega)] at e
  rw [spo_hd, if_neg (by omega)]
  cases z : cHd S t with
  | true => rfl
  | false => exact absurd e (h2 t ht z)
theorem spo_SW {S : SCN} (hS : SW S) (h8 : cS S < 8) {p q f : Nat} (hp : p < 4) (hq : inP (cW S) (cH S) q) (hf : f < 8) (h : Bool) : SW (spo S p q f h) := by
  obtain ⟨h1, h2, h3, h4, h5, h6, h7⟩ := hS
  refine ⟨h1, h2, h3, by show cS S + 1 ≤ 8; omega, h5, h6, fun k hk => ?_⟩
  by_cases e : k = cS S
  · rw [e, spo_0, spo_1, spo_2, spo_3, spo_4]
    exact ⟨by decide, hq, hf, by decide, hp⟩
  · have hk : k < cS S + 1 := hk
    rw [spo_old S e, spo_old S e, spo_old S e, spo_old S e, spo_old S e]
    exact h7 k (by omega)
theorem spo_setF (S : SCN) (p q f g : Nat) (h : Bool) : setF (spo S p q f h) (cS S) g = spo S p q g h := by
  have : (fun k j => if k = cS S ∧ j = 2 then g else cSh (spo S p q f h) k j) = cSh (spo S p q g h) := by
    funext k j
    rw [spo_sh, spo_sh]
    by_cases e : k = cS S
    · rw [if_pos e, if_pos e]
      by_cases e2 : j = 2
      · rw [if_pos ⟨e, e2⟩, e2]; rfl
      · rw [if_neg (fun z => e2 z.2)]
        by_cases a0 : j = 0
        · rw [if_pos a0, if_pos a0]
        · by_cases a1 : j = 1
          · rw [if_neg a0, if_neg a0, if_pos a1, if_pos a1]
          · rw [if_neg a0, if_neg a0, if_neg a1, if_neg a1, if_neg e2, if_neg e2]
    · rw [if_neg e, if_neg e, if_neg (fun z => e z.1)]
  show (cW S, cH S, cN S, cS S + 1, cWa S, cAt S, cNm S, (fun k j => if k = cS S ∧ j = 2 then g else cSh (spo S p q f h) k j), cSt S, (fun k => if k = cS S then h else cHd S k)) = _
  rw [this]
  rfl
theorem spo_SE (S : SCN) (p q f : Nat) (h h2 : Bool) : SE (spo S p q f h) (spo S p q f h2) := ⟨rfl, rfl, rfl, rfl, rfl, rfl, rfl⟩
abbrev kO (S : SCN) : Nat → Bool := fun t => decide (t < cS S)
/-- the board with a spoon that may lie anywhere and is not laid yet -/
def SPB (M : MM) (S : SCN) (p f : Nat) : Prop := ∀ q, inP (cW S) (cH S) q → BS (sI M 65 (cS S) (nI (sqC (cW S) q))) (spo S p q f true) (kO S)
theorem spb_of {M : MM} {S : SCN} {p q f : Nat} (hS : SW S) (h8 : cS S < 8) (hp : p < 4) (hf : f < 8) (h : BS M (spo S p q f true) (kO S)) : SPB M S p f := by
  intro q2 hq2
  obtain ⟨hB, hL⟩ := h
  obtain ⟨-, b2, b3, b4, b5, b6, b7, b8, b9, b10⟩ := hB
  have g : ∀ c k, c ≠ 65 → gI (sI M 65 (cS S) (nI (sqC (cW S) q2))) c k = gI M c k := fun c k h => gI_ne _ _ _ _ _ _ h
  refine ⟨⟨spo_SW hS h8 hp hq2 hf true, ?_, ?_, ?_, ?_, ?_, ?_, ?_, fun k hk => ?_, fun x hx => ?_⟩, fun t ht hk => ?_⟩
  · unfold NX; simp only [g 60 _ (by decide), g 73 _ (by decide)]; exact b2
  · rw [g 61 _ (by decide)]; exact b3
  · rw [g 61 _ (by decide)]; exact b4
  · rw [g 61 _ (by decide)]; exact b5
  · rw [g 61 _ (by decide)]; exact b6
  · simp only [g 60 _ (by decide)]; exact b7
  · simp only [g 63 _ (by decide)]; exact b8
  · obtain ⟨t1, t2, t3, t4, t5⟩ := b9 k hk
    rw [g 64 _ (by decide), g 66 _ (by decide), g 67 _ (by decide), g 68 _ (by decide)]
    by_cases e : k = cS S
    · subst e
      rw [spo_0] at t1 ⊢
      rw [spo_2] at t3 ⊢
      rw [spo_3] at t4 ⊢
      rw [spo_4] at t5 ⊢
      rw [spo_1]
      exact ⟨t1, gI_eq _ _ _ _, t3, t4, t5⟩
    · rw [spo_old S e] at t1 t2 t3 t4 t5 ⊢
      rw [spo_old S e, spo_old S e, spo_old S e, spo_old S e, gI_nk _ _ _ _ _ _ e]
      exact ⟨t1, t2, t3, t4, t5⟩
  · rw [g 69 _ (by decide)]
    have := b10 x hx
    rw [spo_on S p q f x true (Or.inl rfl)] at this
    rw [spo_on S p q2 f x true (Or.inl rfl)]
    exact this
  · have hk2 := of_decide_eq_true hk
    have h1 := hL t ht hk
    have h2 := BL_of (M2 := sI M 65 (cS S) (nI (sqC (cW S) q2))) h1 (g 74 _ (by decide)) (g 75 _ (by decide)) rfl
    exact BL_cong h2 rfl rfl (fun x => by rw [spo_on S p q2 f x true (Or.inl rfl), spo_on S p q f x true (Or.inl rfl)]) rfl (fun j _ => by rw [spo_old S (by omega), spo_old S (by omega)])
theorem spoon_add {M : MM} {S : SCN} {p : Nat} (hB : BS M S aT) (h8 : cS S < 8) (hp : p < 4) (hst : cSt S (cS S) = cSt S (cS S)) (hfc : ∃ f : Nat, f < 8 ∧ gI M 66 (cS S) = nI f) : ∃ M2 f, fX0_addSpoon M (nI p) = some (nI (cS S), M2) ∧ Fr [61, 64, 67, 68, 76] M M2 ∧ f < 8 ∧ SPB M2 S p f := by
  obtain ⟨f, hf, ef⟩ := hfc
  have hS := hB.1.1
  obtain ⟨-, b2, b3, b4, b5, b6, b7, b8, b9, b10⟩ := hB.1
  let M1 := sI (sI (sI (sI M 64 (cS S) 1) 67 (cS S) 9) 68 (cS S) (nI p)) 61 3 (nI (cS S) + 1)
  have hF : Fr [61, 64, 67, 68, 76] M (sL M1 76 (cS S) 0) := ((((Fr.rfl.pI (by decide)).pI (by decide)).pI (by decide)).pI (by decide)).pL (by decide)
  have G : ∀ c k, c ≠ 61 → c ≠ 64 → c ≠ 67 → c ≠ 68 → gI (sL M1 76 (cS S) 0) c k = gI M c k := fun c k h1 h2 h3 h4 => by
    rw [gI_sL]
    show gI (sI (sI (sI (sI M 64 (cS S) 1) 67 (cS S) 9) 68 (cS S) (nI p)) 61 3 (nI (cS S) + 1)) c k = _
    rw [gI_ne _ _ _ _ _ _ h1, gI_ne _ _ _ _ _ _ h4, gI_ne _ _ _ _ _ _ h3, gI_ne _ _ _ _ _ _ h2]
  have g61 : ∀ k, k ≠ 3 → gI (sL M1 76 (cS S) 0) 61 k = gI M 61 k := fun k h => by
    rw [gI_sL]
    show gI (sI (sI (sI (sI M 64 (cS S) 1) 67 (cS S) 9) 68 (cS S) (nI p)) 61 3 (nI (cS S) + 1)) 61 k = _
    rw [gI_nk _ _ _ _ _ _ h, gI_ne _ _ _ _ _ _ (by decide), gI_ne _ _ _ _ _ _ (by decide), gI_ne _ _ _ _ _ _ (by decide)]
  have g613 : gI (sL M1 76 (cS S) 0) 61 3 = nI (cS S + 1) := by
    rw [gI_sL]
    show gI (sI (sI (sI (sI M 64 (cS S) 1) 67 (cS S) 9) 68 (cS S) (nI p)) 61 3 (nI (cS S) + 1)) 61 3 = _
    rw [gI_eq, nI_1]
  have g64 : ∀ k, gI (sL M1 76 (cS S) 0) 64 k = if k = cS S then 1 else gI M 64 k := fun k => by
    rw [gI_sL]
    show gI (sI (sI (sI (sI M 64 (cS S) 1) 67 (cS S) 9) 68 (cS S) (nI p)) 61 3 (nI (cS S) + 1)) 64 k = _
    rw [gI_ne _ _ _ _ _ _ (by decide), gI_ne _ _ _ _ _ _ (by decide), gI_ne _ _ _ _ _ _ (by decide), gI_sI]
    simp
  have g67 : ∀ k, gI (sL M1 76 (cS S) 0) 67 k = if k = cS S then 9 else gI M 67 k := fun k => by
    rw [gI_sL]
    show gI (sI (sI (sI (sI M 64 (cS S) 1) 67 (cS S) 9) 68 (cS S) (nI p)) 61 3 (nI (cS S) + 1)) 67 k = _
    rw [gI_ne _ _ _ _ _ _ (by decide), gI_ne _ _ _ _ _ _ (by decide), gI_sI, gI_ne _ _ _ _ _ _ (by decide)]
    simp
  have g68 : ∀ k, gI (sL M1 76 (cS S) 0) 68 k = if k = cS S then nI p else gI M 68 k := fun k => by
    rw [gI_sL]
    show gI (sI (sI (sI (sI M 64 (cS S) 1) 67 (cS S) 9) 68 (cS S) (nI p)) 61 3 (nI (cS S) + 1)) 68 k = _
    rw [gI_ne _ _ _ _ _ _ (by decide), gI_sI, gI_ne _ _ _ _ _ _ (by decide), gI_ne _ _ _ _ _ _ (by decide)]
    simp
  refine ⟨sL M1 76 (cS S) 0, f, ?_, hF, hf, ?_⟩
  · unfold fX0_addSpoon
    rw [b6, bnd_r, nl8, lt_t h8 (by decide)]
    simp (disch := omega) only [gd_inb, ix_nI, bnd_r]
    rfl
  · have hw := hS.1
    intro q hq
    have g65 : ∀ c k, c ≠ 65 → gI (sI (sL M1 76 (cS S) 0) 65 (cS S) (nI (sqC (cW S) q))) c k = gI (sL M1 76 (cS S) 0) c k := fun c k h => gI_ne _ _ _ _ _ _ h
    refine ⟨⟨spo_SW hS h8 hp hq hf true, ?_, ?_, ?_, ?_, ?_, ?_, ?_, fun k hk => ?_, fun x hx => ?_⟩, fun t ht hk => ?_⟩
    · unfold NX
      simp only [g65 60 _ (by decide), g65 73 _ (by decide), G 60 _ (by decide) (by decide) (by decide) (by decide), G 73 _ (by decide) (by decide) (by decide) (by decide)]
      exact b2
    · rw [g65 61 _ (by decide), g61 _ (by decide)]; exact b3
    · rw [g65 61 _ (by decide), g61 _ (by decide)]; exact b4
    · rw [g65 61 _ (by decide), g61 _ (by decide)]; exact b5
    · rw [g65 61 _ (by decide)]; exact g613
    · simp only [g65 60 _ (by decide), G 60 _ (by decide) (by decide) (by decide) (by decide)]; exact b7
    · simp only [g65 63 _ (by decide), G 63 _ (by decide) (by decide) (by decide) (by decide)]; exact b8
    · rw [g65 64 _ (by decide), g65 66 _ (by decide), g65 67 _ (by decide), g65 68 _ (by decide), g64, g67, g68, G 66 _ (by decide) (by decide) (by decide) (by decide)]
      by_cases e : k = cS S
      · subst e
        rw [if_pos rfl, if_pos rfl, if_pos rfl, spo_0, spo_1, spo_2, spo_3, spo_4]
        exact ⟨rfl, gI_eq _ _ _ _, ef, rfl, rfl⟩
      · have hk : k < cS S + 1 := hk
        rw [if_neg e, if_neg e, if_neg e, spo_old S e, spo_old S e, spo_old S e, spo_old S e, spo_old S e, gI_nk _ _ _ _ _ _ e, G 65 _ (by decide) (by decide) (by decide) (by decide)]
        exact b9 k (by omega)
    · rw [g65 69 _ (by decide), G 69 _ (by decide) (by decide) (by decide) (by decide), spo_on S p q f x true (Or.inl rfl)]
      exact b10 x hx
    · have hk2 := of_decide_eq_true hk
      have h1 := hB.2 t hk2 rfl
      have h2 := BL_of (M2 := sI (sL M1 76 (cS S) 0) 65 (cS S) (nI (sqC (cW S) q))) h1 (by rw [g65 74 _ (by decide), G 74 _ (by decide) (by decide) (by decide) (by decide)]) (by rw [g65 75 _ (by decide), G 75 _ (by decide) (by decide) (by decide) (by decide)]) (by
        show gL (sL M1 76 (cS S) 0) 76 t = _
        rw [gL_sL, if_neg (fun z => by have := z.2; omega)]
        rfl)
      exact BL_cong h2 rfl rfl (fun x => spo_on S p q f x true (Or.inl rfl)) rfl (fun j _ => spo_old S (by omega))
theorem giv_b (tot L : Nat → Nat) (p : Nat) (hL : LWf L) (ht : ∀ p, tot p ≤ 64) : seatS tot L p ≤ 2000 := by
  unfold seatS
  split
  · omega
  · split
    · have := (quo_le (all := sumN tot 4) (ht p) hL.2.2.2.1.2).2.1
      split <;> omega
    · have := giv01_le tot (L 4) (L 3) p
      have := hL.2.2.2.1.2
      omega
def candN (S : SCN) (L : Nat → Nat) (p c : Nat) : Option Nat := if c / 8 < cW S * cH S ∧ onS S (sq8 (cW S) (c / 8)) = 0 then some (seatS (totS (spo S p (sq8 (cW S) (c / 8)) (c % 8) false) (L 0) L) L p) else none
theorem candN_le {S : SCN} (hS : SW S) (h8 : cS S < 8) {L : Nat → Nat} (hL : LWf L) {p : Nat} (hp : p < 4) : ∀ k v, candN S L p k = some v → v ≤ 2000 := fun k v h => by
  unfold candN at h
  by_cases c : k / 8 < cW S * cH S ∧ onS S (sq8 (cW S) (k / 8)) = 0
  · rw [if_pos c] at h
    cases h
    exact giv_b _ L p hL (fun p2 => totS_le (spo_SW hS h8 hp (sq8_inP (by have := hS.1.1; omega) hS.1.2 c.1) (by omega) false) _ _ _)
  · rw [if_neg c] at h; cases h
theorem foldB_b2 {fw : Bool} {cand : Nat → Option Nat} (hB : ∀ k v, cand k = some v → v ≤ 2000) {n : Nat} (hn : n < 5000) : ∀ x, foldB fw cand n = some x → x.1 < 5000 ∧ x.2 < 5000 := fun x h => by
  have := foldB_lt hB n x h
  omega
theorem spoon_in {M : MM} {S : SCN} {a1 al p c f0 : Nat} {L : Nat → Nat} (hS : SW S) (h8 : cS S < 8) (hp : p < 4) (hL : CLw M al L) (hc : c < cW S * cH S) (hz : onS S (sq8 (cW S) c) = 0) (hB : BS M (spo S p (sq8 (cW S) c) f0 false) (kO S)) (hbo : BO M (foldB false (candN S L p) (8 * c))) : ∃ M2, (Fr cL M M2 ∧ BS M2 (spo S p (sq8 (cW S) c) 7 false) aT ∧ BO M2 (foldB false (candN S L p) (8 * c + 8))) ∧ ∀ (k : MM → Int32 → Int32 → Int32 → Option MM), fX1_addSpoon_l91 a1 al k FU M (nI p) (nI (cS S)) (nI c) (nI 0) = k M2 (nI p) (nI (cS S)) (nI c) := by
  have h64 := wh_64 hS
  have hq : inP (cW S) (cH S) (sq8 (cW S) c) := sq8_inP (by have := hS.1.1; omega) hS.1.2 hc
  refine lpk (κ := MM → Int32 → Int32 → Int32 → Option MM) (σ := MM × Nat) (fun k f st => fX1_addSpoon_l91 a1 al k f st.1 (nI p) (nI (cS S)) (nI c) (nI st.2)) (fun k M2 => k M2 (nI p) (nI (cS S)) (nI c)) 8
    (fun g st => g = st.2 ∧ Fr cL M st.1 ∧ ((g = 0 ∧ BS st.1 (spo S p (sq8 (cW S) c) f0 false) (kO S)) ∨ (0 < g ∧ BS st.1 (spo S p (sq8 (cW S) c) (g - 1) false) aT)) ∧ BO st.1 (foldB false (candN S L p) (8 * c + g))) _ ?_ ?_ FU 0 (M, 0) (by omega) (by decide) ⟨rfl, Fr.rfl, Or.inl ⟨rfl, hB⟩, hbo⟩
  · rintro g ⟨M1, g2⟩ hg ⟨rfl, hF, b1, b2⟩
    left
    simp only [] at hF b1 b2
    obtain ⟨f1, K1, hB1, hK1⟩ : ∃ f1 K1, BS M1 (spo S p (sq8 (cW S) c) f1 false) K1 ∧ ∀ t, t < cS S → K1 t = true := by
      rcases b1 with ⟨-, h⟩ | ⟨-, h⟩
      · exact ⟨f0, kO S, h, fun t ht => decide_eq_true ht⟩
      · exact ⟨g - 1, aT, h, fun t _ => rfl⟩
    obtain ⟨M2, d1, d2, d3⟩ := face_spec hB1 (s := cS S) (show cS S < cS S + 1 by omega) hg
    rw [spo_setF] at d3
    have d3 := BS_K (K2 := aT) d3 (fun t ht _ => by
      have ht : t < cS S + 1 := ht
      by_cases e : t = cS S
      · rw [e]; simp
      · rw [hK1 t (by omega)]; rfl)
    obtain ⟨M3, f1', f2, f3⟩ := seats_cls d3 (CLw_fr (CLw_fr hL hF (by decide)) d2 (by decide)) hp
    have hv : seatS (totS (spo S p (sq8 (cW S) c) g false) (L 0) L) L p ≤ 2000 := giv_b _ L p hL.2.1 (fun p2 => totS_le d3.1.1 _ _ _)
    obtain ⟨M4, g1, g2, g3⟩ := offer_spec (BO_fr (BO_fr b2 d2 (by decide)) f2 (by decide)) (fw := false) (v := seatS (totS (spo S p (sq8 (cW S) c) g false) (L 0) L) L p) (w := 8 * c + g) (by omega) (by omega)
    have hcand : candN S L p (8 * c + g) = some (seatS (totS (spo S p (sq8 (cW S) c) g false) (L 0) L) L p) := by
      unfold candN
      rw [show (8 * c + g) / 8 = c by omega, show (8 * c + g) % 8 = g by omega, if_pos ⟨hc, hz⟩]
    refine ⟨(M4, g + 1), ⟨rfl, ((hF.trans (d2.mono (by decide))).trans (f2.mono (by decide))).trans (g2.mono (by decide)), Or.inr ⟨by omega, BS_fr f3 g2 (by decide)⟩, ?_⟩, fun k f => ?_⟩
    · show BO M4 (foldB false (candN S L p) (8 * c + g + 1))
      rw [foldB_some hcand]; exact g3
    · show fX1_addSpoon_l91 a1 al k (f + 1) M1 (nI p) (nI (cS S)) (nI c) (nI g) = _
      rw [fX1_addSpoon_l91.eq_2, nl8, le_f hg (by decide), d1, bd_s, f1', bd_s, pk_mul, nI_add]
      show (fX1_offer M3 _ (nI (8 * c + g)) (bI false)).bind _ = _
      rw [g1, bd_s, nI_1]
  · rintro ⟨M1, g2⟩ ⟨rfl, hF, b1, b2⟩
    have hB7 : BS M1 (spo S p (sq8 (cW S) c) 7 false) aT := by
      rcases b1 with ⟨z, -⟩ | ⟨-, h⟩
      · omega
      · exact h
    refine ⟨M1, ⟨hF, hB7, b2⟩, fun k f => ?_⟩
    show fX1_addSpoon_l91 a1 al k (f + 1) M1 (nI p) (nI (cS S)) (nI c) (nI 8) = _
    rw [fX1_addSpoon_l91.eq_2, nl8, le_t (Nat.le_refl _) (by decide)]
theorem spb_free {M : MM} {S : SCN} {p f : Nat} (hS : SW S) (h : SPB M S p f) {c : Nat} (hc : c < cW S * cH S) : fX0_squares M = nI (cW S * cH S) ∧ fX0_isFree M (nI c) = some (if onS S (sq8 (cW S) c) = 0 then 1 else 0) ∧ BN M := by
  have hq : inP (cW S) (cH S) (sq8 (cW S) c) := sq8_inP (by have := hS.1.1; omega) hS.1.2 hc
  have hb := h _ hq
  have h1 : fX0_squares (sI M 65 (cS S) (nI (sqC (cW S) (sq8 (cW S) c)))) = nI (cW S * cH S) := squares_spec (S := spo S p (sq8 (cW S) c) f true) hb.1
  have h2 : fX0_isFree (sI M 65 (cS S) (nI (sqC (cW S) (sq8 (cW S) c)))) (nI c) = some (if onS (spo S p (sq8 (cW S) c) f true) (sq8 (cW S) c) = 0 then 1 else 0) := isFree_spec (S := spo S p (sq8 (cW S) c) f true) hb.1 hc
  rw [spo_on S p _ f _ true (Or.inl rfl)] at h2
  refine ⟨?_, ?_, BN_congr (BS_BN hb) rfl rfl⟩
  · unfold fX0_squares at h1 ⊢
    rw [gI_ne _ _ _ _ _ _ (by decide), gI_ne _ _ _ _ _ _ (by decide)] at h1
    exact h1
  · unfold fX0_isFree at h2 ⊢
    rw [gI_ne _ _ _ _ _ _ (by decide)] at h2
    exact h2
theorem spoon_loop {M : MM} {S : SCN} {a1 al p f0 : Nat} {L : Nat → Nat} (hS : SW S) (h8 : cS S < 8) (hp : p < 4) (hL : CLw M al L) (hf0 : f0 < 8) (hB : SPB M S p f0) (hbo : BO M none) : ∃ M2, (Fr cL M M2 ∧ BN M2 ∧ BO M2 (foldB false (candN S L p) (8 * (cW S * cH S)))) ∧ ∀ _k : Unit, fX1_addSpoon_l32 a1 al FU M (nI p) (nI (cS S)) (nI 0) = some M2 := by
  have h64 := wh_64 hS
  have hw : 0 < cW S := by have := hS.1.1; omega
  have h0 : 0 < cW S * cH S := Nat.mul_pos hw (by have := hS.2.1.1; omega)
  refine lpk (κ := Unit) (σ := MM × Nat) (fun _ f st => fX1_addSpoon_l32 a1 al f st.1 (nI p) (nI (cS S)) (nI st.2)) (fun _ M2 => some M2) (cW S * cH S)
    (fun c st => c = st.2 ∧ Fr cL M st.1 ∧ (∃ f, f < 8 ∧ SPB st.1 S p f) ∧ BO st.1 (foldB false (candN S L p) (8 * c))) _ ?_ ?_ FU 0 (M, 0) (by omega) (by show _ < 5000; omega) ⟨rfl, Fr.rfl, ⟨f0, hf0, hB⟩, hbo⟩
  · rintro c ⟨M1, c2⟩ hc ⟨rfl, hF, ⟨f1, hf1, b1⟩, b2⟩
    left
    simp only [] at hF b1 b2
    have hq : inP (cW S) (cH S) (sq8 (cW S) c) := sq8_inP hw hS.1.2 hc
    have ec : sqC (cW S) (sq8 (cW S) c) = c := sqC_sq8 hw hS.1.2
    obtain ⟨esq, efr, -⟩ := spb_free hS b1 hc
    by_cases z : onS S (sq8 (cW S) c) = 0
    · have hb3 := b1 _ hq
      rw [ec] at hb3
      have f3 : Fr [65] M1 (sI M1 65 (cS S) (nI c)) := Fr.rfl.pI (by decide)
      obtain ⟨M4, d1, d2, d3⟩ := lay_spec (q := sq8 (cW S) c) (v := nI (20 + cS S)) hb3 (spo_SE S p (sq8 (cW S) c) f1 true false) (spo_SW hS h8 hp hq hf1 false) hq (fun x _ hx => by rw [spo_on S p _ f1 x false (Or.inr hx), spo_on S p _ f1 x true (Or.inl rfl)]) (by rw [spo_at z])
      have d1 : fX0_lay (sI M1 65 (cS S) (nI c)) (nI (sqC (cW S) (sq8 (cW S) c))) (nI (20 + cS S)) = some M4 := d1
      rw [ec] at d1
      have hF4 : Fr cL M M4 := (hF.trans (f3.mono (by decide))).trans (d2.mono (by decide))
      obtain ⟨M5, ⟨g1, g2, g3⟩, g4⟩ := spoon_in (a1 := a1) hS h8 hp (CLw_fr hL hF4 (by decide)) hc z d3 (BO_fr (BO_fr b2 f3 (by decide)) d2 (by decide))
      obtain ⟨M6, k1, k2, k3⟩ := lay_spec (q := sq8 (cW S) c) (v := 0) g2 (spo_SE S p (sq8 (cW S) c) 7 false true) (spo_SW hS h8 hp hq (by decide) true) hq (fun x _ hx => by rw [spo_on S p _ 7 x true (Or.inl rfl), spo_on S p _ 7 x false (Or.inr hx)]) (by rw [spo_on S p _ 7 _ true (Or.inl rfl), z]; rfl)
      have k1 : fX0_lay M5 (nI (sqC (cW S) (sq8 (cW S) c))) 0 = some M6 := k1
      rw [ec] at k1
      refine ⟨(M6, c + 1), ⟨rfl, (hF4.trans g1).trans (k2.mono (by decide)), ⟨7, by decide, spb_of hS h8 hp (by decide) (BS_K k3 (fun _ _ _ => rfl))⟩, ?_⟩, fun _ f => ?_⟩
      · show BO M6 (foldB false (candN S L p) (8 * (c + 1)))
        exact BO_fr g3 k2 (by decide)
      · show fX1_addSpoon_l32 a1 al (f + 1) M1 (nI p) (nI (cS S)) (nI c) = _
        rw [fX1_addSpoon_l32.eq_2, esq, le_f hc (by omega), efr, bd_s, if_pos z, if_neg i10, gd_inb h8 (by decide), ix_nI (by omega), bnd_r, nl20, nI_add, d1, bd_s]
        refine (g4 _).trans ?_
        rw [k1, bd_s, nI_1]
    · refine ⟨(M1, c + 1), ⟨rfl, hF, ⟨f1, hf1, b1⟩, ?_⟩, fun _ f => ?_⟩
      · show BO M1 (foldB false (candN S L p) (8 * (c + 1)))
        rw [foldB_skip (n := 8 * c) (8 * (c + 1)) (by omega) (fun k h1 h2 => by
          unfold candN
          rw [if_neg (fun q => z (by have := q.2; rw [show k / 8 = c by omega] at this; exact this))])]
        exact b2
      · show fX1_addSpoon_l32 a1 al (f + 1) M1 (nI p) (nI (cS S)) (nI c) = _
        rw [fX1_addSpoon_l32.eq_2, esq, le_f hc (by omega), efr, bd_s, if_neg z, if_pos rfl, nI_1]
  · rintro ⟨M1, c2⟩ ⟨rfl, hF, ⟨f1, hf1, b1⟩, b2⟩
    obtain ⟨esq, -, hbn⟩ := spb_free hS b1 h0
    refine ⟨M1, ⟨hF, hbn, b2⟩, fun _ f => ?_⟩
    show fX1_addSpoon_l32 a1 al (f + 1) M1 (nI p) (nI (cS S)) (nI (cW S * cH S)) = _
    rw [fX1_addSpoon_l32.eq_2, esq, le_t (Nat.le_refl _) (by omega)]
