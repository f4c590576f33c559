/-! ===== who is near, on the board ===== -/
/-- near by degree k is noted -/
def NR (M : MM) (S : SCN) (k : Nat) : Prop := ∀ s, s < cS S → gI M 70 s = nI (nearM S k s)
theorem widen_in {M : MM} {S : SCN} (hB : BS M S aT) {k s : Nat} (hN : NR M S k) (hs : s < cS S) (k67 : MM → Int32 → Int32 → Int32 → Option (Int32 × MM)) (y : Int32) : fX0_widen_l25 k67 FU M y (nI s) (nI (nearM S k s)) (nI 0) = k67 M y (nI s) (nI (nearM S (k + 1) s)) := by
  have hS := hB.1.1
  have h8 := hS.2.2.2.1
  have ll := lookN_lt hS s 8
  have h3 := hB.1.2.2.2.2.2.1
  have hl := (hB.2 s hs rfl).2.1
  have key := lpk (κ := Unit) (σ := Nat × Nat) (fun _ f st => fX0_widen_l25 k67 f M y (nI s) (nI st.2) (nI st.1)) (fun _ v => k67 M y (nI s) (nI v)) (cS S)
    (fun t st => t = st.1 ∧ st.2 = nearM S k s ||| orN (nearM S k) (fun t => (lookN S s 8).testBit t) t) (fun v => v = nearM S (k + 1) s) ?_ ?_ FU 0 (0, nearM S k s) (by omega) (by show _ < 5000; omega) ⟨rfl, by rw [orN, Nat.or_zero]⟩
  · obtain ⟨v, e, h⟩ := key
    rw [e] at h
    exact h ()
  · rintro t ⟨t2, v⟩ ht ⟨rfl, hv⟩
    left
    simp only [] at hv
    by_cases c : (lookN S s 8).testBit t = true
    · refine ⟨(t + 1, v ||| nearM S k t), ⟨rfl, ?_⟩, fun _ f => ?_⟩
      · show v ||| nearM S k t = _
        rw [orN, if_pos c, hv, Nat.or_assoc]
      · show fX0_widen_l25 k67 (f + 1) M y (nI s) (nI v) (nI t) = fX0_widen_l25 k67 f M y (nI s) (nI (v ||| nearM S k t)) (nI (t + 1))
        rw [fX0_widen_l25.eq_2, h3, le_f ht (by omega), gd_inb (by omega) (by decide), ix_nI (by omega), hl, bit_u0 (by omega) (by omega), if_pos c, gd_inb (by omega) (by decide), ix_nI (by omega), bnd_r, hN t ht, or_nI, nI_1]
    · refine ⟨(t + 1, v), ⟨rfl, ?_⟩, fun _ f => ?_⟩
      · show v = _
        rw [orN, if_neg c, hv]
      · show fX0_widen_l25 k67 (f + 1) M y (nI s) (nI v) (nI t) = fX0_widen_l25 k67 f M y (nI s) (nI v) (nI (t + 1))
        rw [fX0_widen_l25.eq_2, h3, le_f ht (by omega), gd_inb (by omega) (by decide), ix_nI (by omega), hl, bit_u0 (by omega) (by omega), if_neg c, nI_1]
  · rintro ⟨t2, v⟩ ⟨rfl, hv⟩
    refine ⟨v, hv, fun _ f => ?_⟩
    show fX0_widen_l25 k67 (f + 1) M y (nI s) (nI v) (nI (cS S)) = _
    rw [fX0_widen_l25.eq_2, h3, le_t (Nat.le_refl _) (by omega)]
theorem cpok_nI {n k : Nat} (h : n ≤ k) (hn : n < 2 ^ 31) : cpok (nI n) k = true := decide_eq_true ⟨nI_pos hn, by rw [show (nI n).toNatClampNeg = n from ix_nI hn]; exact h⟩
theorem widen_spec {M : MM} {S : SCN} (hB : BS M S aT) {k : Nat} (hN : NR M S k) : ∃ M2 r, fX0_widen M = some (r, M2) ∧ Fr [70, 77] M M2 ∧ NR M2 S (k + 1) ∧ ((r = 0 ∧ ∀ s, s < cS S → nearM S (k + 1) s = nearM S k s) ∨ (r = 1 ∧ ∃ s, s < cS S ∧ nearM S (k + 1) s ≠ nearM S k s)) := by
  have hS := hB.1.1
  have h8 := hS.2.2.2.1
  have key := lpk (κ := MM → Int32 → Option (Int32 × MM)) (σ := MM × Int32 × Nat) (fun k92 f st => fX0_widen_l4 k92 f st.1 st.2.1 (nI st.2.2)) (fun k92 (t : MM × Int32) => k92 t.1 t.2) (cS S)
    (fun i st => i = st.2.2 ∧ Fr [77] M st.1 ∧ (∀ t, t < i → gI st.1 77 t = nI (nearM S (k + 1) t)) ∧ ((st.2.1 = 0 ∧ ∀ t, t < i → nearM S (k + 1) t = nearM S k t) ∨ (st.2.1 = 1 ∧ ∃ t, t < i ∧ nearM S (k + 1) t ≠ nearM S k t)))
    (fun t => Fr [77] M t.1 ∧ (∀ s, s < cS S → gI t.1 77 s = nI (nearM S (k + 1) s)) ∧ ((t.2 = 0 ∧ ∀ s, s < cS S → nearM S (k + 1) s = nearM S k s) ∨ (t.2 = 1 ∧ ∃ s, s < cS S ∧ nearM S (k + 1) s ≠ nearM S k s))) ?_ ?_ FU 0 (M, 0, 0) (by omega) (by show _ < 5000; omega) ⟨rfl, Fr.rfl, fun t ht => absurd ht (Nat.not_lt_zero t), Or.inl ⟨rfl, fun t ht => absurd ht (Nat.not_lt_zero t)⟩⟩
  · obtain ⟨⟨M1, r⟩, ⟨h1, h2, h3⟩, h4⟩ := key
    simp only [] at h1 h2 h3
    have hB1 : BS M1 S aT := BS_fr hB h1 (by decide)
    have e61 : gI M1 61 3 = nI (cS S) := hB1.1.2.2.2.2.2.1
    refine ⟨cpI M1 77 70 0 0 (cS S), r, ?_, (h1.mono (by decide)).pC (by decide), fun s hs => ?_, h3⟩
    · unfold fX0_widen
      rw [nl0] at h4 ⊢
      rw [h4]
      rw [e61, gd_t (cpok_nI h8 (by omega)), ix_nI (by omega), bnd_r]
      rcases h3 with ⟨e, -⟩ | ⟨e, -⟩
      · rw [e]; rfl
      · rw [e]; rfl
    · rw [gI_cp_eq _ hs]
      exact h2 s hs
  · rintro i ⟨M1, y, i2⟩ hi ⟨rfl, hF, a1, a2⟩
    left
    simp only [] at hF a1 a2
    have hB1 : BS M1 S aT := BS_fr hB hF (by decide)
    have hN1 : NR M1 S k := fun s hs => by rw [hF.gi (by decide)]; exact hN s hs
    have l1 := nearM_lt hS (k + 1) i
    have l2 := nearM_lt hS k i
    have head : ∀ k92 f, fX0_widen_l4 k92 (f + 1) M1 y (nI i) = fX0_widen_l4 k92 f (sI M1 77 i (nI (nearM S (k + 1) i))) (if nearM S (k + 1) i = nearM S k i then y else 1) (nI (i + 1)) := fun k92 f => by
      rw [fX0_widen_l4.eq_2, hB1.1.2.2.2.2.2.1, le_f hi (by omega), gd_inb (by omega) (by decide), ix_nI (by omega), bnd_r, hN1 i hi, nl0, widen_in hB1 hN1 hi]
      rw [gd_inb (by omega) (by decide), ix_nI (by omega), bnd_r, gd_inb (by omega) (by decide), gI_ne _ _ _ _ _ _ (by decide), hN1 i hi, nI_1]
      by_cases e : nearM S (k + 1) i = nearM S k i
      · rw [eqn_t e, if_pos e]
      · rw [eqn_f e (by omega) (by omega), if_neg e]
    refine ⟨(sI M1 77 i (nI (nearM S (k + 1) i)), if nearM S (k + 1) i = nearM S k i then y else 1, i + 1), ⟨rfl, hF.pI (by decide), fun t ht => ?_, ?_⟩, head⟩
    · show gI (sI M1 77 i _) 77 t = _
      by_cases e : t = i
      · rw [e, gI_eq]
      · rw [gI_nk _ _ _ _ _ _ e]; exact a1 t (by omega)
    · show ((if nearM S (k + 1) i = nearM S k i then y else 1) = 0 ∧ _) ∨ ((if nearM S (k + 1) i = nearM S k i then y else 1) = 1 ∧ _)
      by_cases e : nearM S (k + 1) i = nearM S k i
      · rw [if_pos e]
        rcases a2 with ⟨b1, b2⟩ | ⟨b1, t, b2, b3⟩
        · refine Or.inl ⟨b1, fun t ht => ?_⟩
          by_cases e2 : t = i
          · rw [e2]; exact e
          · exact b2 t (by omega)
        · exact Or.inr ⟨b1, t, by omega, b3⟩
      · rw [if_neg e]
        exact Or.inr ⟨rfl, i, by omega, e⟩
  · rintro ⟨M1, y, i2⟩ ⟨rfl, hF, a1, a2⟩
    refine ⟨(M1, y), ⟨hF, a1, a2⟩, fun k92 f => ?_⟩
    simp only [] at hF
    show fX0_widen_l4 k92 (f + 1) M1 y (nI (cS S)) = _
    rw [fX0_widen_l4.eq_2, (BS_fr hB hF (by decide)).1.2.2.2.2.2.1, le_t (Nat.le_refl _) (by omega)]
theorem near_fix {S : SCN} {i : Nat} (h : ∀ s, s < cS S → nearM S (i + 1) s = nearM S i s) : ∀ j, i ≤ j → ∀ s, s < cS S → nearM S j s = nearM S i s := by
  intro j
  induction j with
  | zero => intro hj s hs; rw [show i = 0 by omega]
  | succ j ih =>
    intro hj s hs
    rcases Nat.lt_or_ge j i with c | c
    · rw [show i = j + 1 by omega]
    · have h1 := ih c
      have : nearM S (j + 1) s = nearM S (i + 1) s := by
        rw [nearM, nearM, h1 s hs, orN_cong (fun t ht => h1 t ht) (fun t _ => rfl)]
      rw [this]
      exact h s hs
theorem spread_first {M : MM} {S : SCN} (hB : BS M S aT) (y : Int32) : ∃ M2, (Fr [70, 77] M M2 ∧ NR M2 S 0) ∧ ∀ k31 : MM → Int32 → Option (Int32 × MM), fX0_spread_l2 k31 FU M y (nI 0) = k31 M2 y := by
  have hS := hB.1.1
  have h8 := hS.2.2.2.1
  refine lpk (κ := MM → Int32 → Option (Int32 × MM)) (σ := MM × Nat) (fun k f st => fX0_spread_l2 k f st.1 y (nI st.2)) (fun k M2 => k M2 y) (cS S)
    (fun i st => i = st.2 ∧ Fr [70, 77] M st.1 ∧ ∀ t, t < i → gI st.1 70 t = nI (nearM S 0 t)) _ ?_ ?_ FU 0 (M, 0) (by omega) (by show _ < 5000; omega) ⟨rfl, Fr.rfl, fun t ht => absurd ht (Nat.not_lt_zero t)⟩
  · rintro i ⟨M1, j⟩ hi ⟨rfl, hF, a1⟩
    left
    have hB1 : BS M1 S aT := BS_fr hB hF (by decide)
    refine ⟨(sI M1 70 i (nI (nearM S 0 i)), i + 1), ⟨rfl, hF.pI (by decide), fun t ht => ?_⟩, fun k f => ?_⟩
    · show gI (sI M1 70 i _) 70 t = _
      by_cases e : t = i
      · rw [e, gI_eq]
      · rw [gI_nk _ _ _ _ _ _ e]; exact a1 t (by omega)
    · show fX0_spread_l2 k (f + 1) M1 y (nI i) = fX0_spread_l2 k f (sI M1 70 i (nI (nearM S 0 i))) y (nI (i + 1))
      rw [fX0_spread_l2.eq_2, hB1.1.2.2.2.2.2.1, le_f hi (by omega), gd_inb (by omega) (by decide), gd_inb (by omega) (by decide), ix_nI (by omega), bnd_r, (hB1.2 i hi rfl).1, nI_1]
      rfl
  · rintro ⟨M1, j⟩ ⟨rfl, hF, a1⟩
    refine ⟨M1, ⟨hF, a1⟩, fun k f => ?_⟩
    show fX0_spread_l2 k (f + 1) M1 y (nI (cS S)) = _
    rw [fX0_spread_l2.eq_2, (BS_fr hB hF (by decide)).1.2.2.2.2.2.1, le_t (Nat.le_refl _) (by omega)]
theorem spread_spec {M : MM} {S : SCN} (hB : BS M S aT) {c : Nat} (hc : c < 1000) : ∃ M2 r, fX0_spread M (nI c) = some (nI r, M2) ∧ Fr [70, 77] M M2 ∧ NR M2 S c ∧ r ≤ c ∧ (∀ s, s < cS S → nearM S r s = nearM S c s) ∧ (∀ j, j < r → ∃ s, s < cS S ∧ nearM S (j + 1) s ≠ nearM S j s) ∧ BS M2 S aT := by
  obtain ⟨M1, ⟨a1, a2⟩, a3⟩ := spread_first hB (nI c)
  have key := lpk (κ := Unit) (σ := MM × Nat) (fun _ f st => fX0_spread_l33 f st.1 (nI c) (nI st.2)) (fun _ (t : MM × Nat) => some (nI t.2, t.1)) c
    (fun i st => i = st.2 ∧ Fr [70, 77] M st.1 ∧ NR st.1 S i ∧ ∀ j, j < i → ∃ s, s < cS S ∧ nearM S (j + 1) s ≠ nearM S j s)
    (fun t => Fr [70, 77] M t.1 ∧ NR t.1 S c ∧ t.2 ≤ c ∧ (∀ s, s < cS S → nearM S t.2 s = nearM S c s) ∧ ∀ j, j < t.2 → ∃ s, s < cS S ∧ nearM S (j + 1) s ≠ nearM S j s) ?_ ?_ FU 0 (M1, 0) (by omega) (by show _ < 5000; omega) ⟨rfl, a1, a2, fun j hj => absurd hj (Nat.not_lt_zero j)⟩
  · obtain ⟨⟨M2, r⟩, ⟨h1, h2, h3, h4, h5⟩, h6⟩ := key
    refine ⟨M2, r, ?_, h1, h2, h3, h4, h5, BS_fr hB h1 (by decide)⟩
    unfold fX0_spread
    rw [nl0, a3]
    exact h6 ()
  · rintro i ⟨M2, j⟩ hi ⟨rfl, hF, b1, b2⟩
    simp only [] at hF b1
    obtain ⟨M3, r, c1, c2, c3, c4⟩ := widen_spec (BS_fr hB hF (by decide)) b1
    have head : ∀ f, fX0_spread_l33 (f + 1) M2 (nI c) (nI i) = if r = 0 then some (nI i, M3) else fX0_spread_l33 f M3 (nI c) (nI (i + 1)) := fun f => by
      rw [fX0_spread_l33.eq_2, le_f hi (by omega), c1, bd_s, nI_1]
    rcases c4 with ⟨e, d⟩ | ⟨e, d⟩
    · refine Or.inr ⟨(M3, i), ⟨hF.trans c2, fun s hs => ?_, by show i ≤ c; omega, fun s hs => (near_fix d c (by omega) s hs).symm, b2⟩, fun _ f => ?_⟩
      · show gI M3 70 s = _
        rw [c3 s hs, d s hs, near_fix d c (by omega) s hs]
      · show fX0_spread_l33 (f + 1) M2 (nI c) (nI i) = _
        rw [head f, if_pos e]
    · refine Or.inl ⟨(M3, i + 1), ⟨rfl, hF.trans c2, c3, fun j hj => ?_⟩, fun _ f => ?_⟩
      · by_cases e2 : j = i
        · rw [e2]; exact d
        · exact b2 j (by omega)
      · show fX0_spread_l33 (f + 1) M2 (nI c) (nI i) = _
        rw [head f, if_neg (by rw [e]; decide)]
  · rintro ⟨M2, j⟩ ⟨rfl, hF, b1, b2⟩
    refine ⟨(M2, c), ⟨hF, b1, Nat.le_refl _, fun _ _ => rfl, b2⟩, fun _ f => ?_⟩
    show fX0_spread_l33 (f + 1) M2 (nI c) (nI c) = _
    rw [fX0_spread_l33.eq_2, le_t (Nat.le_refl _) (by omega)]
theorem degreeOf_spec {M : MM} {S : SCN} (hB : BS M S aT) {s p : Nat} (hs : s < cS S) (hp : p < 8) : ∃ M2, fX0_degreeOf M (nI s) (nI p) = some ((if dgN S s p = 99 then -1 else nI (dgN S s p)), M2) ∧ Fr [70, 77] M M2 := by
  have hS := hB.1.1
  have h8 := hS.2.2.2.1
  obtain ⟨M1, r, a1, a2, a3, -, -, -, a7⟩ := spread_spec hB (c := 0) (by decide)
  have key := lpk (κ := Unit) (σ := MM × Nat) (fun _ f st => fX0_degreeOf_l8 f st.1 (nI s) (nI p) (nI st.2)) (fun _ (t : MM × Int32) => some (t.2, t.1)) 8
    (fun i st => i = st.2 ∧ Fr [70, 77] M st.1 ∧ NR st.1 S i ∧ ∀ j, j < i → (nearM S j s).testBit p = false)
    (fun t => Fr [70, 77] M t.1 ∧ t.2 = if dgN S s p = 99 then -1 else nI (dgN S s p)) ?_ ?_ FU 0 (M1, 0) (by omega) (by decide) ⟨rfl, a2, a3, fun j hj => absurd hj (Nat.not_lt_zero j)⟩
  · obtain ⟨⟨M2, v⟩, ⟨h1, h2⟩, h3⟩ := key
    simp only [] at h1 h2
    refine ⟨M2, ?_, h1⟩
    unfold fX0_degreeOf
    rw [nl0, a1, bd_s, ← h2]
    exact h3 ()
  · rintro i ⟨M2, j⟩ hi ⟨rfl, hF, b1, b2⟩
    simp only [] at hF b1
    have ll := nearM_lt hS i s
    have head : ∀ f, fX0_degreeOf_l8 (f + 1) M2 (nI s) (nI p) (nI i) = if (nearM S i s).testBit p then some (nI i, M2) else (fX0_widen M2).bind (fun p10 => fX0_degreeOf_l8 f p10.2 (nI s) (nI p) (nI (i + 1))) := fun f => by
      rw [fX0_degreeOf_l8.eq_2, nl8, le_f hi (by decide), gd_inb (by omega) (by decide), ix_nI (by omega), b1 s hs, bit_u0 (by omega) (by omega), nI_1]
    by_cases c : (nearM S i s).testBit p = true
    · refine Or.inr ⟨(M2, nI i), ⟨hF, ?_⟩, fun _ f => ?_⟩
      · have e : dgN S s p = i := by
          unfold dgN
          rw [fstN_some hi b2 c]
          rfl
        show nI i = _
        rw [e, if_neg (by omega)]
      · show fX0_degreeOf_l8 (f + 1) M2 (nI s) (nI p) (nI i) = _
        rw [head f, if_pos c]
    · obtain ⟨M3, r2, c1, c2, c3, -⟩ := widen_spec (BS_fr hB hF (by decide)) b1
      refine Or.inl ⟨(M3, i + 1), ⟨rfl, hF.trans c2, c3, fun j hj => ?_⟩, fun _ f => ?_⟩
      · by_cases e2 : j = i
        · rw [e2]
          cases z : (nearM S i s).testBit p with
          | true => exact absurd z c
          | false => rfl
        · exact b2 j (by omega)
      · show fX0_degreeOf_l8 (f + 1) M2 (nI s) (nI p) (nI i) = _
        rw [head f, if_neg c, c1, bd_s]
  · rintro ⟨M2, j⟩ ⟨rfl, hF, b1, b2⟩
    refine ⟨(M2, -1), ⟨hF, ?_⟩, fun _ f => ?_⟩
    · have e : dgN S s p = 99 := by
        unfold dgN
        rw [fstN_none b2]
        rfl
      show -1 = _
      rw [e, if_pos rfl]
    · show fX0_degreeOf_l8 (f + 1) M2 (nI s) (nI p) (nI 8) = _
      rw [fX0_degreeOf_l8.eq_2, nl8, le_t (Nat.le_refl _) (by decide)]
/-! ===== a call on a parish: both sides begun ===== -/
theorem fr_MT {M M2 : MM} {o : Nat} {T : TOLD} {L : List Nat} (hW : TW T) (h : MT M o T) (hF : Fr L M M2) (h91 : 91 ∉ L) : MT M2 o T := MT_congr hW h (fun i _ => hF.gi h91 _)
