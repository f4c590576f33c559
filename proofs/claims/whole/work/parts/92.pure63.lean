/-! ===== text: the reference's state ===== -/
def RSm (M : MM) (tp : Nat → Nat) (len : Nat) (σ : RST) : Prop := TPm M tp len ∧ TKm M tp len σ.1 ∧ σ.1 ≤ len ∧ gI M 91 5 = nI σ.2.1 ∧ gI M 91 6 = σ.2.2 ∧ gI M 90 8 = (if σ.2.1 = 1 then 1 else 0) ∧ σ.2.1 < 6
/-- places marked lie before -/
def PLC (q : Nat) (σ : RST) : Prop := σ.2.1 ≠ 0 → σ.2.1 ≠ 1 → ∃ i, i < q ∧ σ.2.2 = nI i
theorem PLC_ge {q q2 : Nat} {σ : RST} (h : PLC q σ) (hq : q ≤ q2) : PLC q2 σ := fun h1 h2 => by
  obtain ⟨i, h3, h4⟩ := h h1 h2
  exact ⟨i, by omega, h4⟩
theorem PLC_mk {k q : Nat} {σ : RST} (h : PLC q σ) : PLC (q + 1) (mkF k q σ) := by
  unfold mkF
  by_cases c : σ.2.1 = 0
  · rw [if_pos c]; exact fun _ _ => ⟨q, Nat.lt_succ_self q, rfl⟩
  · rw [if_neg c]; exact PLC_ge h (Nat.le_succ q)
theorem PLC_rf {q : Nat} {σ : RST} : PLC q (rfF σ) := fun _ h => absurd rfl h
theorem PLC_mv {tp : Nat → Nat} {len q : Nat} {σ : RST} (h : PLC q σ) : PLC q (mvF tp len σ) := h
theorem tkK_lt {tp : Nat → Nat} {len s k : Nat} (h : tkK tp len s = k) (hk : k ≠ 0) : s < len := by
  rcases Nat.lt_or_ge s len with c | c
  · exact c
  · have := tkK_0 (tp := tp) (len := len) (s := s) |>.mpr (by omega)
    omega
theorem PLC_rd {tp : Nat → Nat} {len lo hi : Nat} {σ : RST} (h : PLC σ.1 σ) : PLC (rdS tp len lo hi σ).1 (rdS tp len lo hi σ) := by
  unfold rdS
  by_cases c : σ.2.1 = 1
  · rw [if_pos c]; exact h
  · rw [if_neg c]
    by_cases d : tkK tp len σ.1 = 2
    · have hs := tkK_lt d (by decide)
      rw [if_pos d]
      split
      · exact PLC_mv (PLC_ge h nxT_ge)
      · refine PLC_mv (PLC_ge (PLC_mk h) ?_)
        show σ.1 + 1 ≤ nxT tp len (mkF 2 σ.1 σ).1
        rw [mkF_1]; exact nxT_gt hs
    · rw [if_neg d]; exact PLC_rf
theorem PLC_st {tp : Nat → Nat} {len w : Nat} {σ : RST} (h : PLC σ.1 σ) : ∀ k, PLC (stK tp len w k σ).1 (stK tp len w k σ)
  | 0 => h
  | k + 1 => PLC_rd (PLC_st h k)
theorem PLC_end {tp : Nat → Nat} {len : Nat} {σ : RST} (h : PLC σ.1 σ) : PLC (endF tp len σ).1 (endF tp len σ) := by
  unfold endF
  split
  · exact h
  · split
    · exact PLC_mv (PLC_ge h nxT_ge)
    · exact PLC_rf
theorem PLC_l1 {tp : Nat → Nat} {len w : Nat} {D : DRF} {σ : RST} (hs : σ.1 < len) (h : PLC σ.1 σ) : PLC (ln1 tp len D w σ).1 (ln1 tp len D w σ) := by
  unfold ln1
  refine PLC_mv ?_
  show PLC (nxT tp len (ln0 D w σ).1) (ln0 D w σ)
  rw [ln0_1]
  unfold ln0
  split
  · exact PLC_ge (PLC_mk h) (nxT_gt hs)
  · exact PLC_ge h nxT_ge
theorem PLC_l3 {tp : Nat → Nat} {len w : Nat} {D : DRF} {σ : RST} (hs : σ.1 < len) (h : PLC σ.1 σ) : PLC (ln3 tp len D w σ).1 (ln3 tp len D w σ) := by
  have h2 : PLC (ln2 tp len D w σ).1 (ln2 tp len D w σ) := PLC_st (PLC_l1 hs h) _
  unfold ln3
  split
  · split
    · exact PLC_mv (PLC_ge h2 nxT_ge)
    · exact PLC_rf
  · exact h2
theorem PLC_ln {tp : Nat → Nat} {len x : Nat} {D : DRF} {σ : RST} (hs : σ.1 < len) (h : PLC σ.1 σ) : PLC (lnS tp len x D σ).1 (lnS tp len x D σ) := by
  unfold lnS
  split
  · exact PLC_end (PLC_l3 hs h)
  · exact PLC_rf
/-- what the reader of the reference may change beside the draft -/
def WR (M M2 : MM) : Prop := Fr [90, 91] M M2 ∧ (∀ k, k ∉ [3, 4, 5, 6, 7, 8] → gI M2 90 k = gI M 90 k) ∧ ∀ k, k ≠ 5 → k ≠ 6 → gI M2 91 k = gI M 91 k
theorem WR.rfl {M : MM} : WR M M := ⟨Fr.rfl, fun _ _ => Eq.refl _, fun _ _ _ => Eq.refl _⟩
theorem WR.trans {M M1 M2 : MM} (h : WR M M1) (h2 : WR M1 M2) : WR M M2 := ⟨h.1.trans h2.1, fun k hk => (h2.2.1 k hk).trans (h.2.1 k hk), fun k h3 h4 => (h2.2.2 k h3 h4).trans (h.2.2 k h3 h4)⟩
theorem WR.of {M M2 : MM} (h : W90 [3, 4, 5, 6, 7] M M2) : WR M M2 := ⟨h.1.mono (by decide), fun k hk => h.2 k (fun q => hk (by simp at q ⊢; omega)), fun k _ _ => h.1.gi (by decide) k⟩
theorem TPm_wr {M M2 : MM} {tp : Nat → Nat} {len : Nat} (h : TPm M tp len) (hw : WR M M2) : TPm M2 tp len :=
  ⟨(hw.2.1 2 (by decide)).trans h.1, h.2.1, fun i hi => ⟨by rw [hw.2.2 _ (by omega) (by omega)]; exact (h.2.2 i hi).1, (h.2.2 i hi).2⟩⟩
theorem adv_RS {M : MM} {tp : Nat → Nat} {len : Nat} {σ : RST} (h : RSm M tp len σ) : ∃ M2, fX12_advance M = some M2 ∧ WR M M2 ∧ RSm M2 tp len (mvF tp len σ) := by
  obtain ⟨a1, a2, a3, a4, a5, a6, a7⟩ := h
  obtain ⟨M2, m1, m2, m3⟩ := adv_ref a1 a2.1 (tkE_le a3)
  exact ⟨M2, m1, WR.of m2, TPm_wr a1 (WR.of m2), m3, nxT_le a3, by rw [m2.1.gi (by decide)]; exact a4, by rw [m2.1.gi (by decide)]; exact a5, by rw [m2.2 8 (by decide)]; exact a6, a7⟩
theorem TKm_eq {M M2 : MM} {tp : Nat → Nat} {len s : Nat} (h : TKm M tp len s) (he : ∀ k, 3 ≤ k → k ≤ 7 → gI M2 90 k = gI M 90 k) : TKm M2 tp len s :=
  ⟨by rw [he _ (by decide) (by decide)]; exact h.1, by rw [he _ (by decide) (by decide)]; exact h.2.1, by rw [he _ (by decide) (by decide)]; exact h.2.2.1, fun z => by rw [he _ (by decide) (by decide)]; exact h.2.2.2.1 z, fun z => by rw [he _ (by decide) (by decide)]; exact h.2.2.2.2 z⟩
theorem ends_RS {M : MM} {tp : Nat → Nat} {len : Nat} {σ : RST} (h : RSm M tp len σ) : ∃ M2, fX12_ends M = some M2 ∧ WR M M2 ∧ RSm M2 tp len (if σ.2.1 = 1 then σ else rfF σ) := by
  obtain ⟨a1, a2, a3, a4, a5, a6, a7⟩ := id h
  unfold fX12_ends
  rw [a6]
  by_cases c : σ.2.1 = 1
  · rw [if_pos c, if_pos c, if_neg i10]
    exact ⟨M, rfl, WR.rfl, h⟩
  · rw [if_neg c, if_neg c, if_pos rfl]
    have hw : WR M (sI (sI (sI M 90 8 1) 91 5 1) 91 6 (nI σ.1)) := ⟨((Fr.rfl.pI (by decide)).pI (by decide)).pI (by decide), fun k hk => by
      rw [gI_ne _ _ _ _ _ _ (by decide), gI_ne _ _ _ _ _ _ (by decide), gI_nk _ _ _ _ _ _ (fun e => hk (by rw [e]; decide))], fun k h1 h2 => by
      rw [gI_nk _ _ _ _ _ _ h2, gI_nk _ _ _ _ _ _ h1, gI_ne _ _ _ _ _ _ (by decide)]⟩
    refine ⟨_, ?_, hw, TPm_wr a1 hw, TKm_eq a2 (fun k h1 h2 => ?_), a3, ?_, ?_, ?_, (by decide : 1 < 6)⟩
    · simp only [bnd_r, show ix 5 = 5 by decide, show ix 6 = 6 by decide]
      rw [gI_ne _ _ _ _ _ _ (by decide), gI_nk _ _ _ _ _ _ (by decide), a2.2.1]
    · rw [gI_ne _ _ _ _ _ _ (by decide), gI_ne _ _ _ _ _ _ (by decide), gI_nk _ _ _ _ _ _ (by omega)]
    · rw [gI_nk _ _ _ _ _ _ (by decide), gI_eq]; rfl
    · rw [gI_eq]; rfl
    · rw [gI_ne _ _ _ _ _ _ (by decide), gI_ne _ _ _ _ _ _ (by decide), gI_eq]; rfl
theorem also_RS {M : MM} {tp : Nat → Nat} {len k q : Nat} {σ : RST} (h : RSm M tp len σ) (h1 : σ.2.1 ≠ 1) (hk : 1 < k ∧ k < 6) (hq : q < 2 ^ 31) (hp : PLC q σ) : ∃ M2, fX12_also M (nI k) (nI q) = some M2 ∧ WR M M2 ∧ RSm M2 tp len (mkF k q σ) := by
  obtain ⟨a1, a2, a3, a4, a5, a6, a7⟩ := id h
  unfold fX12_also mkF
  rw [a6, if_neg h1, if_pos rfl, show ix 5 = 5 by decide, show ix 6 = 6 by decide, a4, a5]
  by_cases c : σ.2.1 = 0
  · rw [eqz_t c, if_pos c]
    have hw : WR M (sI (sI M 91 5 (nI k)) 91 6 (nI q)) := ⟨(Fr.rfl.pI (by decide)).pI (by decide), fun k hk => by
      rw [gI_ne _ _ _ _ _ _ (by decide), gI_ne _ _ _ _ _ _ (by decide)], fun k h1 h2 => by
      rw [gI_nk _ _ _ _ _ _ h2, gI_nk _ _ _ _ _ _ h1]⟩
    refine ⟨sI (sI M 91 5 (nI k)) 91 6 (nI q), rfl, hw, TPm_wr a1 hw, TKm_eq a2 (fun k h1 h2 => ?_), a3, ?_, ?_, ?_, hk.2⟩
    · rw [gI_ne _ _ _ _ _ _ (by decide), gI_ne _ _ _ _ _ _ (by decide)]
    · rw [gI_nk _ _ _ _ _ _ (by decide), gI_eq]
    · rw [gI_eq]
    · rw [gI_ne _ _ _ _ _ _ (by decide), gI_ne _ _ _ _ _ _ (by decide), a6, if_neg h1, if_neg (show ¬ k = 1 by omega)]
  · obtain ⟨i, i1, i2⟩ := hp c h1
    rw [eqz_f (by omega) (by omega), if_neg c, i2, lt_t i1 (by omega)]
    exact ⟨M, rfl, WR.rfl, h⟩
theorem isIn_n {v lo hi : Nat} (hv : v < 1000) (hl : lo < 1000) (hh : hi < 1000) : fX12_isIn (nI v) (nI lo) (nI hi) = if lo ≤ v ∧ v ≤ hi then 1 else 0 := by
  by_cases c : lo ≤ v ∧ v ≤ hi
  · rw [if_pos c, isIn_t (nI_nlt c.1 (by omega)) (nI_nlt c.2 (by omega))]
  · rw [if_neg c, isIn_f]
    by_cases d : v < lo
    · exact Or.inl (nI_lt d (by omega))
    · exact Or.inr (nI_lt (by omega) (by omega))
theorem rk_2 {tp : Nat → Nat} {len s : Nat} (z : tkK tp len s ≠ 2) : rkN tp len s ≠ 1 := fun e => z (rk_1 e)
theorem rkN_5 (tp : Nat → Nat) (len s : Nat) : rkN tp len s < 5 := by unfold rkN; split <;> (try split) <;> (try split) <;> (try split) <;> omega
theorem num_RS {M : MM} {tp : Nat → Nat} {len lo hi : Nat} {σ : RST} (h : RSm M tp len σ) (hp : PLC σ.1 σ) (hl : lo < 1000) (hh : hi < 1000) : ∃ M2, fX12_numbered M (nI lo) (nI hi) = some (nI (rdV tp len lo hi σ), M2) ∧ WR M M2 ∧ RSm M2 tp len (rdS tp len lo hi σ) := by
  obtain ⟨a1, a2, a3, a4, a5, a6, a7⟩ := id h
  have hr5 := rkN_5 tp len σ.1
  have h600 := a1.2.1
  unfold fX12_numbered fX12_numbered_j15 fX12_numbered_j44 rdV rdS
  rw [a6]
  by_cases c : σ.2.1 = 1
  · rw [if_pos c, if_pos c, if_pos c, if_neg i10]
    obtain ⟨M2, m1, m2, m3⟩ := ends_RS h
    rw [if_pos c] at m3
    exact ⟨M2, by rw [m1]; rfl, m2, m3⟩
  · rw [if_neg c, if_neg c, if_neg c, if_pos rfl, a2.2.2.1]
    by_cases d : tkK tp len σ.1 = 2
    · have hr := (tkK_2 d).2.2.2.2.2
      have hv : gI M 90 6 = nI (dvT tp len σ.1) := a2.2.2.2.1 hr
      have hv100 := dvT_100 d
      rw [if_pos d, if_pos d, hr, if_pos (show nI 1 = 1 from rfl), bnd_r, hv, isIn_n (by omega) hl hh]
      by_cases e : lo ≤ dvT tp len σ.1 ∧ dvT tp len σ.1 ≤ hi
      · obtain ⟨M2, m1, m2, m3⟩ := adv_RS h
        rw [if_pos e, if_pos e, if_pos e, if_neg i10, m1, bd_s, if_neg i10]
        exact ⟨M2, rfl, m2, m3⟩
      · obtain ⟨M2, m1, m2, m3⟩ := also_RS (k := 2) (q := σ.1) h c (by decide) (by omega) hp
        obtain ⟨M3, n1, n2, n3⟩ := adv_RS m3
        rw [if_neg e, if_neg e, if_neg e, if_pos rfl, a2.2.1, show (2 : Int32) = nI 2 from rfl, m1, bd_s, n1, bd_s, if_pos rfl]
        exact ⟨M3, rfl, m2.trans n2, n3⟩
    · obtain ⟨M2, m1, m2, m3⟩ := ends_RS h
      rw [if_neg c] at m3
      rw [if_neg d, if_neg d, nl1, eqn_f (rk_2 d) (by omega) (by decide), m1]
      exact ⟨M2, rfl, m2, m3⟩
theorem rk_3 {tp : Nat → Nat} {len s : Nat} : rkN tp len s = 3 ↔ tkK tp len s = 1 ∧ wcT tp len s ≠ 99 := by
  unfold rkN tkK
  by_cases c : s < len
  · rw [if_pos c, if_pos c]
    cases el : isLb (tp s) with
    | true =>
      rw [if_pos rfl, if_pos rfl]
      by_cases d : wcT tp len s = 99
      · rw [if_pos d]; exact ⟨fun z => by omega, fun z => absurd d z.2⟩
      · rw [if_neg d]; exact ⟨fun _ => ⟨rfl, d⟩, fun _ => rfl⟩
    | false =>
      rw [if_neg Bool.false_ne_true, if_neg Bool.false_ne_true]
      constructor
      · intro z; split at z <;> (try split at z) <;> omega
      · rintro ⟨z, -⟩; split at z <;> (try split at z) <;> omega
  · rw [if_neg c, if_neg c]; exact ⟨fun z => by omega, fun z => by omega⟩
theorem rk_s {tp : Nat → Nat} {len s : Nat} : rkN tp len s = 2 ↔ tkK tp len s = 3 := by
  unfold rkN tkK
  by_cases c : s < len
  · rw [if_pos c, if_pos c]
    cases el : isLb (tp s) with
    | true =>
      rw [if_pos rfl, if_pos rfl]
      exact ⟨fun z => by split at z <;> omega, fun z => by omega⟩
    | false =>
      rw [if_neg Bool.false_ne_true, if_neg Bool.false_ne_true]
      cases ed : isDb (tp s) with
      | true =>
        rw [if_pos rfl, if_pos rfl]
        exact ⟨fun z => by split at z <;> omega, fun z => by split at z <;> omega⟩
      | false =>
        rw [if_neg Bool.false_ne_true, if_neg Bool.false_ne_true]
        by_cases d : tp s = 59
        · rw [if_pos d, if_pos d]; exact ⟨fun _ => rfl, fun _ => rfl⟩
        · rw [if_neg d, if_neg d]; exact ⟨fun z => by omega, fun z => by omega⟩
  · rw [if_neg c, if_neg c]; exact ⟨fun z => by omega, fun z => by omega⟩
theorem takes_RS {M : MM} {tp : Nat → Nat} {len a b : Nat} {σ : RST} (h : RSm M tp len σ) (h1 : σ.2.1 ≠ 1) (ha : a < 99) (hb : b < 99) : ∃ M2, WR M M2 ∧ ((fX12_takes M (nI a) (nI b) = some (nI (wcT tp len σ.1), M2) ∧ (tkK tp len σ.1 = 1 ∧ a ≤ wcT tp len σ.1 ∧ wcT tp len σ.1 ≤ b) ∧ RSm M2 tp len (mvF tp len σ)) ∨ (fX12_takes M (nI a) (nI b) = some (0, M2) ∧ ¬ (tkK tp len σ.1 = 1 ∧ a ≤ wcT tp len σ.1 ∧ wcT tp len σ.1 ≤ b) ∧ RSm M2 tp len (rfF σ))) := by
  obtain ⟨a1, a2, a3, a4, a5, a6, a7⟩ := id h
  have hr5 := rkN_5 tp len σ.1
  have hwc := wcT_le tp len σ.1
  unfold fX12_takes fX12_takes_j27
  rw [a6, if_neg h1, if_pos rfl, a2.2.2.1]
  obtain ⟨M2, m1, m2, m3⟩ := ends_RS h
  rw [if_neg h1] at m3
  by_cases c : rkN tp len σ.1 = 3
  · have e7 := a2.2.2.2.2 c
    obtain ⟨k1, k2⟩ := rk_3.mp c
    rw [c, if_pos (show nI 3 = 3 from rfl), e7, isIn_n (by omega) (by omega) (by omega)]
    by_cases d : a ≤ wcT tp len σ.1 ∧ wcT tp len σ.1 ≤ b
    · obtain ⟨M3, n1, n2, n3⟩ := adv_RS h
      rw [if_pos d, if_neg i10, bnd_r, n1, bd_s]
      exact ⟨M3, n2, Or.inl ⟨rfl, ⟨k1, d⟩, n3⟩⟩
    · rw [if_neg d, if_pos rfl, m1, bd_s]
      exact ⟨M2, m2, Or.inr ⟨rfl, fun z => d z.2, m3⟩⟩
  · rw [nl3, eqn_f c (by omega) (by decide), m1, bd_s]
    exact ⟨M2, m2, Or.inr ⟨rfl, fun z => c (rk_3.mpr ⟨z.1, by omega⟩), m3⟩⟩
theorem eline_RS {M : MM} {tp : Nat → Nat} {len : Nat} {σ : RST} (h : RSm M tp len σ) : ∃ M2, fX12_endsLine M = some M2 ∧ WR M M2 ∧ RSm M2 tp len (endF tp len σ) := by
  obtain ⟨a1, a2, a3, a4, a5, a6, a7⟩ := id h
  have hr5 := rkN_5 tp len σ.1
  obtain ⟨M2, m1, m2, m3⟩ := ends_RS h
  unfold fX12_endsLine fX12_endsLine_j22 endF
  rw [a6]
  by_cases c : σ.2.1 = 1
  · rw [if_pos c] at m3
    rw [if_pos c, if_pos c, if_neg i10, m1]
    exact ⟨M2, rfl, m2, m3⟩
  · rw [if_neg c] at m3
    rw [if_neg c, if_neg c, if_pos rfl, a2.2.2.1, nl2]
    by_cases d : tkK tp len σ.1 = 3
    · obtain ⟨M3, n1, n2, n3⟩ := adv_RS h
      rw [if_pos d, eqn_t (rk_s.mpr d), n1]
      exact ⟨M3, rfl, n2, n3⟩
    · rw [if_neg d, eqn_f (fun z => d (rk_s.mp z)) (by omega) (by decide), m1]
      exact ⟨M2, rfl, m2, m3⟩
