/-! ===== text: the lines of the reference ===== -/
def RDx (x : Nat) (M : MM) (D : DRF) : Prop := if x = 0 then RDP M D.1 else if x = 1 then (∀ j, j < 6 → gI M 93 j = nI (D.2.1 j)) else if x = 2 then RDE M D.2.2.1 else (∀ j, j < 9 → gI M 93 j = nI (D.2.2.2 j))
def GDx (x : Nat) (M : MM) : Prop := if x = 0 then GDP M else if x = 2 then (∃ a, a ≤ 40 ∧ gI M 93 0 = nI a) else True
def lineF (x : Nat) (M : MM) : Option MM := if x = 0 then fX12_parishLine M else if x = 1 then fX12_lawLine M else if x = 2 then fX12_eveningLine M else fX12_sightLine M
theorem line_RS {M : MM} {tp : Nat → Nat} {len x : Nat} {D : DRF} {σ : RST} (hx : x < 4) (h : RSm M tp len σ) (h1 : σ.2.1 ≠ 1) (hp : PLC σ.1 σ) (hG : GDx x M) (hD : σ.2.1 = 0 → RDx x M D) :
    ∃ M2, lineF x M = some M2 ∧ WR2 M M2 ∧ RSm M2 tp len (lnS tp len x D σ) ∧ GDx x M2 ∧ ((lnS tp len x D σ).2.1 = 0 → RDx x M2 (lnD tp len x D σ)) := by
  rcases (show x = 0 ∨ x = 1 ∨ x = 2 ∨ x = 3 by omega) with rfl | rfl | rfl | rfl
  · exact parL_RS h h1 hp hG hD
  · obtain ⟨M2, m1, m2, m3, m4⟩ := lawL_RS (D := D) h h1 hp hD
    exact ⟨M2, m1, m2, m3, trivial, m4⟩
  · exact eveL_RS h h1 hp hG hD
  · obtain ⟨M2, m1, m2, m3, m4⟩ := sigL_RS (D := D) h h1 hp hD
    exact ⟨M2, m1, m2, m3, trivial, m4⟩
theorem rk_0 {tp : Nat → Nat} {len s : Nat} : rkN tp len s = 0 ↔ ¬ s < len := by
  unfold rkN
  by_cases c : s < len
  · rw [if_pos c]
    constructor
    · intro h; split at h <;> (try split at h) <;> (try split at h) <;> omega
    · intro h; exact absurd c h
  · rw [if_neg c]; exact ⟨fun _ => c, fun _ => rfl⟩
theorem loop_RS {tp : Nat → Nat} {len x : Nat} (hx : x < 4) : ∀ n f M (y : RST × DRF), (y.1.2.1 = 1 ∨ len ≤ y.1.1 + n) → n < f → RSm M tp len y.1 → PLC y.1.1 y.1 → GDx x M → (y.1.2.1 = 0 → RDx x M y.2) →
    ∃ M2, (WR2 M M2 ∧ RSm M2 tp len (runA tp len x n y).1 ∧ PLC (runA tp len x n y).1.1 (runA tp len x n y).1 ∧ ((runA tp len x n y).1.2.1 = 0 → RDx x M2 (runA tp len x n y).2)) ∧ ∀ kk z, fX12_text_l100 kk f M (nI x) z = kk M2 (nI x) z
  | n, f + 1, M, y, h, hf, hC, hp, hG, hD => by
    have hr5 := rkN_5 tp len y.1.1
    have head : ∀ kk z, fX12_text_l100 kk (f + 1) M (nI x) z = if y.1.2.1 = 1 then kk M (nI x) z else if ¬ y.1.1 < len then kk M (nI x) z else (lineF x M).bind (fun p => fX12_text_l100 kk f p (nI x) z) := fun kk z => by
      rw [fX12_text_l100.eq_2, hC.2.2.2.2.2.1, hC.2.1.2.2.1]
      by_cases a : y.1.2.1 = 1
      · rw [if_pos a, if_pos a, if_neg i10]
      · rw [if_neg a, if_neg a, if_pos rfl]
        by_cases b : y.1.1 < len
        · have hb : ¬ rkN tp len y.1.1 = 0 := fun e => (rk_0.mp e) b
          rw [eqz_f (by omega) (by omega), if_neg (show ¬ ¬ y.1.1 < len from fun q => q b)]
          unfold lineF
          rcases (show x = 0 ∨ x = 1 ∨ x = 2 ∨ x = 3 by omega) with rfl | rfl | rfl | rfl <;> rfl
        · rw [eqz_t (rk_0.mpr b), if_pos b]
    by_cases c : y.1.2.1 = 1 ∨ ¬ y.1.1 < len
    · have e : runA tp len x n y = y := by
        cases n with
        | zero => rfl
        | succ n => rw [runA, if_pos c]
      rw [e]
      refine ⟨M, ⟨WR2.rfl, hC, hp, hD⟩, fun kk z => ?_⟩
      rw [head]
      by_cases a : y.1.2.1 = 1
      · rw [if_pos a]
      · rw [if_neg a, if_pos (c.resolve_left a)]
    · have c1 : ¬ y.1.2.1 = 1 := fun e => c (Or.inl e)
      have c2 : y.1.1 < len := by
        rcases Nat.lt_or_ge y.1.1 len with q | q
        · exact q
        · exact absurd (Or.inr (by omega)) c
      have h1 := h.resolve_left c1
      cases n with
      | zero => omega
      | succ n =>
        obtain ⟨M1, m1, m2, m3, m4, m5⟩ := line_RS hx hC c1 hp hG hD
        obtain ⟨M2, ⟨i1, i2, i3, i4⟩, i5⟩ := loop_RS hx n f M1 (lnS tp len x y.2 y.1, lnD tp len x y.2 y.1) (by
          rcases lnS_prog (tp := tp) (x := x) (D := y.2) c2 with q | q
          · exact Or.inl q
          · refine Or.inr ?_
            show len ≤ (lnS tp len x y.2 y.1).1 + n; omega) (by omega) m3 (PLC_ln c2 hp) m4 m5
        rw [runA, if_neg c]
        refine ⟨M2, ⟨m2.trans i1, i2, i3, i4⟩, fun kk z => ?_⟩
        rw [head, if_neg c1, if_neg (fun q => q c2), m1, bd_s, i5]
  | _, 0, _, _, _, h, _, _, _, _ => absurd h (Nat.not_lt_zero _)
/-! ===== text: the reference clears ===== -/
theorem clr_l2 {M0 : MM} : ∀ n i f M, i + n = 124 → n < f → Fr [93] M0 M → (∀ j, j < i → gI M 93 j = 0) → ∃ M2, (Fr [93] M0 M2 ∧ ∀ j, j < 124 → gI M2 93 j = 0) ∧ ∀ kk x, fX12_clears_l2 kk f M x (nI i) = kk M2 x
  | n, i, f + 1, M, h1, h2, hF, hv => by
    cases n with
    | zero =>
      have e : i = 124 := by omega
      subst e
      exact ⟨M, ⟨hF, hv⟩, fun kk x => by rw [fX12_clears_l2.eq_2, if_pos (by decide)]⟩
    | succ n =>
      obtain ⟨M2, m1, m2⟩ := clr_l2 (M0 := M0) n (i + 1) f (sI M 93 i 0) (by omega) (by omega) (hF.pI (by decide)) (fun j hj => by
        by_cases e : j = i
        · rw [e, gI_eq]
        · rw [gI_nk _ _ _ _ _ _ e]; exact hv j (by omega))
      refine ⟨M2, m1, fun kk x => ?_⟩
      rw [fX12_clears_l2.eq_2, show (124 : Int32) = nI 124 from rfl, le_f (by omega) (by decide), gd_inb (by omega) (by decide), ix_nI (by omega), bnd_r, nI_1]
      exact m2 kk x
  | _, _, 0, _, _, h, _, _ => absurd h (Nat.not_lt_zero _)
theorem tld_00 (q : Nat) : ¬ tldP P00 q := by
  rintro (⟨-, h⟩ | ⟨k, h, -⟩ | ⟨k, h, -⟩)
  · exact Bool.false_ne_true h
  · exact absurd h (Nat.not_lt_zero k)
  · exact absurd h (Nat.not_lt_zero k)
theorem clears_RS {M : MM} {x : Nat} (hx : x < 4) (h9 : gI M 90 9 = -1) (h10 : gI M 90 10 = -1) : ∃ M2, fX12_clears M (nI x) = some M2 ∧ Fr [93] M M2 ∧ GDx x M2 ∧ RDx x M2 D00 := by
  obtain ⟨M1, ⟨m1, m2⟩, m3⟩ := clr_l2 (M0 := M) 124 0 FU M rfl (by show _ < 5000; omega) Fr.rfl (fun j hj => absurd hj (Nat.not_lt_zero j))
  unfold fX12_clears
  rw [show fX12_clears_l2 _ FU M (nI x) 0 = _ from m3 _ _]
  unfold fX12_clears_j41
  rcases (show x = 0 ∨ x = 1 ∨ x = 2 ∨ x = 3 by omega) with rfl | rfl | rfl | rfl
  · refine ⟨sI (sI M1 93 0 6) 93 1 6, rfl, (m1.pI (by decide)).pI (by decide), ⟨0, 0, by decide, by decide, ?_, ?_⟩, ⟨by decide, by decide⟩, ?_, ?_, ?_, ?_, fun q hq => ?_, fun k hk => absurd hk (Nat.not_lt_zero k), fun k hk => absurd hk (Nat.not_lt_zero k), 0, 0, by decide, by decide, ?_, ?_, fun k => ⟨⟨fun z => absurd z (Nat.not_lt_zero k), fun ⟨q, z, _⟩ => absurd z (tld_00 q)⟩, ⟨fun z => absurd z (Nat.not_lt_zero k), fun ⟨q, z, _⟩ => absurd z (tld_00 q)⟩⟩⟩
    · simp (disch := decide) only [gI_nk]; exact m2 2 (by decide)
    · simp (disch := decide) only [gI_nk]; exact m2 3 (by decide)
    · rw [gI_nk _ _ _ _ _ _ (by decide), gI_eq]; rfl
    · rw [gI_eq]; rfl
    · simp (disch := decide) only [gI_nk]; exact m2 2 (by decide)
    · simp (disch := decide) only [gI_nk]; exact m2 3 (by decide)
    · simp (disch := omega) only [gI_nk]; exact m2 (4 + q) (by omega)
    · simp (disch := decide) only [gI_ne]; rw [m1.gi (by decide)]; exact h9
    · simp (disch := decide) only [gI_ne]; rw [m1.gi (by decide)]; exact h10
  · refine ⟨sI (sI (sI M1 93 1 1) 93 3 5) 93 5 1, rfl, ((m1.pI (by decide)).pI (by decide)).pI (by decide), trivial, fun j hj => ?_⟩
    rcases (show j = 0 ∨ j = 1 ∨ j = 2 ∨ j = 3 ∨ j = 4 ∨ j = 5 by omega) with rfl | rfl | rfl | rfl | rfl | rfl
    · simp (disch := decide) only [gI_nk]; exact m2 0 (by decide)
    · simp (disch := decide) only [gI_nk, gI_eq]; rfl
    · simp (disch := decide) only [gI_nk]; exact m2 2 (by decide)
    · simp (disch := decide) only [gI_nk, gI_eq]; rfl
    · simp (disch := decide) only [gI_nk]; exact m2 4 (by decide)
    · rw [gI_eq]; rfl
  · exact ⟨M1, rfl, m1, ⟨0, by decide, m2 0 (by decide)⟩, by decide, m2 0 (by decide), fun i hi => absurd hi (Nat.not_lt_zero i)⟩
  · exact ⟨M1, rfl, m1, trivial, fun j hj => m2 j (by omega)⟩
/-! ===== text: what is wrong at the end, reference ===== -/
def cqN (g : Nat → Bool) : Nat → Nat → Nat
  | 0, _ => 0
  | m + 1, p => (if g p = true then 1 else 0) + cqN g m (p + 1)
theorem cq_le (g : Nat → Bool) : ∀ m p, cqN g m p ≤ m
  | 0, _ => Nat.le_refl _
  | m + 1, p => by
    have := cq_le g m (p + 1)
    rw [cqN]
    split <;> omega
theorem cq_pos {g : Nat → Bool} : ∀ {m p : Nat}, 0 < cqN g m p → ∃ k, p ≤ k ∧ k < p + m ∧ g k = true
  | 0, _, h => absurd h (Nat.lt_irrefl 0)
  | m + 1, p, h => by
    rw [cqN] at h
    by_cases c : g p = true
    · exact ⟨p, Nat.le_refl p, by omega, c⟩
    · rw [if_neg c] at h
      obtain ⟨k, k1, k2, k3⟩ := cq_pos (g := g) (m := m) (p := p + 1) (by omega)
      exact ⟨k, by omega, by omega, k3⟩
theorem cq_two {g : Nat → Bool} : ∀ {m p : Nat}, 1 < cqN g m p → ∃ i j, i < j ∧ j < p + m ∧ g i = true ∧ g j = true
  | 0, _, h => by rw [cqN] at h; omega
  | m + 1, p, h => by
    rw [cqN] at h
    by_cases c : g p = true
    · rw [if_pos c] at h
      obtain ⟨k, k1, k2, k3⟩ := cq_pos (g := g) (m := m) (p := p + 1) (by omega)
      exact ⟨p, k, by omega, by omega, c, k3⟩
    · rw [if_neg c] at h
      obtain ⟨i, j, k1, k2, k3, k4⟩ := cq_two (g := g) (m := m) (p := p + 1) (by omega)
      exact ⟨i, j, k1, by omega, k3, k4⟩
theorem cq_ge1 {g : Nat → Bool} : ∀ {m p k : Nat}, p ≤ k → k < p + m → g k = true → 1 ≤ cqN g m p
  | 0, _, _, h1, h2, _ => by omega
  | m + 1, p, k, h1, h2, h3 => by
    rw [cqN]
    by_cases e : k = p
    · rw [← e, if_pos h3]; omega
    · have := cq_ge1 (g := g) (m := m) (p := p + 1) (k := k) (by omega) (by omega) h3
      omega
theorem cq_ge2 {g : Nat → Bool} : ∀ {m p i j : Nat}, p ≤ i → i < j → j < p + m → g i = true → g j = true → 2 ≤ cqN g m p
  | 0, _, _, _, h1, h2, h3, _, _ => by omega
  | m + 1, p, i, j, h1, h2, h3, h4, h5 => by
    rw [cqN]
    by_cases e : i = p
    · have := cq_ge1 (g := g) (m := m) (p := p + 1) (k := j) (by omega) (by omega) h5
      rw [← e, if_pos h4]
      rw [← e] at this
      omega
    · have := cq_ge2 (g := g) (m := m) (p := p + 1) (i := i) (j := j) (by omega) h2 (by omega) h4 h5
      omega
def totP (P : PARD) (s : Nat) : Nat := (if pWa P s = true then 1 else 0) + cqN (fun k => decide (pAt P k = s)) (pN P) 0 + cqN (fun k => decide (pSh P k 1 = s)) (pS P) 0
theorem PDs_tot {P : PARD} (hP : DPW P) : PDs P ↔ ∀ s, s < 64 → totP P s ≤ 1 := by
  obtain ⟨b1, b2, b3, b4, b5, b6, b7⟩ := hP
  constructor
  · rintro ⟨d1, d2, d3, d4, d5⟩ s hs
    unfold totP
    have c1 : cqN (fun k => decide (pAt P k = s)) (pN P) 0 ≤ 1 := by
      rcases Nat.lt_or_ge 1 (cqN (fun k => decide (pAt P k = s)) (pN P) 0) with z | z
      · obtain ⟨i, j, k1, k2, k3, k4⟩ := cq_two z
        have := d1 i j (by omega) (by omega) ((of_decide_eq_true k3).trans (of_decide_eq_true k4).symm)
        omega
      · exact z
    have c2 : cqN (fun k => decide (pSh P k 1 = s)) (pS P) 0 ≤ 1 := by
      rcases Nat.lt_or_ge 1 (cqN (fun k => decide (pSh P k 1 = s)) (pS P) 0) with z | z
      · obtain ⟨i, j, k1, k2, k3, k4⟩ := cq_two z
        have := d2 i j (by omega) (by omega) ((of_decide_eq_true k3).trans (of_decide_eq_true k4).symm)
        omega
      · exact z
    have e1 : 0 < cqN (fun k => decide (pAt P k = s)) (pN P) 0 → pWa P s = false ∧ cqN (fun k => decide (pSh P k 1 = s)) (pS P) 0 = 0 := fun z => by
      obtain ⟨k, k1, k2, k3⟩ := cq_pos z
      have k3 := of_decide_eq_true k3
      refine ⟨by rw [← k3]; exact d4 k (by omega), ?_⟩
      rcases Nat.eq_zero_or_pos (cqN (fun k => decide (pSh P k 1 = s)) (pS P) 0) with y | y
      · exact y
      · obtain ⟨j, j1, j2, j3⟩ := cq_pos y
        exact absurd (k3.trans (of_decide_eq_true j3).symm) (d3 k j (by omega) (by omega))
    have e2 : 0 < cqN (fun k => decide (pSh P k 1 = s)) (pS P) 0 → pWa P s = false := fun z => by
      obtain ⟨k, k1, k2, k3⟩ := cq_pos z
      rw [← of_decide_eq_true k3]; exact d5 k (by omega)
    by_cases z1 : 0 < cqN (fun k => decide (pAt P k = s)) (pN P) 0
    · obtain ⟨y1, y2⟩ := e1 z1
      rw [y1, if_neg Bool.false_ne_true]; omega
    · by_cases z2 : 0 < cqN (fun k => decide (pSh P k 1 = s)) (pS P) 0
      · rw [e2 z2, if_neg Bool.false_ne_true]; omega
      · split <;> omega
  · intro h
    have hA : ∀ i, i < pN P → 1 ≤ cqN (fun k => decide (pAt P k = pAt P i)) (pN P) 0 := fun i hi => cq_ge1 (k := i) (Nat.zero_le _) (by omega) (decide_eq_true rfl)
    have hB : ∀ i s, i < pS P → pSh P i 1 = s → 1 ≤ cqN (fun k => decide (pSh P k 1 = s)) (pS P) 0 := fun i s hi e => cq_ge1 (k := i) (Nat.zero_le _) (by omega) (decide_eq_true e)
    refine ⟨fun i j hi hj e => ?_, fun i j hi hj e => ?_, fun i j hi hj e => ?_, fun i hi => ?_, fun j hj => ?_⟩
    · have h1 := h (pAt P i) (b6 i hi).1
      unfold totP at h1
      rcases Nat.lt_trichotomy i j with z | z | z
      · have := cq_ge2 (g := fun k => decide (pAt P k = pAt P i)) (m := pN P) (p := 0) (Nat.zero_le i) z (by omega) (decide_eq_true rfl) (decide_eq_true e.symm)
        omega
      · exact z
      · have := cq_ge2 (g := fun k => decide (pAt P k = pAt P i)) (m := pN P) (p := 0) (Nat.zero_le j) z (by omega) (decide_eq_true e.symm) (decide_eq_true rfl)
        omega
    · have h1 := h (pSh P i 1) (b7 i hi).2.1
      unfold totP at h1
      rcases Nat.lt_trichotomy i j with z | z | z
      · have := cq_ge2 (g := fun k => decide (pSh P k 1 = pSh P i 1)) (m := pS P) (p := 0) (Nat.zero_le i) z (by omega) (decide_eq_true rfl) (decide_eq_true e.symm)
        omega
      · exact z
      · have := cq_ge2 (g := fun k => decide (pSh P k 1 = pSh P i 1)) (m := pS P) (p := 0) (Nat.zero_le j) z (by omega) (decide_eq_true e.symm) (decide_eq_true rfl)
        omega
    · have h1 := h (pAt P i) (b6 i hi).1
      unfold totP at h1
      have := hA i hi
      have := hB j (pAt P i) hj e.symm
      omega
    · have h1 := h (pAt P i) (b6 i hi).1
      unfold totP at h1
      have := hA i hi
      cases e : pWa P (pAt P i) with
      | false => rfl
      | true => rw [e, if_pos rfl] at h1; omega
    · have h1 := h (pSh P j 1) (b7 j hj).2.1
      unfold totP at h1
      have := hB j (pSh P j 1) hj rfl
      cases e : pWa P (pSh P j 1) with
      | false => rfl
      | true => rw [e, if_pos rfl] at h1; omega
