/-! ===== rounds: the tour of the class ===== -/
def dp0 (d0 : Nat → Option Nat) (n : Nat) : DPT := fun k => if k % 8 < n ∧ k / 8 = 2 ^ (k % 8) then d0 (k % 8) else none
theorem bc_p2 : ∀ y, y < 8 → bcN (2 ^ y) = 1 := by decide
theorem dp0_I {d0 : Nat → Option Nat} {n : Nat} (hd : ∀ y v, d0 y = some v → v ≤ 63) : dpI n (dp0 d0 n) := by
  intro k v e
  unfold dp0 at e
  by_cases c : k % 8 < n ∧ k / 8 = 2 ^ (k % 8)
  · rw [if_pos c] at e
    have := hd _ _ e
    refine ⟨by rw [c.2]; exact Nat.pow_lt_pow_right (by decide) c.1, c.1, ?_⟩
    rw [c.2, bc_p2 _ (by omega)]; omega
  · rw [if_neg c] at e; cases e
def p2T (y : Nat) : Nat := 8 * 2 ^ y + y
theorem p2T_lt {y : Nat} (hy : y < 8) : p2T y < 2048 := by
  have : 2 ^ y ≤ 2 ^ 7 := Nat.pow_le_pow_right (by decide) (by omega)
  unfold p2T
  omega
theorem dp0_s {d0 : Nat → Option Nat} {y k : Nat} (hy : y < 8) : dp0 d0 (y + 1) k = if k = p2T y then d0 y else dp0 d0 y k := by
  unfold dp0 p2T
  by_cases e : k = 8 * 2 ^ y + y
  · have h1 : k % 8 = y := by omega
    have h2 : k / 8 = 2 ^ y := by omega
    rw [if_pos e, h1, h2, if_pos ⟨by omega, rfl⟩]
  · rw [if_neg e]
    by_cases c : k % 8 < y ∧ k / 8 = 2 ^ (k % 8)
    · rw [if_pos c, if_pos ⟨by omega, c.2⟩]
    · rw [if_neg c, if_neg]
      rintro ⟨c1, c2⟩
      by_cases z : k % 8 = y
      · rw [z] at c2; exact e (by omega)
      · exact c ⟨by omega, c2⟩
theorem dp0_at {d0 : Nat → Option Nat} {y : Nat} (hy : y < 8) : dp0 d0 y (p2T y) = none := by
  unfold dp0 p2T
  rw [if_neg]
  rintro ⟨c1, -⟩
  omega
theorem wlk_le {P : PARD} (hP : PW P) {q : Nat} (hq : inP (pW P) (pH P) q) {c v : Nat} (e : wlk P q c = some v) : v ≤ 63 := (BI_val (bfN_BI hP (bf0_BI hP hq) 64) e).1
theorem tour_ini {M : MM} {n : Nat} {pl : Nat → Nat} {d0 : Nat → Option Nat} (hn : n ≤ 8) (h65 : ∀ y, y < n → gI M 65 y = nI (pl y) ∧ pl y < 64) (h84 : ∀ y, y < n → gI M 84 (pl y) = opI (d0 y)) (h87 : ∀ k, k < 2048 → gI M 87 k = -1) :
    ∃ M2, (Fr [87] M M2 ∧ RC M2 (dp0 d0 n)) ∧ ∀ kk : MM → Int32 → Option MM, fX10_tour_l26 kk FU M (nI n) (nI 0) = kk M2 (nI n) := by
  refine lpk (κ := MM → Int32 → Option MM) (σ := MM × Nat) (fun kk f st => fX10_tour_l26 kk f st.1 (nI n) (nI st.2)) (fun kk M2 => kk M2 (nI n)) n
    (fun i st => i = st.2 ∧ Fr [87] M st.1 ∧ RC st.1 (dp0 d0 i)) _ ?_ ?_ FU 0 (M, 0) (by omega) (by show _ < 5000; omega) ⟨rfl, Fr.rfl, fun k hk => by
      rw [h87 k hk]; unfold dp0; rw [if_neg (by omega)]; rfl⟩
  · rintro y ⟨M1, i2⟩ hy ⟨rfl, hF, b1⟩
    simp only [] at hF b1
    obtain ⟨e1, e2⟩ := h65 y hy
    have e1 : gI M1 65 y = nI (pl y) := by rw [hF.gi (by decide)]; exact e1
    have e3 : gI M1 84 (pl y) = opI (d0 y) := by rw [hF.gi (by decide)]; exact h84 y hy
    have hl := p2T_lt (y := y) (by omega)
    refine Or.inl ⟨(sI M1 87 (p2T y) (opI (d0 y)), y + 1), ⟨rfl, hF.pI (by decide), fun k hk => ?_⟩, fun kk f => ?_⟩
    · show gI (sI M1 87 (p2T y) (opI (d0 y))) 87 k = _
      rw [dp0_s (by omega)]
      by_cases z : k = p2T y
      · rw [z, gI_eq, if_pos rfl]
      · rw [gI_nk _ _ _ _ _ _ z, if_neg z]; exact b1 k hk
    · show fX10_tour_l26 kk (f + 1) M1 (nI n) (nI y) = fX10_tour_l26 kk f (sI M1 87 (p2T y) (opI (d0 y))) (nI n) (nI (y + 1))
      rw [fX10_tour_l26.eq_2, le_f hy (by omega), gd_inb (by omega) (by decide), ix_nI (by omega), e1, gd_inb e2 (by decide), ix_nI (by omega), e3, shl_nI (by omega), nl8, pk_mul, nI_add, show 8 * 2 ^ y + y = p2T y from rfl, gd_inb hl (by decide), ix_nI (by omega), bnd_r, nI_1]
  · rintro ⟨M1, i2⟩ ⟨rfl, hF, b1⟩
    refine ⟨M1, ⟨hF, b1⟩, fun kk f => ?_⟩
    show fX10_tour_l26 kk (f + 1) M1 (nI n) (nI n) = _
    rw [fX10_tour_l26.eq_2, le_t (Nat.le_refl n) (by omega)]
theorem betw_row {M : MM} {n i : Nat} {pl : Nat → Nat} {d0 : Nat → Option Nat} (hn : n ≤ 8) (hi : i < n) (h65 : ∀ y, y < n → gI M 65 y = nI (pl y) ∧ pl y < 64) (h84 : ∀ y, y < n → gI M 84 (pl y) = opI (d0 y)) :
    ∃ M2, (Fr [86] M M2 ∧ (∀ y, y < n → gI M2 86 (8 * i + y) = opI (d0 y)) ∧ ∀ k, k < 8 * i → gI M2 86 k = gI M 86 k) ∧ ∀ kk : MM → Int32 → Int32 → Option MM, fX10_tour_l93 kk FU M (nI n) (nI i) (nI 0) = kk M2 (nI n) (nI i) := by
  refine lpk (κ := MM → Int32 → Int32 → Option MM) (σ := MM × Nat) (fun kk f st => fX10_tour_l93 kk f st.1 (nI n) (nI i) (nI st.2)) (fun kk M2 => kk M2 (nI n) (nI i)) n
    (fun j st => j = st.2 ∧ Fr [86] M st.1 ∧ (∀ y, y < j → gI st.1 86 (8 * i + y) = opI (d0 y)) ∧ ∀ k, k < 8 * i → gI st.1 86 k = gI M 86 k) _ ?_ ?_ FU 0 (M, 0) (by omega) (by show _ < 5000; omega) ⟨rfl, Fr.rfl, fun y hy => absurd hy (Nat.not_lt_zero y), fun _ _ => rfl⟩
  · rintro y ⟨M1, i2⟩ hy ⟨rfl, hF, b1, b2⟩
    simp only [] at hF b1 b2
    obtain ⟨e1, e2⟩ := h65 y hy
    have e1 : gI M1 65 y = nI (pl y) := by rw [hF.gi (by decide)]; exact e1
    have e3 : gI M1 84 (pl y) = opI (d0 y) := by rw [hF.gi (by decide)]; exact h84 y hy
    refine Or.inl ⟨(sI M1 86 (8 * i + y) (opI (d0 y)), y + 1), ⟨rfl, hF.pI (by decide), fun k hk => ?_, fun k hk => ?_⟩, fun kk f => ?_⟩
    · show gI (sI M1 86 (8 * i + y) (opI (d0 y))) 86 (8 * i + k) = _
      by_cases z : k = y
      · rw [z, gI_eq]
      · rw [gI_nk _ _ _ _ _ _ (by omega)]; exact b1 k (by omega)
    · show gI (sI M1 86 (8 * i + y) (opI (d0 y))) 86 k = _
      rw [gI_nk _ _ _ _ _ _ (by omega)]; exact b2 k hk
    · show fX10_tour_l93 kk (f + 1) M1 (nI n) (nI i) (nI y) = fX10_tour_l93 kk f (sI M1 86 (8 * i + y) (opI (d0 y))) (nI n) (nI i) (nI (y + 1))
      rw [fX10_tour_l93.eq_2, le_f hy (by omega), gd_inb (by omega) (by decide), ix_nI (by omega), e1, gd_inb e2 (by decide), ix_nI (by omega), e3, nl8, pk_mul, nI_add, gd_inb (by omega) (by decide), ix_nI (by omega), bnd_r, nI_1]
  · rintro ⟨M1, i2⟩ ⟨rfl, hF, b1, b2⟩
    refine ⟨M1, ⟨hF, b1, b2⟩, fun kk f => ?_⟩
    show fX10_tour_l93 kk (f + 1) M1 (nI n) (nI i) (nI n) = _
    rw [fX10_tour_l93.eq_2, le_t (Nat.le_refl n) (by omega)]
def dPP (P : PARD) (i j : Nat) : Option Nat := wlk P (pSh P i 1) (pSh P j 1)
theorem betw_all {M : MM} {P : PARD} (hP : PW P) (hB : BS M (scnOf P) aT) :
    ∃ M2, (Fr [84, 85, 86] M M2 ∧ ∀ i j, i < pS P → j < pS P → gI M2 86 (8 * i + j) = opI (dPP P i j)) ∧ ∀ kk : MM → Int32 → Option MM, fX10_tour_l69 kk FU M (nI (pS P)) (nI 0) = kk M2 (nI (pS P)) := by
  have hn := hP.2.2.2.1
  have hsh := hP.2.2.2.2.2.2.1
  have hw8 := hP.1.2
  have hh8 := hP.2.1.2
  refine lpk (κ := MM → Int32 → Option MM) (σ := MM × Nat) (fun kk f st => fX10_tour_l69 kk f st.1 (nI (pS P)) (nI st.2)) (fun kk M2 => kk M2 (nI (pS P))) (pS P)
    (fun i st => i = st.2 ∧ Fr [84, 85, 86] M st.1 ∧ ∀ x j, x < i → j < pS P → gI st.1 86 (8 * x + j) = opI (dPP P x j)) _ ?_ ?_ FU 0 (M, 0) (by omega) (by show _ < 5000; omega) ⟨rfl, Fr.rfl, fun x j hx => absurd hx (Nat.not_lt_zero x)⟩
  · rintro i ⟨M1, i2⟩ hi ⟨rfl, hF, b1⟩
    simp only [] at hF b1
    have hB1 := BS_fr hB hF (by decide)
    have h65 : ∀ M3, Fr [84, 85, 86] M M3 → ∀ y, y < pS P → gI M3 65 y = nI (sqC (pW P) (pSh P y 1)) ∧ sqC (pW P) (pSh P y 1) < 64 := fun M3 h3 y hy => ⟨(BS_fr hB h3 (by decide)).1.2.2.2.2.2.2.2.2.1 y hy |>.2.1, sqC_lt hw8 hh8 (hsh y hy).2.1⟩
    obtain ⟨M2, c1, c2, c3⟩ := flood_spec hP hB1 (hsh i hi).2.1
    have hF2 := hF.trans (c2.mono (by decide))
    obtain ⟨M3, ⟨d1, d2, d3⟩, d4⟩ := betw_row (d0 := fun j => dPP P i j) hn hi (h65 M2 hF2) (fun y hy => c3 _ (hsh y hy).2.1)
    refine Or.inl ⟨(M3, i + 1), ⟨rfl, hF2.trans (d1.mono (by decide)), fun x j hx hj => ?_⟩, fun kk f => ?_⟩
    · show gI M3 86 (8 * x + j) = _
      by_cases z : x = i
      · rw [z]; exact d2 j hj
      · rw [d3 _ (by omega), c2.gi (by decide)]; exact b1 x j (by omega) hj
    · show fX10_tour_l69 kk (f + 1) M1 (nI (pS P)) (nI i) = fX10_tour_l69 kk f M3 (nI (pS P)) (nI (i + 1))
      rw [fX10_tour_l69.eq_2, le_f hi (by omega), gd_inb (by omega) (by decide), ix_nI (by omega), (h65 M1 hF i hi).1, c1, bd_s, nl0, d4, nI_1]
  · rintro ⟨M1, i2⟩ ⟨rfl, hF, b1⟩
    refine ⟨M1, ⟨hF, b1⟩, fun kk f => ?_⟩
    show fX10_tour_l69 kk (f + 1) M1 (nI (pS P)) (nI (pS P)) = _
    rw [fX10_tour_l69.eq_2, le_t (Nat.le_refl _) (by omega)]
theorem dPP_D {P : PARD} (hP : PW P) : ∃ D, dpD D ∧ ∀ i j, i < pS P → D i j = dPP P i j := by
  refine ⟨fun i j => if i < pS P then dPP P i j else none, ?_, fun i j h => if_pos h⟩
  intro i j d e
  have e : (if i < pS P then dPP P i j else none) = some d := e
  by_cases c : i < pS P
  · rw [if_pos c] at e; exact wlk_le hP (hP.2.2.2.2.2.2.1 i c).2.1 e
  · rw [if_neg c] at e; cases e
theorem tour_cls {M : MM} {P : PARD} (hP : PW P) (hB : BS M (scnOf P) aT) {D : Nat → Nat → Option Nat} (hD : dpD D) (eD : ∀ i j, i < pS P → D i j = dPP P i j) {q : Nat} (hq : inP (pW P) (pH P) q) :
    ∃ M2, fX10_tour M (nI (sqC (pW P) q)) = some M2 ∧ Fr [84, 85, 86, 87] M M2 ∧ RC M2 (dpA D (pS P) (dp0 (fun y => wlk P q (pSh P y 1)) (pS P)) (8 * (2 ^ pS P - 1))) := by
  have hn := hP.2.2.2.1
  have hsh := hP.2.2.2.2.2.2.1
  have hw8 := hP.1.2
  have hh8 := hP.2.1.2
  obtain ⟨M1, a1, a2, a3, -⟩ := fill_spec (M := M) (a := 87) (n := 2048) (v := -1) (by decide)
  have hB1 := BS_fr hB a2 (by decide)
  obtain ⟨M2, b1, b2, b3⟩ := flood_spec hP hB1 hq
  have hB2 := BS_fr hB1 b2 (by decide)
  have h65 : ∀ y, y < pS P → gI M2 65 y = nI (sqC (pW P) (pSh P y 1)) ∧ sqC (pW P) (pSh P y 1) < 64 := fun y hy => ⟨hB2.1.2.2.2.2.2.2.2.2.1 y hy |>.2.1, sqC_lt hw8 hh8 (hsh y hy).2.1⟩
  obtain ⟨M3, ⟨c1, c2⟩, c3⟩ := tour_ini (d0 := fun y => wlk P q (pSh P y 1)) hn h65 (fun y hy => b3 _ (hsh y hy).2.1) (fun k hk => by rw [b2.gi (by decide)]; exact a3 k hk)
  obtain ⟨M4, ⟨d1, d2⟩, d3⟩ := betw_all hP (BS_fr hB2 c1 (by decide))
  have hB4 := BS_fr (BS_fr hB2 c1 (by decide)) d1 (by decide)
  obtain ⟨M5, e1, e2, e3⟩ := tour_all (D := D) hn hB4.1.2.2.2.2.2.1 (dp0_I (fun y v e => wlk_le hP hq e)) hD (fun i j hi hj => by rw [eD i j hi]; exact d2 i j hi hj) (fun k hk => by rw [d1.gi (by decide)]; exact c2 k hk)
  refine ⟨M5, ?_, (((a2.mono (by decide)).trans (b2.mono (by decide))).trans (c1.mono (by decide))).trans ((d1.mono (by decide)).trans (e2.mono (by decide))), e3⟩
  unfold fX10_tour
  rw [bnd_r, show gI M 61 3 = nI (pS P) from hB.1.2.2.2.2.2.1, a1, bd_s, b1, bd_s, nl0, c3, d3]
  exact e1
