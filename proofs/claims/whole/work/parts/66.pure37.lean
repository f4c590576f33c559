/-! ===== rounds: the table of best ways ===== -/
abbrev DPT : Type := Nat → Option Nat
def bcN (m : Nat) : Nat := cntN (fun p => m.testBit p) 10
def dpT (k y : Nat) : Nat := 8 * (k / 8 ||| 2 ^ y) + y
def dpY (D : Nat → Nat → Option Nat) (B : DPT) (k y : Nat) : DPT := if (k / 8).testBit y = true then B else match D (k % 8) y with
  | none => B
  | some d => match B k with
    | none => B
    | some v => match B (dpT k y) with
      | none => updF B (dpT k y) (some (v + d))
      | some u => if u ≤ v + d then B else updF B (dpT k y) (some (v + d))
theorem dpY_bit {D : Nat → Nat → Option Nat} {B : DPT} {k y : Nat} (c : (k / 8).testBit y = true) : dpY D B k y = B := by unfold dpY; rw [if_pos c]
theorem dpY_none {D : Nat → Nat → Option Nat} {B : DPT} {k y : Nat} (c : ¬ (k / 8).testBit y = true) (hd : D (k % 8) y = none) : dpY D B k y = B := by unfold dpY; rw [if_neg c, hd]
theorem dpY_out {D : Nat → Nat → Option Nat} {B : DPT} {k y : Nat} (hk : B k = none) : dpY D B k y = B := by
  unfold dpY
  by_cases c : (k / 8).testBit y = true
  · rw [if_pos c]
  · rw [if_neg c, hk]
    cases D (k % 8) y <;> rfl
theorem dpY_new {D : Nat → Nat → Option Nat} {B : DPT} {k y d v : Nat} (c : ¬ (k / 8).testBit y = true) (hd : D (k % 8) y = some d) (hk : B k = some v) (hu : B (dpT k y) = none) : dpY D B k y = updF B (dpT k y) (some (v + d)) := by
  unfold dpY; rw [if_neg c, hd, hk, hu]
theorem dpY_le {D : Nat → Nat → Option Nat} {B : DPT} {k y d v u : Nat} (c : ¬ (k / 8).testBit y = true) (hd : D (k % 8) y = some d) (hk : B k = some v) (hu : B (dpT k y) = some u) (h : u ≤ v + d) : dpY D B k y = B := by
  unfold dpY; rw [if_neg c, hd, hk, hu]; exact if_pos h
theorem dpY_gt {D : Nat → Nat → Option Nat} {B : DPT} {k y d v u : Nat} (c : ¬ (k / 8).testBit y = true) (hd : D (k % 8) y = some d) (hk : B k = some v) (hu : B (dpT k y) = some u) (h : ¬ u ≤ v + d) : dpY D B k y = updF B (dpT k y) (some (v + d)) := by
  unfold dpY; rw [if_neg c, hd, hk, hu]; exact if_neg h
def dpR (D : Nat → Nat → Option Nat) (B : DPT) (k : Nat) : Nat → DPT
  | 0 => B
  | y + 1 => dpY D (dpR D B k y) k y
def dpI (n : Nat) (B : DPT) : Prop := ∀ k v, B k = some v → k / 8 < 2 ^ n ∧ k % 8 < n ∧ v ≤ 63 * bcN (k / 8)
def dpD (D : Nat → Nat → Option Nat) : Prop := ∀ i j d, D i j = some d → d ≤ 63
theorem p8 {n : Nat} (h : n ≤ 8) : 2 ^ n ≤ 256 := Nat.pow_le_pow_right (n := 2) (j := 8) (by decide) h
theorem dpT_div {k y : Nat} (hy : y < 8) : dpT k y / 8 = (k / 8 ||| 2 ^ y) := by unfold dpT; omega
theorem dpT_mod {k y : Nat} (hy : y < 8) : dpT k y % 8 = y := by unfold dpT; omega
theorem or_ltn {k n y : Nat} (hk : k < 2 ^ n) (hy : y < n) : (k ||| 2 ^ y) < 2 ^ n := Nat.or_lt_two_pow hk (Nat.pow_lt_pow_right (by decide) hy)
theorem dpT_lt {k n y : Nat} (hn : n ≤ 8) (hk : k / 8 < 2 ^ n) (hy : y < n) : dpT k y < 2048 := by
  have h1 := or_ltn hk hy
  have h2 := p8 hn
  unfold dpT
  omega
theorem dpT_ne {k y : Nat} (hy : y < 8) (c : ¬ (k / 8).testBit y = true) : k ≠ dpT k y := fun e => c (by
  have h := dpT_div (k := k) hy
  rw [← e] at h
  rw [h, tb_or, tb_pow, decide_eq_true rfl, Bool.or_true])
theorem dpY_cases (D : Nat → Nat → Option Nat) (B : DPT) (k y : Nat) : dpY D B k y = B ∨ ∃ d v, ¬ (k / 8).testBit y = true ∧ D (k % 8) y = some d ∧ B k = some v ∧ dpY D B k y = updF B (dpT k y) (some (v + d)) := by
  by_cases c : (k / 8).testBit y = true
  · exact Or.inl (dpY_bit c)
  · cases hd : D (k % 8) y with
    | none => exact Or.inl (dpY_none c hd)
    | some d =>
      cases hk : B k with
      | none => exact Or.inl (dpY_out hk)
      | some v =>
        cases hu : B (dpT k y) with
        | none => exact Or.inr ⟨d, v, c, rfl, rfl, dpY_new c hd hk hu⟩
        | some u =>
          by_cases h : u ≤ v + d
          · exact Or.inl (dpY_le c hd hk hu h)
          · exact Or.inr ⟨d, v, c, rfl, rfl, dpY_gt c hd hk hu h⟩
theorem dpY_I {D : Nat → Nat → Option Nat} {B : DPT} {n k y : Nat} (hn : n ≤ 8) (hD : dpD D) (hI : dpI n B) (hy : y < n) : dpI n (dpY D B k y) := by
  rcases dpY_cases D B k y with h | ⟨d, v, c, hd, hk, h⟩
  · rw [h]; exact hI
  · rw [h]
    intro j u e
    unfold updF at e
    by_cases z : j = dpT k y
    · rw [if_pos z] at e
      have e : v + d = u := Option.some.inj e
      obtain ⟨h1, h2, h3⟩ := hI k v hk
      have h4 := hD _ _ _ hd
      rw [z, dpT_div (by omega), dpT_mod (by omega)]
      refine ⟨or_ltn h1 hy, hy, ?_⟩
      have hc : bcN (k / 8 ||| 2 ^ y) = bcN (k / 8) + 1 := by
        unfold bcN
        rw [cnt_or, if_pos ⟨by omega, by simpa using c⟩]
      omega
    · rw [if_neg z] at e
      exact hI j u e
theorem dpY_at {D : Nat → Nat → Option Nat} {B : DPT} {k y : Nat} (hy : y < 8) : dpY D B k y k = B k := by
  rcases dpY_cases D B k y with h | ⟨d, v, c, -, -, h⟩
  · rw [h]
  · rw [h]; exact if_neg (dpT_ne hy c)
theorem dpR_I {D : Nat → Nat → Option Nat} {B : DPT} {n k : Nat} (hn : n ≤ 8) (hD : dpD D) (hI : dpI n B) : ∀ y, y ≤ n → dpI n (dpR D B k y)
  | 0, _ => hI
  | y + 1, h => dpY_I hn hD (dpR_I hn hD hI y (by omega)) (by omega)
theorem dpR_at {D : Nat → Nat → Option Nat} {B : DPT} {k : Nat} : ∀ y, y ≤ 8 → dpR D B k y k = B k
  | 0, _ => rfl
  | y + 1, h => (dpY_at (by omega)).trans (dpR_at y (by omega))
theorem dpR_out {D : Nat → Nat → Option Nat} {B : DPT} {k : Nat} (hk : B k = none) : ∀ y, dpR D B k y = B
  | 0 => rfl
  | y + 1 => by
    show dpY D (dpR D B k y) k y = B
    rw [dpR_out hk y]; exact dpY_out hk
def dpA (D : Nat → Nat → Option Nat) (n : Nat) (B : DPT) : Nat → DPT
  | 0 => B
  | m + 1 => dpR D (dpA D n B m) (8 + m) n
theorem dpA_I {D : Nat → Nat → Option Nat} {B : DPT} {n : Nat} (hn : n ≤ 8) (hD : dpD D) (hI : dpI n B) : ∀ m, dpI n (dpA D n B m)
  | 0 => hI
  | m + 1 => dpR_I hn hD (dpA_I hn hD hI m) n (Nat.le_refl n)
theorem dpI_out {B : DPT} {n k : Nat} (hI : dpI n B) (h : n ≤ k % 8) : B k = none := by
  cases e : B k with
  | none => rfl
  | some v => have := (hI k v e).2.1; omega
theorem dpA_row {D : Nat → Nat → Option Nat} {B : DPT} {n s : Nat} (hn : n ≤ 8) (hD : dpD D) (hI : dpI n B) : ∀ j, n + j ≤ 8 → dpA D n B (8 * s + n + j) = dpA D n B (8 * s + n)
  | 0, _ => rfl
  | j + 1, h => by
    show dpR D (dpA D n B (8 * s + n + j)) (8 + (8 * s + n + j)) n = _
    rw [dpR_out (dpI_out (dpA_I hn hD hI _) (by omega))]
    exact dpA_row hn hD hI j (by omega)
/-! the class -/
def RC (M : MM) (B : DPT) : Prop := ∀ k, k < 2048 → gI M 87 k = opI (B k)
theorem RC_put {M : MM} {B : DPT} (h : RC M B) (t w : Nat) : RC (sI M 87 t (nI w)) (updF B t (some w)) := fun j hj => by
  unfold updF
  by_cases e : j = t
  · rw [e, gI_eq, if_pos rfl]; rfl
  · rw [gI_nk _ _ _ _ _ _ e, if_neg e]; exact h j hj
theorem goOn_y {M : MM} {n k y v : Nat} {D : Nat → Nat → Option Nat} {B : DPT} (hn : n ≤ 8) (h61 : gI M 61 3 = nI n) (hI : dpI n B) (hD : dpD D) (h86 : ∀ i j, i < n → j < n → gI M 86 (8 * i + j) = opI (D i j)) (hR : RC M B) (hk : B k = some v) (hy : y < n) :
    ∃ M2, Fr [87] M M2 ∧ RC M2 (dpY D B k y) ∧ ∀ f, fX10_goOn_l2 (f + 1) M (nI (k / 8)) (nI (k % 8)) (nI y) = fX10_goOn_l2 f M2 (nI (k / 8)) (nI (k % 8)) (nI (y + 1)) := by
  obtain ⟨k1, k2, k3⟩ := hI k v hk
  have hp := p8 hn
  have hbc : bcN (k / 8) ≤ 10 := cntN_le _ _
  have ht := dpT_lt hn k1 hy
  have ek : 8 * (k / 8) + k % 8 = k := by omega
  have et : 8 * (k / 8 ||| 2 ^ y) + y = dpT k y := rfl
  by_cases c : (k / 8).testBit y = true
  · refine ⟨M, Fr.rfl, by rw [dpY_bit c]; exact hR, fun f => ?_⟩
    rw [fX10_goOn_l2.eq_2, h61, le_f hy (by omega), bit_u0 (by omega) (by omega), if_pos c, nI_1]
  · cases hd : D (k % 8) y with
    | none =>
      refine ⟨M, Fr.rfl, by rw [dpY_none c hd]; exact hR, fun f => ?_⟩
      rw [fX10_goOn_l2.eq_2, h61, le_f hy (by omega), bit_u0 (by omega) (by omega), if_neg c, nl8, pk_mul, nI_add, gd_inb (by omega) (by decide), ix_nI (by omega), h86 _ _ k2 hy, hd, show opI none = -1 from rfl, if_pos rfl, nI_1]
    | some d =>
      have hd2 := hD _ _ _ hd
      have head : ∀ f, fX10_goOn_l2 (f + 1) M (nI (k / 8)) (nI (k % 8)) (nI y) = if opI (B (dpT k y)) = -1 then fX10_goOn_j102 (fun M30 y31 y32 y33 => fX10_goOn_l2 f M30 y31 y32 y33) M (nI (k / 8)) (nI (k % 8)) (nI y) (nI (v + d)) (nI (dpT k y)) else if opI (B (dpT k y)) ≤ nI (v + d) then fX10_goOn_l2 f M (nI (k / 8)) (nI (k % 8)) (nI y + 1) else fX10_goOn_j102 (fun M30 y31 y32 y33 => fX10_goOn_l2 f M30 y31 y32 y33) M (nI (k / 8)) (nI (k % 8)) (nI y) (nI (v + d)) (nI (dpT k y)) := fun f => by
        rw [fX10_goOn_l2.eq_2, h61, le_f hy (by omega), bit_u0 (by omega) (by omega), if_neg c, nl8, pk_mul, nI_add, gd_inb (by omega) (by decide), ix_nI (by omega), h86 _ _ k2 hy, hd, show opI (some d) = nI d from rfl, m1_iff (by omega), pk_mul, nI_add, ek, gd_inb (by omega) (by decide), gd_inb (by omega) (by decide), ix_nI (by omega), hR k (by omega), hk, show opI (some v) = nI v from rfl, nI_add, bnd_r, shl_nI (by omega), or_nI, pk_mul, nI_add, et, bnd_r, gd_inb ht (by decide), gd_inb ht (by decide), ix_nI (by omega), hR _ ht]
      have jmp : ∀ f, fX10_goOn_j102 (fun M30 y31 y32 y33 => fX10_goOn_l2 f M30 y31 y32 y33) M (nI (k / 8)) (nI (k % 8)) (nI y) (nI (v + d)) (nI (dpT k y)) = fX10_goOn_l2 f (sI M 87 (dpT k y) (nI (v + d))) (nI (k / 8)) (nI (k % 8)) (nI (y + 1)) := fun f => by
        unfold fX10_goOn_j102
        rw [gd_inb ht (by decide), ix_nI (by omega), bnd_r, nI_1]
      cases hu : B (dpT k y) with
      | none =>
        refine ⟨sI M 87 (dpT k y) (nI (v + d)), Fr.rfl.pI (by decide), by rw [dpY_new c hd hk hu]; exact RC_put hR _ _, fun f => ?_⟩
        rw [head, hu, if_pos (show opI none = -1 from rfl), jmp]
      | some u =>
        have hu2 := (hI _ _ hu).2.2
        have hbu : bcN (dpT k y / 8) ≤ 10 := cntN_le _ _
        by_cases h : u ≤ v + d
        · refine ⟨M, Fr.rfl, by rw [dpY_le c hd hk hu h]; exact hR, fun f => ?_⟩
          rw [head, hu, show opI (some u) = nI u from rfl, m1_iff (by omega), le_t h (by omega), nI_1]
        · refine ⟨sI M 87 (dpT k y) (nI (v + d)), Fr.rfl.pI (by decide), by rw [dpY_gt c hd hk hu h]; exact RC_put hR _ _, fun f => ?_⟩
          rw [head, hu, show opI (some u) = nI u from rfl, m1_iff (by omega), le_f (by omega) (by omega), jmp]
theorem goOn_k {M : MM} {n k v : Nat} {D : Nat → Nat → Option Nat} {B : DPT} (hn : n ≤ 8) (h61 : gI M 61 3 = nI n) (hI : dpI n B) (hD : dpD D) (h86 : ∀ i j, i < n → j < n → gI M 86 (8 * i + j) = opI (D i j)) (hR : RC M B) (hk : B k = some v) :
    ∃ M2, fX10_goOn M (nI (k / 8)) (nI (k % 8)) = some M2 ∧ Fr [87] M M2 ∧ RC M2 (dpR D B k n) := by
  have key := lpk (κ := Unit) (σ := MM × Nat) (fun _ f st => fX10_goOn_l2 f st.1 (nI (k / 8)) (nI (k % 8)) (nI st.2)) (fun _ M2 => some M2) n
    (fun y st => y = st.2 ∧ Fr [87] M st.1 ∧ RC st.1 (dpR D B k y)) (fun M2 => Fr [87] M M2 ∧ RC M2 (dpR D B k n)) ?_ ?_ FU 0 (M, 0) (by omega) (by show _ < 5000; omega) ⟨rfl, Fr.rfl, hR⟩
  · obtain ⟨M2, ⟨h1, h2⟩, h3⟩ := key
    exact ⟨M2, h3 (), h1, h2⟩
  · rintro y ⟨M1, y2⟩ hy ⟨rfl, hF, b1⟩
    simp only [] at hF b1
    obtain ⟨M2, c1, c2, c3⟩ := goOn_y (M := M1) (y := y) hn (by rw [hF.gi (by decide)]; exact h61) (dpR_I hn hD hI y (by omega)) hD (fun i j h1 h2 => by rw [hF.gi (by decide)]; exact h86 i j h1 h2) b1 (by rw [dpR_at y (by omega)]; exact hk) hy
    exact Or.inl ⟨(M2, y + 1), ⟨rfl, hF.trans c1, c2⟩, fun _ f => c3 f⟩
  · rintro ⟨M1, y2⟩ ⟨rfl, hF, b1⟩
    refine ⟨M1, ⟨hF, b1⟩, fun _ f => ?_⟩
    show fX10_goOn_l2 (f + 1) M1 (nI (k / 8)) (nI (k % 8)) (nI n) = some M1
    rw [fX10_goOn_l2.eq_2, show gI M1 61 3 = nI n by rw [hF.gi (by decide)]; exact h61, le_t (Nat.le_refl n) (by omega)]
theorem tour_row {M : MM} {n s : Nat} {D : Nat → Nat → Option Nat} {B : DPT} (hn : n ≤ 8) (hs : s + 1 < 2 ^ n) (h61 : gI M 61 3 = nI n) (hI : dpI n B) (hD : dpD D) (h86 : ∀ i j, i < n → j < n → gI M 86 (8 * i + j) = opI (D i j)) (hR : RC M (dpA D n B (8 * s))) :
    ∃ M2, (Fr [87] M M2 ∧ RC M2 (dpA D n B (8 * (s + 1)))) ∧ ∀ kk : MM → Int32 → Int32 → Option MM, fX10_tour_l153 kk FU M (nI n) (nI (s + 1)) (nI 0) = kk M2 (nI n) (nI (s + 1)) := by
  have hp := p8 hn
  refine lpk (κ := MM → Int32 → Int32 → Option MM) (σ := MM × Nat) (fun kk f st => fX10_tour_l153 kk f st.1 (nI n) (nI (s + 1)) (nI st.2)) (fun kk M2 => kk M2 (nI n) (nI (s + 1))) n
    (fun i st => i = st.2 ∧ Fr [87] M st.1 ∧ RC st.1 (dpA D n B (8 * s + i))) _ ?_ ?_ FU 0 (M, 0) (by omega) (by show _ < 5000; omega) ⟨rfl, Fr.rfl, hR⟩
  · rintro i ⟨M1, i2⟩ hi ⟨rfl, hF, b1⟩
    simp only [] at hF b1
    have hIA := dpA_I hn hD hI (8 * s + i)
    have ek : 8 * (s + 1) + i = 8 + (8 * s + i) := by omega
    cases e : dpA D n B (8 * s + i) (8 + (8 * s + i)) with
    | none =>
      refine Or.inl ⟨(M1, i + 1), ⟨rfl, hF, ?_⟩, fun kk f => ?_⟩
      · show RC M1 (dpR D (dpA D n B (8 * s + i)) (8 + (8 * s + i)) n)
        rw [dpR_out e]; exact b1
      · show fX10_tour_l153 kk (f + 1) M1 (nI n) (nI (s + 1)) (nI i) = fX10_tour_l153 kk f M1 (nI n) (nI (s + 1)) (nI (i + 1))
        rw [fX10_tour_l153.eq_2, le_f hi (by omega), nl8, pk_mul, nI_add, ek, gd_inb (by omega) (by decide), ix_nI (by omega), b1 _ (by omega), e, if_pos (show opI none = -1 from rfl), nI_1]
    | some v =>
      obtain ⟨M2, c1, c2, c3⟩ := goOn_k (M := M1) hn (by rw [hF.gi (by decide)]; exact h61) hIA hD (fun i j h1 h2 => by rw [hF.gi (by decide)]; exact h86 i j h1 h2) b1 e
      rw [show (8 + (8 * s + i)) / 8 = s + 1 by omega, show (8 + (8 * s + i)) % 8 = i by omega] at c1
      have hv := (hIA _ _ e).2.2
      have hbc : bcN ((8 + (8 * s + i)) / 8) ≤ 10 := cntN_le _ _
      refine Or.inl ⟨(M2, i + 1), ⟨rfl, hF.trans c2, c3⟩, fun kk f => ?_⟩
      show fX10_tour_l153 kk (f + 1) M1 (nI n) (nI (s + 1)) (nI i) = fX10_tour_l153 kk f M2 (nI n) (nI (s + 1)) (nI (i + 1))
      rw [fX10_tour_l153.eq_2, le_f hi (by omega), nl8, pk_mul, nI_add, ek, gd_inb (by omega) (by decide), ix_nI (by omega), b1 _ (by omega), e, show opI (some v) = nI v from rfl, m1_iff (by omega), c1, bd_s, nI_1]
  · rintro ⟨M1, i2⟩ ⟨rfl, hF, b1⟩
    refine ⟨M1, ⟨hF, ?_⟩, fun kk f => ?_⟩
    · have := dpA_row (s := s) hn hD hI (8 - n) (by omega)
      rw [show 8 * s + n + (8 - n) = 8 * (s + 1) by omega] at this
      rw [this]; exact b1
    · show fX10_tour_l153 kk (f + 1) M1 (nI n) (nI (s + 1)) (nI n) = _
      rw [fX10_tour_l153.eq_2, le_t (Nat.le_refl n) (by omega)]
theorem tour_all {M : MM} {n : Nat} {D : Nat → Nat → Option Nat} {B : DPT} (hn : n ≤ 8) (h61 : gI M 61 3 = nI n) (hI : dpI n B) (hD : dpD D) (h86 : ∀ i j, i < n → j < n → gI M 86 (8 * i + j) = opI (D i j)) (hR : RC M B) :
    ∃ M2, fX10_tour_l143 FU M (nI n) (nI 1) = some M2 ∧ Fr [87] M M2 ∧ RC M2 (dpA D n B (8 * (2 ^ n - 1))) := by
  have hp := p8 hn
  have hp0 : 0 < 2 ^ n := Nat.pow_pos (by decide)
  have key := lpk (κ := Unit) (σ := MM × Nat) (fun _ f st => fX10_tour_l143 f st.1 (nI n) (nI (st.2 + 1))) (fun _ M2 => some M2) (2 ^ n - 1)
    (fun s st => s = st.2 ∧ Fr [87] M st.1 ∧ RC st.1 (dpA D n B (8 * s))) (fun M2 => Fr [87] M M2 ∧ RC M2 (dpA D n B (8 * (2 ^ n - 1)))) ?_ ?_ FU 0 (M, 0) (by omega) (by show _ < 5000; omega) ⟨rfl, Fr.rfl, hR⟩
  · obtain ⟨M2, ⟨h1, h2⟩, h3⟩ := key
    exact ⟨M2, h3 (), h1, h2⟩
  · rintro s ⟨M1, s2⟩ hs ⟨rfl, hF, b1⟩
    simp only [] at hF b1
    obtain ⟨M2, ⟨c1, c2⟩, c3⟩ := tour_row (M := M1) (s := s) hn (by omega) (by rw [hF.gi (by decide)]; exact h61) hI hD (fun i j h1 h2 => by rw [hF.gi (by decide)]; exact h86 i j h1 h2) b1
    refine Or.inl ⟨(M2, s + 1), ⟨rfl, hF.trans c1, c2⟩, fun _ f => ?_⟩
    show fX10_tour_l143 (f + 1) M1 (nI n) (nI (s + 1)) = fX10_tour_l143 f M2 (nI n) (nI (s + 1 + 1))
    rw [fX10_tour_l143.eq_2, shl_nI (by omega), le_f (by omega) (by omega), nl0, c3, nI_1]
  · rintro ⟨M1, s2⟩ ⟨hs, hF, b1⟩
    simp only [] at hs hF b1
    refine ⟨M1, ⟨hF, b1⟩, fun _ f => ?_⟩
    show fX10_tour_l143 (f + 1) M1 (nI n) (nI (s2 + 1)) = _
    rw [fX10_tour_l143.eq_2, shl_nI (by omega), le_t (by omega) (by omega)]
