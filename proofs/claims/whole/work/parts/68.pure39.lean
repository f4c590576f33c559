/-! ===== rounds: the reference ===== -/
def r9 (o : Option Nat) : Int32 := match o with
  | none => 9999
  | some v => nI v
theorem nl9999 : (9999 : Int32) = nI 9999 := rfl
def RR (M : MM) (B : DPT) : Prop := ∀ k, k < 2048 → gI M 113 k = r9 (B k)
theorem RR_put {M : MM} {B : DPT} (h : RR M B) (t w : Nat) : RR (sI M 113 t (nI w)) (updF B t (some w)) := fun j hj => by
  unfold updF
  by_cases e : j = t
  · rw [e, gI_eq, if_pos rfl]; rfl
  · rw [gI_nk _ _ _ _ _ _ e, if_neg e]; exact h j hj
theorem RR_same {M : MM} {B : DPT} (h : RR M B) (t : Nat) : RR (sI M 113 t (gI M 113 t)) B := fun j hj => by
  by_cases e : j = t
  · rw [e, gI_eq]; rw [e] at hj; exact h t hj
  · rw [gI_nk _ _ _ _ _ _ e]; exact h j hj
theorem shl8 : ∀ n, n < 9 → jshl 8 (nI n) = nI (8 * 2 ^ n) := by decide
theorem rnd_y {M : MM} {n k y v : Nat} {D : Nat → Nat → Option Nat} {B : DPT} (hn : n ≤ 8) (h90 : gI M 90 14 = nI n) (hI : dpI n B) (hD : dpD D) (h111 : ∀ i j, i < n → j < n → gI M 111 (8 * i + j) = nvI (D i j)) (hR : RR M B) (hk : B k = some v) (hy : y < n) :
    ∃ M2, Fr [113] M M2 ∧ RR M2 (dpY D B k y) ∧ ∀ (kk : MM → Int32 → Option MM) f, fX12_laysRounds_l180 kk (f + 1) M (nI k) (nI y) = fX12_laysRounds_l180 kk f M2 (nI k) (nI (y + 1)) := by
  obtain ⟨k1, k2, k3⟩ := hI k v hk
  have hp := p8 hn
  have hbc : bcN (k / 8) ≤ 10 := cntN_le _ _
  have ht := dpT_lt hn k1 hy
  have et : 8 * (k / 8 ||| 2 ^ y) + y = dpT k y := rfl
  have em : nI k - nI k / 8 * 8 = nI (k % 8) := pk_rem (d := 8) (by omega) (by decide) (by decide)
  have ed : nI k / 8 = nI (k / 8) := pk_div (d := 8) (by omega) (by decide) (by decide)
  by_cases c : (k / 8).testBit y = true
  · refine ⟨M, Fr.rfl, by rw [dpY_bit c]; exact hR, fun kk f => ?_⟩
    rw [fX12_laysRounds_l180.eq_2, h90, le_f hy (by omega), em, ed, bit_s1 (by omega) (by omega), if_pos c, nI_1]
  · cases hd : D (k % 8) y with
    | none =>
      refine ⟨M, Fr.rfl, by rw [dpY_none c hd]; exact hR, fun kk f => ?_⟩
      rw [fX12_laysRounds_l180.eq_2, h90, le_f hy (by omega), em, ed, bit_s1 (by omega) (by omega), if_neg c, nl8, pk_mul, nI_add, gd_inb (by omega) (by decide), ix_nI (by omega), h111 _ _ k2 hy, hd, if_pos (show nvI none = 99 from rfl), nI_1]
    | some d =>
      have hd2 := hD _ _ _ hd
      have head : ∀ (kk : MM → Int32 → Option MM) f, fX12_laysRounds_l180 kk (f + 1) M (nI k) (nI y) = if gI M 113 (dpT k y) ≤ nI (v + d) then fX12_laysRounds_j290 (fun M85 y86 y87 => fX12_laysRounds_l180 kk f M85 y86 y87) M (nI k) (nI y) (nI (dpT k y)) (gI M 113 (dpT k y)) else fX12_laysRounds_j290 (fun M85 y86 y87 => fX12_laysRounds_l180 kk f M85 y86 y87) M (nI k) (nI y) (nI (dpT k y)) (nI (v + d)) := fun kk f => by
        rw [fX12_laysRounds_l180.eq_2, h90, le_f hy (by omega), em, ed, bit_s1 (by omega) (by omega), if_neg c, nl8, pk_mul, nI_add, gd_inb (by omega) (by decide), ix_nI (by omega), h111 _ _ k2 hy, hd, show nvI (some d) = nI d from rfl, nl99, eqn_f (by omega) (by omega) (by decide), shl_nI (by omega), or_nI, pk_mul, nI_add, et, bnd_r, gd_inb (by omega) (by decide), gd_inb (by omega) (by decide), ix_nI (by omega), hR k (by omega), hk, show r9 (some v) = nI v from rfl, nI_add, bnd_r, gd_inb ht (by decide), ix_nI (by omega), gd_inb ht (by decide)]
      have jmp : ∀ (kk : MM → Int32 → Option MM) f w, fX12_laysRounds_j290 (fun M85 y86 y87 => fX12_laysRounds_l180 kk f M85 y86 y87) M (nI k) (nI y) (nI (dpT k y)) w = fX12_laysRounds_l180 kk f (sI M 113 (dpT k y) w) (nI k) (nI (y + 1)) := fun kk f w => by
        unfold fX12_laysRounds_j290
        rw [gd_inb ht (by decide), ix_nI (by omega), bnd_r, nI_1]
      cases hu : B (dpT k y) with
      | none =>
        refine ⟨sI M 113 (dpT k y) (nI (v + d)), Fr.rfl.pI (by decide), by rw [dpY_new c hd hk hu]; exact RR_put hR _ _, fun kk f => ?_⟩
        rw [head, hR _ ht, hu, show r9 none = nI 9999 from rfl, le_f (by omega) (by decide), jmp]
      | some u =>
        have hu2 := (hI _ _ hu).2.2
        have hbu : bcN (dpT k y / 8) ≤ 10 := cntN_le _ _
        have eu : gI M 113 (dpT k y) = nI u := by rw [hR _ ht, hu]; rfl
        by_cases h : u ≤ v + d
        · refine ⟨sI M 113 (dpT k y) (gI M 113 (dpT k y)), Fr.rfl.pI (by decide), by rw [dpY_le c hd hk hu h]; exact RR_same hR _, fun kk f => ?_⟩
          rw [head, eu, le_t h (by omega), jmp]
        · refine ⟨sI M 113 (dpT k y) (nI (v + d)), Fr.rfl.pI (by decide), by rw [dpY_gt c hd hk hu h]; exact RR_put hR _ _, fun kk f => ?_⟩
          rw [head, eu, le_f (by omega) (by omega), jmp]
theorem rnd_k {M : MM} {n k v : Nat} {D : Nat → Nat → Option Nat} {B : DPT} (hn : n ≤ 8) (h90 : gI M 90 14 = nI n) (hI : dpI n B) (hD : dpD D) (h111 : ∀ i j, i < n → j < n → gI M 111 (8 * i + j) = nvI (D i j)) (hR : RR M B) (hk : B k = some v) :
    ∃ M2, (Fr [113] M M2 ∧ RR M2 (dpR D B k n)) ∧ ∀ kk : MM → Int32 → Option MM, fX12_laysRounds_l180 kk FU M (nI k) (nI 0) = kk M2 (nI k) := by
  refine lpk (κ := MM → Int32 → Option MM) (σ := MM × Nat) (fun kk f st => fX12_laysRounds_l180 kk f st.1 (nI k) (nI st.2)) (fun kk M2 => kk M2 (nI k)) n
    (fun y st => y = st.2 ∧ Fr [113] M st.1 ∧ RR st.1 (dpR D B k y)) _ ?_ ?_ FU 0 (M, 0) (by omega) (by show _ < 5000; omega) ⟨rfl, Fr.rfl, hR⟩
  · rintro y ⟨M1, y2⟩ hy ⟨rfl, hF, b1⟩
    simp only [] at hF b1
    obtain ⟨M2, c1, c2, c3⟩ := rnd_y (M := M1) (y := y) hn (by rw [hF.gi (by decide)]; exact h90) (dpR_I hn hD hI y (by omega)) hD (fun i j h1 h2 => by rw [hF.gi (by decide)]; exact h111 i j h1 h2) b1 (by rw [dpR_at y (by omega)]; exact hk) hy
    exact Or.inl ⟨(M2, y + 1), ⟨rfl, hF.trans c1, c2⟩, fun kk f => c3 kk f⟩
  · rintro ⟨M1, y2⟩ ⟨rfl, hF, b1⟩
    refine ⟨M1, ⟨hF, b1⟩, fun kk f => ?_⟩
    show fX12_laysRounds_l180 kk (f + 1) M1 (nI k) (nI n) = _
    rw [fX12_laysRounds_l180.eq_2, show gI M1 90 14 = nI n by rw [hF.gi (by decide)]; exact h90, le_t (Nat.le_refl n) (by omega)]
theorem rnd_all {M : MM} {n : Nat} {D : Nat → Nat → Option Nat} {B : DPT} (hn : n ≤ 8) (h90 : gI M 90 14 = nI n) (hI : dpI n B) (hD : dpD D) (h111 : ∀ i j, i < n → j < n → gI M 111 (8 * i + j) = nvI (D i j)) (hR : RR M B) :
    ∃ M2, fX12_laysRounds_l152 FU M (nI 8) = some M2 ∧ Fr [113] M M2 ∧ RR M2 (dpA D n B (8 * (2 ^ n - 1))) := by
  have hp := p8 hn
  have hp0 : 0 < 2 ^ n := Nat.pow_pos (by decide)
  have key := lpk (κ := Unit) (σ := MM × Nat) (fun _ f st => fX12_laysRounds_l152 f st.1 (nI (8 + st.2))) (fun _ M2 => some M2) (8 * (2 ^ n - 1))
    (fun m st => m = st.2 ∧ Fr [113] M st.1 ∧ RR st.1 (dpA D n B m)) (fun M2 => Fr [113] M M2 ∧ RR M2 (dpA D n B (8 * (2 ^ n - 1)))) ?_ ?_ FU 0 (M, 0) (by omega) (by show _ < 5000; omega) ⟨rfl, Fr.rfl, hR⟩
  · obtain ⟨M2, ⟨h1, h2⟩, h3⟩ := key
    exact ⟨M2, h3 (), h1, h2⟩
  · rintro m ⟨M1, m2⟩ hm ⟨rfl, hF, b1⟩
    simp only [] at hF b1
    have e14 : gI M1 90 14 = nI n := by rw [hF.gi (by decide)]; exact h90
    have hIA := dpA_I hn hD hI m
    have hd : ∀ f, fX12_laysRounds_l152 (f + 1) M1 (nI (8 + m)) = if r9 (dpA D n B m (8 + m)) = 9999 then fX12_laysRounds_l152 f M1 (nI (8 + m) + 1) else fX12_laysRounds_l180 (fun M91 y92 => fX12_laysRounds_l152 f M91 (y92 + 1)) FU M1 (nI (8 + m)) 0 := fun f => by
      rw [fX12_laysRounds_l152.eq_2, e14, shl8 n (by omega), le_f (by omega) (by omega), gd_inb (by omega) (by decide), ix_nI (by omega), b1 _ (by omega)]
    cases e : dpA D n B m (8 + m) with
    | none =>
      refine Or.inl ⟨(M1, m + 1), ⟨rfl, hF, ?_⟩, fun _ f => ?_⟩
      · show RR M1 (dpR D (dpA D n B m) (8 + m) n)
        rw [dpR_out e]; exact b1
      · show fX12_laysRounds_l152 (f + 1) M1 (nI (8 + m)) = fX12_laysRounds_l152 f M1 (nI (8 + m + 1))
        rw [hd, e, if_pos (show r9 none = 9999 from rfl), nI_1]
    | some v =>
      obtain ⟨M2, ⟨c1, c2⟩, c3⟩ := rnd_k (M := M1) hn e14 hIA hD (fun i j h1 h2 => by rw [hF.gi (by decide)]; exact h111 i j h1 h2) b1 e
      have hv := (hIA _ _ e).2.2
      have hbc : bcN ((8 + m) / 8) ≤ 10 := cntN_le _ _
      refine Or.inl ⟨(M2, m + 1), ⟨rfl, hF.trans c1, c2⟩, fun _ f => ?_⟩
      show fX12_laysRounds_l152 (f + 1) M1 (nI (8 + m)) = fX12_laysRounds_l152 f M2 (nI (8 + m + 1))
      rw [hd, e, show r9 (some v) = nI v from rfl, nl9999, eqn_f (by omega) (by omega) (by decide), nl0, c3, nI_1]
  · rintro ⟨M1, m2⟩ ⟨hm, hF, b1⟩
    simp only [] at hm hF b1
    refine ⟨M1, ⟨hF, b1⟩, fun _ f => ?_⟩
    show fX12_laysRounds_l152 (f + 1) M1 (nI (8 + m2)) = _
    rw [fX12_laysRounds_l152.eq_2, show gI M1 90 14 = nI n by rw [hF.gi (by decide)]; exact h90, shl8 n (by omega), le_t (by omega) (by omega)]
theorem rnd_ini {M : MM} {n : Nat} {pl : Nat → Nat} {d0 : Nat → Option Nat} (hn : n ≤ 8) (h90 : gI M 90 14 = nI n) (hd : ∀ y v, d0 y = some v → v ≤ 63) (h97 : ∀ y, y < n → gI M 97 y = nI (pl y) ∧ pl y < 64) (h110 : ∀ y, y < n → gI M 110 (pl y) = nvI (d0 y)) (h113 : ∀ k, k < 2048 → gI M 113 k = 9999) :
    ∃ M2, (Fr [113] M M2 ∧ RR M2 (dp0 d0 n)) ∧ ∀ kk : MM → Option MM, fX12_laysRounds_l95 kk FU M (nI 0) = kk M2 := by
  refine lpk (κ := MM → Option MM) (σ := MM × Nat) (fun kk f st => fX12_laysRounds_l95 kk f st.1 (nI st.2)) (fun kk M2 => kk M2) n
    (fun i st => i = st.2 ∧ Fr [113] M st.1 ∧ RR st.1 (dp0 d0 i)) _ ?_ ?_ FU 0 (M, 0) (by omega) (by show _ < 5000; omega) ⟨rfl, Fr.rfl, fun k hk => by
      rw [h113 k hk]; unfold dp0; rw [if_neg (by omega)]; rfl⟩
  · rintro y ⟨M1, i2⟩ hy ⟨rfl, hF, b1⟩
    simp only [] at hF b1
    obtain ⟨e1, e2⟩ := h97 y hy
    have e1 : gI M1 97 y = nI (pl y) := by rw [hF.gi (by decide)]; exact e1
    have e3 : gI M1 110 (pl y) = nvI (d0 y) := by rw [hF.gi (by decide)]; exact h110 y hy
    have e4 : gI M1 90 14 = nI n := by rw [hF.gi (by decide)]; exact h90
    have hl := p2T_lt (y := y) (by omega)
    cases z : d0 y with
    | none =>
      refine Or.inl ⟨(M1, y + 1), ⟨rfl, hF, fun k hk => ?_⟩, fun kk f => ?_⟩
      · show gI M1 113 k = _
        rw [dp0_s (by omega), b1 k hk]
        by_cases w : k = p2T y
        · rw [if_pos w, z, w, dp0_at (by omega)]
        · rw [if_neg w]
      · show fX12_laysRounds_l95 kk (f + 1) M1 (nI y) = fX12_laysRounds_l95 kk f M1 (nI (y + 1))
        rw [fX12_laysRounds_l95.eq_2, e4, le_f hy (by omega), gd_inb (by omega) (by decide), ix_nI (by omega), e1, gd_inb e2 (by decide), ix_nI (by omega), e3, z, if_pos (show nvI none = 99 from rfl), nI_1]
    | some v =>
      have hv := hd _ _ z
      refine Or.inl ⟨(sI M1 113 (p2T y) (nI v), y + 1), ⟨rfl, hF.pI (by decide), fun k hk => ?_⟩, fun kk f => ?_⟩
      · show gI (sI M1 113 (p2T y) (nI v)) 113 k = _
        rw [dp0_s (by omega)]
        by_cases w : k = p2T y
        · rw [w, gI_eq, if_pos rfl, z]; rfl
        · rw [gI_nk _ _ _ _ _ _ w, if_neg w]; exact b1 k hk
      · show fX12_laysRounds_l95 kk (f + 1) M1 (nI y) = fX12_laysRounds_l95 kk f (sI M1 113 (p2T y) (nI v)) (nI (y + 1))
        rw [fX12_laysRounds_l95.eq_2, e4, le_f hy (by omega), gd_inb (by omega) (by decide), ix_nI (by omega), e1, gd_inb e2 (by decide), ix_nI (by omega), e3, z, show nvI (some v) = nI v from rfl, nl99, eqn_f (by omega) (by omega) (by decide), gd_inb (by omega) (by decide), gd_inb e2 (by decide), shl_nI (by omega), nl8, pk_mul, nI_add, show 8 * 2 ^ y + y = p2T y from rfl, gd_inb hl (by decide), ix_nI (by omega), bnd_r, nI_1]
  · rintro ⟨M1, i2⟩ ⟨rfl, hF, b1⟩
    refine ⟨M1, ⟨hF, b1⟩, fun kk f => ?_⟩
    show fX12_laysRounds_l95 kk (f + 1) M1 (nI n) = _
    rw [fX12_laysRounds_l95.eq_2, show gI M1 90 14 = nI n by rw [hF.gi (by decide)]; exact h90, le_t (Nat.le_refl n) (by omega)]
theorem rnd_fill {M : MM} {N : Nat} (hN : N = 2048) : ∃ M2, (Fr [113] M M2 ∧ ∀ k, k < N → gI M2 113 k = 9999) ∧ ∀ kk : MM → Option MM, fX12_laysRounds_l71 kk FU M (nI 0) = kk M2 := by
  refine lpk (κ := MM → Option MM) (σ := MM × Nat) (fun kk f st => fX12_laysRounds_l71 kk f st.1 (nI st.2)) (fun kk M2 => kk M2) N
    (fun i st => i = st.2 ∧ Fr [113] M st.1 ∧ ∀ k, k < i → gI st.1 113 k = 9999) _ ?_ ?_ FU 0 (M, 0) (by omega) (by show _ < 5000; omega) ⟨rfl, Fr.rfl, fun k hk => absurd hk (Nat.not_lt_zero k)⟩
  · rintro i ⟨M1, i2⟩ hi ⟨rfl, hF, b1⟩
    simp only [] at hF b1
    refine Or.inl ⟨(sI M1 113 i 9999, i + 1), ⟨rfl, hF.pI (by decide), fun k hk => ?_⟩, fun kk f => ?_⟩
    · show gI (sI M1 113 i 9999) 113 k = _
      by_cases e : k = i
      · rw [e, gI_eq]
      · rw [gI_nk _ _ _ _ _ _ e]; exact b1 k (by omega)
    · show fX12_laysRounds_l71 kk (f + 1) M1 (nI i) = fX12_laysRounds_l71 kk f (sI M1 113 i 9999) (nI (i + 1))
      rw [fX12_laysRounds_l71.eq_2, show (2048 : Int32) = nI 2048 from rfl, le_f (by omega) (by decide), gd_inb (by omega) (by decide), ix_nI (by omega), bnd_r, nI_1]
  · rintro ⟨M1, i2⟩ ⟨rfl, hF, b1⟩
    refine ⟨M1, ⟨hF, b1⟩, fun kk f => ?_⟩
    show fX12_laysRounds_l71 kk (f + 1) M1 (nI N) = _
    rw [fX12_laysRounds_l71.eq_2, show (2048 : Int32) = nI 2048 from rfl, le_t (by omega) (by omega)]
theorem apart_row {M : MM} {n i : Nat} {pl : Nat → Nat} {d0 : Nat → Option Nat} {x : Int32} (hn : n ≤ 8) (hi : i < n) (h90 : gI M 90 14 = nI n) (h97 : ∀ y, y < n → gI M 97 y = nI (pl y) ∧ pl y < 64) (h110 : ∀ y, y < n → gI M 110 (pl y) = nvI (d0 y)) :
    ∃ M2, (Fr [111] M M2 ∧ (∀ y, y < n → gI M2 111 (8 * i + y) = nvI (d0 y)) ∧ ∀ k, k < 8 * i → gI M2 111 k = gI M 111 k) ∧ ∀ kk : MM → Int32 → Int32 → Option MM, fX12_laysRounds_l22 kk FU M x (nI i) (nI 0) = kk M2 x (nI i) := by
  refine lpk (κ := MM → Int32 → Int32 → Option MM) (σ := MM × Nat) (fun kk f st => fX12_laysRounds_l22 kk f st.1 x (nI i) (nI st.2)) (fun kk M2 => kk M2 x (nI i)) n
    (fun j st => j = st.2 ∧ Fr [111] M st.1 ∧ (∀ y, y < j → gI st.1 111 (8 * i + y) = nvI (d0 y)) ∧ ∀ k, k < 8 * i → gI st.1 111 k = gI M 111 k) _ ?_ ?_ FU 0 (M, 0) (by omega) (by show _ < 5000; omega) ⟨rfl, Fr.rfl, fun y hy => absurd hy (Nat.not_lt_zero y), fun _ _ => rfl⟩
  · rintro y ⟨M1, i2⟩ hy ⟨rfl, hF, b1, b2⟩
    simp only [] at hF b1 b2
    obtain ⟨e1, e2⟩ := h97 y hy
    have e1 : gI M1 97 y = nI (pl y) := by rw [hF.gi (by decide)]; exact e1
    have e3 : gI M1 110 (pl y) = nvI (d0 y) := by rw [hF.gi (by decide)]; exact h110 y hy
    have e4 : gI M1 90 14 = nI n := by rw [hF.gi (by decide)]; exact h90
    refine Or.inl ⟨(sI M1 111 (8 * i + y) (nvI (d0 y)), y + 1), ⟨rfl, hF.pI (by decide), fun k hk => ?_, fun k hk => ?_⟩, fun kk f => ?_⟩
    · show gI (sI M1 111 (8 * i + y) (nvI (d0 y))) 111 (8 * i + k) = _
      by_cases z : k = y
      · rw [z, gI_eq]
      · rw [gI_nk _ _ _ _ _ _ (by omega)]; exact b1 k (by omega)
    · show gI (sI M1 111 (8 * i + y) (nvI (d0 y))) 111 k = _
      rw [gI_nk _ _ _ _ _ _ (by omega)]; exact b2 k hk
    · show fX12_laysRounds_l22 kk (f + 1) M1 x (nI i) (nI y) = fX12_laysRounds_l22 kk f (sI M1 111 (8 * i + y) (nvI (d0 y))) x (nI i) (nI (y + 1))
      rw [fX12_laysRounds_l22.eq_2, e4, le_f hy (by omega), gd_inb (by omega) (by decide), ix_nI (by omega), e1, gd_inb e2 (by decide), ix_nI (by omega), e3, nl8, pk_mul, nI_add, gd_inb (by omega) (by decide), ix_nI (by omega), bnd_r, nI_1]
  · rintro ⟨M1, i2⟩ ⟨rfl, hF, b1, b2⟩
    refine ⟨M1, ⟨hF, b1, b2⟩, fun kk f => ?_⟩
    show fX12_laysRounds_l22 kk (f + 1) M1 x (nI i) (nI n) = _
    rw [fX12_laysRounds_l22.eq_2, show gI M1 90 14 = nI n by rw [hF.gi (by decide)]; exact h90, le_t (Nat.le_refl n) (by omega)]
theorem apart_all {M : MM} {o : Nat} {P : PARD} {x : Int32} (hP : PW P) (hM : MS M o P (scnOf P)) :
    ∃ M2, (Fr [110, 111, 112] M M2 ∧ ∀ i j, i < pS P → j < pS P → gI M2 111 (8 * i + j) = nvI (dPP P i j)) ∧ ∀ kk : MM → Int32 → Option MM, fX12_laysRounds_l2 kk FU M x (nI 0) = kk M2 x := by
  have hn := hP.2.2.2.1
  have hsh := hP.2.2.2.2.2.2.1
  have hh8 := hP.2.1.2
  refine lpk (κ := MM → Int32 → Option MM) (σ := MM × Nat) (fun kk f st => fX12_laysRounds_l2 kk f st.1 x (nI st.2)) (fun kk M2 => kk M2 x) (pS P)
    (fun i st => i = st.2 ∧ Fr [110, 111, 112] M st.1 ∧ ∀ x j, x < i → j < pS P → gI st.1 111 (8 * x + j) = nvI (dPP P x j)) _ ?_ ?_ FU 0 (M, 0) (by omega) (by show _ < 5000; omega) ⟨rfl, Fr.rfl, fun x j hx => absurd hx (Nat.not_lt_zero x)⟩
  · rintro i ⟨M1, i2⟩ hi ⟨rfl, hF, b1⟩
    simp only [] at hF b1
    have h97 : ∀ M3, Fr [110, 111, 112] M M3 → ∀ y, y < pS P → gI M3 97 y = nI (pSh P y 1) ∧ pSh P y 1 < 64 := fun M3 h3 y hy => ⟨(MS_fr hM h3 (by decide)).2.2.2.2.2.2.2.2.2.2.1 y hy 1 (by decide), inP_64 hh8 (hsh y hy).2.1⟩
    have h14 : ∀ M3, Fr [110, 111, 112] M M3 → gI M3 90 14 = nI (pS P) := fun M3 h3 => (MS_fr hM h3 (by decide)).2.2.2.2.2.2.2.2.1
    obtain ⟨M2, c1, c2, c3, -⟩ := walks_spec hP (MS_fr hM hF (by decide)) (hsh i hi).2.1
    have hF2 := hF.trans (c2.mono (by decide))
    obtain ⟨M3, ⟨d1, d2, d3⟩, d4⟩ := apart_row (d0 := fun j => dPP P i j) (x := x) hn hi (h14 M2 hF2) (h97 M2 hF2) (fun y hy => c3 _ (h97 M2 hF2 y hy).2)
    refine Or.inl ⟨(M3, i + 1), ⟨rfl, hF2.trans (d1.mono (by decide)), fun x j hx hj => ?_⟩, fun kk f => ?_⟩
    · show gI M3 111 (8 * x + j) = _
      by_cases z : x = i
      · rw [z]; exact d2 j hj
      · rw [d3 _ (by omega), c2.gi (by decide)]; exact b1 x j (by omega) hj
    · show fX12_laysRounds_l2 kk (f + 1) M1 x (nI i) = fX12_laysRounds_l2 kk f M3 x (nI (i + 1))
      rw [fX12_laysRounds_l2.eq_2, h14 M1 hF, le_f hi (by omega), gd_inb (by omega) (by decide), ix_nI (by omega), (h97 M1 hF i hi).1, c1, bd_s, nl0, d4, nI_1]
  · rintro ⟨M1, i2⟩ ⟨rfl, hF, b1⟩
    refine ⟨M1, ⟨hF, b1⟩, fun kk f => ?_⟩
    show fX12_laysRounds_l2 kk (f + 1) M1 x (nI (pS P)) = _
    rw [fX12_laysRounds_l2.eq_2, show gI M1 90 14 = nI (pS P) from (MS_fr hM hF (by decide)).2.2.2.2.2.2.2.2.1, le_t (Nat.le_refl _) (by omega)]
theorem rnd_ref {M : MM} {o : Nat} {P : PARD} (hP : PW P) (hM : MS M o P (scnOf P)) {D : Nat → Nat → Option Nat} (hD : dpD D) (eD : ∀ i j, i < pS P → D i j = dPP P i j) {q : Nat} (hq : inP (pW P) (pH P) q) :
    ∃ M2, fX12_laysRounds M (nI q) = some M2 ∧ Fr [110, 111, 112, 113] M M2 ∧ RR M2 (dpA D (pS P) (dp0 (fun y => wlk P q (pSh P y 1)) (pS P)) (8 * (2 ^ pS P - 1))) := by
  have hn := hP.2.2.2.1
  have hsh := hP.2.2.2.2.2.2.1
  have hh8 := hP.2.1.2
  obtain ⟨M1, ⟨a1, a2⟩, a3⟩ := apart_all (x := nI q) hP hM
  have hM1 := MS_fr hM a1 (by decide)
  obtain ⟨M2, b1, b2, b3, -⟩ := walks_spec hP hM1 hq
  obtain ⟨M3, ⟨c1, c2⟩, c3⟩ := rnd_fill (M := M2) rfl
  have hM3 := MS_fr (MS_fr hM1 b2 (by decide)) c1 (by decide)
  have h14 : gI M3 90 14 = nI (pS P) := hM3.2.2.2.2.2.2.2.2.1
  obtain ⟨M4, ⟨d1, d2⟩, d3⟩ := rnd_ini (d0 := fun y => wlk P q (pSh P y 1)) hn h14 (fun y v e => wlk_le hP hq e) (fun y hy => ⟨hM3.2.2.2.2.2.2.2.2.2.2.1 y hy 1 (by decide), inP_64 hh8 (hsh y hy).2.1⟩) (fun y hy => by rw [c1.gi (by decide)]; exact b3 _ (inP_64 hh8 (hsh y hy).2.1)) c2
  obtain ⟨M5, e1, e2, e3⟩ := rnd_all (M := M4) (D := D) hn (by rw [d1.gi (by decide)]; exact h14) (dp0_I (fun y v e => wlk_le hP hq e)) hD (fun i j hi hj => by rw [eD i j hi, d1.gi (by decide), c1.gi (by decide), b2.gi (by decide)]; exact a2 i j hi hj) d2
  refine ⟨M5, ?_, (((a1.mono (by decide)).trans (b2.mono (by decide))).trans (c1.mono (by decide))).trans ((d1.mono (by decide)).trans (e2.mono (by decide))), e3⟩
  unfold fX12_laysRounds
  rw [nl0, a3, b1, bd_s, c3, d3]
  exact e1
