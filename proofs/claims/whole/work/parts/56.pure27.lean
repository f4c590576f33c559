/-! ===== alone: glances, the deepest ===== -/
def glV (S : SCN) (s t : Nat) : Nat := ((lookN S s 8 / 2 ^ t) &&& (lookN S t 8 / 2 ^ s)) % 2
def glA (S : SCN) (n : Nat) : Nat := sumN (fun s => sumN (glV S s) s) n
theorem glances_cls {M : MM} {S : SCN} (hB : BS M S aT) : fX0_glances M = some (nI (glA S (cS S))) := by
  have hS := hB.1.1
  have h8 := hS.2.2.2.1
  have h3 := hB.1.2.2.2.2.2.1
  have inner : ∀ s v, s < cS S → ∀ k : Int32 → Int32 → Option Int32, fX0_glances_l17 M k FU (nI v) (nI s) (nI 0) = k (nI (v + sumN (glV S s) s)) (nI s) := fun s v hs k => by
    have key := lpk (κ := Unit) (σ := Nat) (fun _ f st => fX0_glances_l17 M k f (nI (v + sumN (glV S s) st)) (nI s) (nI st)) (fun _ (_ : Unit) => k (nI (v + sumN (glV S s) s)) (nI s)) s
      (fun i st => i = st) (fun _ => True) ?_ ?_ FU 0 0 (by omega) (by show _ < 5000; omega) rfl
    · obtain ⟨_, -, h⟩ := key
      exact h ()
    · rintro t t2 ht rfl
      left
      have l1 := lookN_lt hS s 8
      have l2 := lookN_lt hS t 8
      refine ⟨t + 1, rfl, fun _ f => ?_⟩
      show fX0_glances_l17 M k (f + 1) (nI (v + sumN (glV S s) t)) (nI s) (nI t) = fX0_glances_l17 M k f (nI (v + (sumN (glV S s) t + glV S s t))) (nI s) (nI (t + 1))
      rw [fX0_glances_l17.eq_2, le_f ht (by omega), gd_inb (by omega) (by decide), gd_inb (by omega) (by decide), ix_nI (by omega), ix_nI (by omega), bnd_r, (hB.2 s hs rfl).2.1, (hB.2 t (by omega) rfl).2.1, ushr_nI (by omega) (by omega), ushr_nI (by omega) (by omega), and_nI, and1_nI, nI_add, nI_1, Nat.add_assoc]
      rfl
    · rintro t rfl
      refine ⟨(), trivial, fun _ f => ?_⟩
      show fX0_glances_l17 M k (f + 1) _ (nI s) (nI s) = _
      rw [fX0_glances_l17.eq_2, le_t (Nat.le_refl _) (by omega)]
  have key := lpk (κ := Unit) (σ := Nat) (fun _ f st => fX0_glances_l4 M f (nI (glA S st)) (nI st)) (fun _ (_ : Unit) => some (nI (glA S (cS S)))) (cS S)
    (fun i st => i = st) (fun _ => True) ?_ ?_ FU 0 0 (by omega) (by show _ < 5000; omega) rfl
  · obtain ⟨_, -, h⟩ := key
    exact h ()
  · rintro s s2 hs rfl
    left
    refine ⟨s + 1, rfl, fun _ f => ?_⟩
    show fX0_glances_l4 M (f + 1) (nI (glA S s)) (nI s) = fX0_glances_l4 M f (nI (glA S s + sumN (glV S s) s)) (nI (s + 1))
    rw [fX0_glances_l4.eq_2, h3, le_f hs (by omega), nl0, inner s _ hs, nI_1]
  · rintro s rfl
    refine ⟨(), trivial, fun _ f => ?_⟩
    show fX0_glances_l4 M (f + 1) _ (nI (cS S)) = _
    rw [fX0_glances_l4.eq_2, h3, le_t (Nat.le_refl _) (by omega)]
theorem glances_ref {M : MM} {o : Nat} {P : PARD} {S : SCN} (hM : MS M o P S) (hO : LO M S) : fX12_glances M = some (nI (glA S (cS S))) := by
  have hS := hM.2.2.2.2.1
  have h8 := hS.2.2.2.1
  have h14 := hM.2.2.2.2.2.2.2.2.1
  have inner : ∀ s v, s < cS S → ∀ k : Int32 → Int32 → Option Int32, fX12_glances_l14 M k FU (nI v) (nI s) (nI 0) = k (nI (v + sumN (glV S s) s)) (nI s) := fun s v hs k => by
    have key := lpk (κ := Unit) (σ := Nat) (fun _ f st => fX12_glances_l14 M k f (nI (v + sumN (glV S s) st)) (nI s) (nI st)) (fun _ (_ : Unit) => k (nI (v + sumN (glV S s) s)) (nI s)) s
      (fun i st => i = st) (fun _ => True) ?_ ?_ FU 0 0 (by omega) (by show _ < 5000; omega) rfl
    · obtain ⟨_, -, h⟩ := key
      exact h ()
    · rintro t t2 ht rfl
      left
      have l1 := lookN_lt hS s 8
      have l2 := lookN_lt hS t 8
      refine ⟨t + 1, rfl, fun _ f => ?_⟩
      show fX12_glances_l14 M k (f + 1) (nI (v + sumN (glV S s) t)) (nI s) (nI t) = fX12_glances_l14 M k f (nI (v + (sumN (glV S s) t + glV S s t))) (nI s) (nI (t + 1))
      rw [fX12_glances_l14.eq_2, le_f ht (by omega), gd_inb (by omega) (by decide), gd_inb (by omega) (by decide), ix_nI (by omega), ix_nI (by omega), bnd_r, hO.2 s hs, hO.2 t (by omega), shr_nI (by omega) (by omega), shr_nI (by omega) (by omega), and_nI, and1_nI, nI_add, nI_1, Nat.add_assoc]
      rfl
    · rintro t rfl
      refine ⟨(), trivial, fun _ f => ?_⟩
      show fX12_glances_l14 M k (f + 1) _ (nI s) (nI s) = _
      rw [fX12_glances_l14.eq_2, le_t (Nat.le_refl _) (by omega)]
  have key := lpk (κ := Unit) (σ := Nat) (fun _ f st => fX12_glances_l4 M f (nI (glA S st)) (nI st)) (fun _ (_ : Unit) => some (nI (glA S (cS S)))) (cS S)
    (fun i st => i = st) (fun _ => True) ?_ ?_ FU 0 0 (by omega) (by show _ < 5000; omega) rfl
  · obtain ⟨_, -, h⟩ := key
    exact h ()
  · rintro s s2 hs rfl
    left
    refine ⟨s + 1, rfl, fun _ f => ?_⟩
    show fX12_glances_l4 M (f + 1) (nI (glA S s)) (nI s) = fX12_glances_l4 M f (nI (glA S s + sumN (glV S s) s)) (nI (s + 1))
    rw [fX12_glances_l4.eq_2, h14, le_f hs (by omega), nl0, inner s _ hs, nI_1]
  · rintro s rfl
    refine ⟨(), trivial, fun _ f => ?_⟩
    show fX12_glances_l4 M (f + 1) _ (nI (cS S)) = _
    rw [fX12_glances_l4.eq_2, h14, le_t (Nat.le_refl _) (by omega)]
/-- the deepest and 1; 0 for none -/
def dpN (S : SCN) : Nat → Nat
  | 0 => 0
  | k + 1 => if k % 8 < cN S ∧ dgN S (k / 8) (k % 8) ≠ 99 ∧ dpN S k < dgN S (k / 8) (k % 8) + 1 then dgN S (k / 8) (k % 8) + 1 else dpN S k
theorem dpN_100 (S : SCN) : ∀ k, dpN S k ≤ 100
  | 0 => by rw [dpN]; omega
  | k + 1 => by
    have := dpN_100 S k
    have := dg_99 S (k / 8) (k % 8)
    rw [dpN]
    split <;> omega
theorem dpN_is (S : SCN) : ∀ k, dpN S k = 0 ∨ ∃ i, i < k ∧ i % 8 < cN S ∧ dgN S (i / 8) (i % 8) ≠ 99 ∧ dpN S k = dgN S (i / 8) (i % 8) + 1
  | 0 => Or.inl rfl
  | k + 1 => by
    rw [dpN]
    by_cases c : k % 8 < cN S ∧ dgN S (k / 8) (k % 8) ≠ 99 ∧ dpN S k < dgN S (k / 8) (k % 8) + 1
    · rw [if_pos c]
      exact Or.inr ⟨k, by omega, c.1, c.2.1, rfl⟩
    · rw [if_neg c]
      rcases dpN_is S k with h | ⟨i, h1, h2⟩
      · exact Or.inl h
      · exact Or.inr ⟨i, by omega, h2⟩
theorem dpN_ge (S : SCN) : ∀ k i, i < k → i % 8 < cN S → dgN S (i / 8) (i % 8) ≠ 99 → dgN S (i / 8) (i % 8) + 1 ≤ dpN S k
  | 0, i, h, _, _ => absurd h (Nat.not_lt_zero i)
  | k + 1, i, h, h1, h2 => by
    rw [dpN]
    by_cases e : i = k
    · subst e
      by_cases c : i % 8 < cN S ∧ dgN S (i / 8) (i % 8) ≠ 99 ∧ dpN S i < dgN S (i / 8) (i % 8) + 1
      · rw [if_pos c]; exact Nat.le_refl _
      · rw [if_neg c]
        rcases Nat.lt_or_ge (dpN S i) (dgN S (i / 8) (i % 8) + 1) with z | z
        · exact absurd ⟨h1, h2, z⟩ c
        · exact z
    · have ih := dpN_ge S k i (by omega) h1 h2
      by_cases c : k % 8 < cN S ∧ dgN S (k / 8) (k % 8) ≠ 99 ∧ dpN S k < dgN S (k / 8) (k % 8) + 1
      · rw [if_pos c]; omega
      · rw [if_neg c]; exact ih
theorem deep_ref {M : MM} {o : Nat} {P : PARD} {S : SCN} (hM : MS M o P S) (hO : LO M S) : fX12_deep M = some (m1I (dpN S (8 * cS S))) := by
  have hS := hM.2.2.2.2.1
  have h8 := hS.2.2.2.1
  have hn8 := hS.2.2.1
  have h13 := hM.2.2.2.2.2.2.2.1
  have h14 := hM.2.2.2.2.2.2.2.2.1
  have key := lpk (κ := Unit) (σ := Nat) (fun _ f st => fX12_deep_l4 M f (m1I (dpN S st)) (nI st)) (fun _ (_ : Unit) => some (m1I (dpN S (8 * cS S)))) (8 * cS S)
    (fun i st => i = st) (fun _ => True) ?_ ?_ FU 0 0 (by omega) (by show _ < 5000; omega) rfl
  · obtain ⟨_, -, h⟩ := key
    exact h ()
  · rintro k k2 hk rfl
    left
    have h99 := dg_99 S (k / 8) (k % 8)
    have h100 := dpN_100 S k
    have hd : gI M 102 k = nI (dgN S (k / 8) (k % 8)) := by
      have := hO.1 (k / 8) (k % 8) (by omega) (by omega)
      rw [show 8 * (k / 8) + k % 8 = k by omega] at this
      exact this
    refine ⟨k + 1, rfl, fun _ f => ?_⟩
    show fX12_deep_l4 M (f + 1) (m1I (dpN S k)) (nI k) = fX12_deep_l4 M f (m1I (dpN S (k + 1))) (nI (k + 1))
    rw [fX12_deep_l4.eq_2, h14, nl8, pk_mul, le_f hk (by omega), pk_rem (by omega) (by decide) (by decide), h13, dpN, nI_1]
    by_cases c1 : k % 8 < cN S
    · rw [le_f c1 (by omega), gd_inb (by omega) (by decide), ix_nI (by omega), hd, nl99]
      by_cases c2 : dgN S (k / 8) (k % 8) = 99
      · rw [eqn_t c2, if_neg (fun z => z.2.1 c2)]
      · rw [eqn_f c2 (by omega) (by decide), gd_inb (by omega) (by decide)]
        have cmp : nI (dgN S (k / 8) (k % 8)) ≤ m1I (dpN S k) ↔ dgN S (k / 8) (k % 8) + 1 ≤ dpN S k := by
          rw [Int32.le_iff_toInt_le, nI_toInt (by omega)]
          unfold m1I
          rw [sub1_toInt (by omega)]
          omega
        by_cases c3 : dgN S (k / 8) (k % 8) + 1 ≤ dpN S k
        · rw [if_pos (cmp.mpr c3), if_neg (fun z => by have := z.2.2; omega)]
        · rw [if_neg (fun z => c3 (cmp.mp z)), gd_inb (by omega) (by decide), bnd_r, if_pos ⟨c1, c2, by omega⟩, m1I_s]
    · rw [le_t (by omega) (by omega), if_neg (fun z => c1 z.1)]
  · rintro k rfl
    refine ⟨(), trivial, fun _ f => ?_⟩
    show fX12_deep_l4 M (f + 1) _ (nI (8 * cS S)) = _
    rw [fX12_deep_l4.eq_2, h14, nl8, pk_mul, le_t (Nat.le_refl _) (by omega)]
theorem met_bit {S : SCN} {n p : Nat} : (metA S n).testBit p = true ↔ ∃ s, s < n ∧ (nearM S 8 s).testBit p = true := by
  unfold metA
  rw [orN_bit]
  exact ⟨fun ⟨t, a, _, b⟩ => ⟨t, a, b⟩, fun ⟨t, a, b⟩ => ⟨t, a, rfl, b⟩⟩
theorem met_lt {S : SCN} (hS : SW S) (n : Nat) : metA S n < 256 := orN_lt (fun t _ => nearM_lt hS 8 t)
theorem near_ne {S : SCN} (hS : SW S) {j s : Nat} (h : nearM S (j + 1) s ≠ nearM S j s) : ∃ p, (nearM S (j + 1) s).testBit p = true ∧ (nearM S j s).testBit p = false := by
  refine Classical.byContradiction (fun hn => h (mask_ext (nearM_lt hS (j + 1) s) (nearM_lt hS j s) (fun p _ => ?_)))
  cases z : (nearM S j s).testBit p with
  | true => exact near_step.mpr (Or.inl z)
  | false =>
    cases z2 : (nearM S (j + 1) s).testBit p with
    | false => rfl
    | true => exact absurd ⟨p, z2, z⟩ hn
theorem deep_val {S : SCN} (hS : SW S) {r : Nat} (hr8 : r ≤ 8) (h1 : ∀ s, s < cS S → nearM S r s = nearM S 8 s) (h2 : ∀ j, j < r → ∃ s, s < cS S ∧ nearM S (j + 1) s ≠ nearM S j s) : (if metA S (cS S) = 0 then (-1 : Int32) else nI r) = m1I (dpN S (8 * cS S)) := by
  have hn8 := hS.2.2.1
  have at8 : ∀ s p, p < 8 → (8 * s + p) / 8 = s ∧ (8 * s + p) % 8 = p := fun s p hp => by omega
  by_cases c : metA S (cS S) = 0
  · rw [if_pos c]
    rcases dpN_is S (8 * cS S) with e | ⟨i, i1, i2, i3, -⟩
    · rw [e]; rfl
    · exfalso
      apply i3
      rw [dg_never hS (show i / 8 < cS S by omega)]
      cases z : (nearM S 8 (i / 8)).testBit (i % 8) with
      | false => rfl
      | true =>
        have : (metA S (cS S)).testBit (i % 8) = true := met_bit.mpr ⟨i / 8, by omega, z⟩
        rw [c, tb_0] at this
        cases this
  · rw [if_neg c]
    have hex : ∃ s p, s < cS S ∧ p < cN S ∧ dgN S s p = r := by
      rcases Nat.eq_zero_or_pos r with z | z
      · have hp : ∃ p, (metA S (cS S)).testBit p = true := by
          refine Classical.byContradiction (fun hn => c (mask_ext (met_lt hS _) (by decide) (fun p _ => ?_)))
          rw [tb_0]
          cases k : (metA S (cS S)).testBit p with
          | false => rfl
          | true => exact absurd ⟨p, k⟩ hn
        obtain ⟨p, hp⟩ := hp
        obtain ⟨s, hs, hb⟩ := met_bit.mp hp
        refine ⟨s, p, hs, near_bit hS hb, ?_⟩
        rw [← h1 s hs, z] at hb
        have := (dg_le hS (p := p) (c := 0) hs (by decide)).mpr hb
        omega
      · obtain ⟨s, hs, hne⟩ := h2 (r - 1) (by omega)
        rw [show r - 1 + 1 = r by omega] at hne
        have hne2 : nearM S (r - 1 + 1) s ≠ nearM S (r - 1) s := by rw [show r - 1 + 1 = r by omega]; exact hne
        obtain ⟨p, p1, p2⟩ := near_ne hS hne2
        rw [show r - 1 + 1 = r by omega] at p1
        refine ⟨s, p, hs, near_bit hS p1, ?_⟩
        have a := (dg_le hS (p := p) (c := r) hs (by omega)).mpr p1
        rcases Nat.lt_or_ge (dgN S s p) r with q | q
        · have := (dg_le hS (p := p) (c := r - 1) hs (by omega)).mp (by omega)
          rw [p2] at this
          cases this
        · omega
    obtain ⟨s, p, hs, hp, hd⟩ := hex
    obtain ⟨q1, q2⟩ := at8 s p (by omega)
    have lo := dpN_ge S (8 * cS S) (8 * s + p) (by omega) (by rw [q2]; exact hp) (by rw [q1, q2, hd]; omega)
    rw [q1, q2, hd] at lo
    rcases dpN_is S (8 * cS S) with e | ⟨i, i1, i2, i3, i4⟩
    · omega
    · have hi : i / 8 < cS S := by omega
      have hb : (nearM S 8 (i / 8)).testBit (i % 8) = true := by
        cases z : (nearM S 8 (i / 8)).testBit (i % 8) with
        | true => rfl
        | false => exact absurd ((dg_never hS hi).mpr z) i3
      rw [← h1 _ hi] at hb
      have := (dg_le hS (p := i % 8) (c := r) hi (by omega)).mpr hb
      rw [show dpN S (8 * cS S) = r + 1 by omega, m1I_s]
theorem orN_b {n : Nat} {f : Nat → Nat} {g g2 : Nat → Bool} (h : ∀ k, k < n → g k = g2 k) : orN f g n = orN f g2 n := orN_cong (fun _ _ => rfl) h
theorem e28 : E28 Inv := by
  intro K M x1 x2 hI
  refine p_case (v := -2) hI (C := fX11_alone M x1 x2) (R := fun M1 => fX12_alone M1 x1 x2) rfl (fun _ => rfl) ?_
  intro T j hW hC hM hB hj e
  have hP := hW.2.2.2.1 j hj
  have hSW := scn_SW hP
  have hn8 := hP.2.2.1
  have hs8 := hP.2.2.2.1
  have h2 := num_lt hW (s := 0) (by decide)
  have hcp := hC.2.2.2.2.2.1 j hj
  obtain ⟨M1, a1, a2, a3, a4, -⟩ := par_beg hW hC hB hj
  obtain ⟨M2, r, d1, d2, d3, d4, d5, d6, d7⟩ := spread_spec a3 (c := 8) (by decide)
  have hF2 : Fr cL M M2 := a2.trans (d2.mono (by decide))
  have e3 : gI M2 (1 + (6 + 16 * j)) 3 = nI (pS (tPar T j)) := by rw [hF2.gi (by simp; omega)]; exact hcp.2.2.2.1
  have e2 : gI M2 (1 + (6 + 16 * j)) 2 = nI (pN (tPar T j)) := by rw [hF2.gi (by simp; omega)]; exact hcp.2.2.1
  have hal := alone_loop (a := 1 + (6 + 16 * j)) hSW d3 e3 x2 (nI r)
  have hml := met_lt hSW (cS (scnOf (tPar T j)))
  have hBN2 : BN M2 := BN_fr a4 d2 (by decide) (by decide)
  have cls : ∀ (v : Int32), (if x2 = 0 then some (nI (blA (metA (scnOf (tPar T j)) (cS (scnOf (tPar T j)))) (pN (tPar T j))), M2) else (if x2 = 1 then some (nI (loneA (scnOf (tPar T j)) (cS (scnOf (tPar T j)))), M2) else (if x2 = 2 then some (nI (glA (scnOf (tPar T j)) (cS (scnOf (tPar T j)))), M2) else (if x2 = 3 then some (m1I (dpN (scnOf (tPar T j)) (8 * cS (scnOf (tPar T j)))), M2) else some (-2, M2))))) = some (v, M2) → (fX0_begin M (1 + (6 + 16 * j))).bind (fun p6 => (fX0_spread p6 8).bind (fun p8 => fX11_alone_l44 (fun M33 y34 a35 y36 y37 y38 => (if y34 = 0 then some (((jshl 1 (gI M33 a35 2)) - 1) &&& (y37 ^^^ (-1)), M33) else (if y34 = 1 then some (y38, M33) else (if y34 = 2 then (fX0_glances M33).bind (fun p45 => some (p45, M33)) else (if y34 = 3 then (if y37 = 0 then some ((-1), M33) else some (y36, M33)) else some ((-2), M33)))))) FU p8.2 x2 (1 + (6 + 16 * j)) p8.1 0 0 0)) = some (v, M2) := fun v hv => by
    rw [a1, bd_s]
    show ((fX0_spread M1 (nI 8)).bind _) = _
    rw [d1, bd_s]
    refine (hal _).trans (Eq.trans ?_ hv)
    by_cases c0 : x2 = 0
    · rw [if_pos c0, if_pos c0, e2, blind_I _ (by omega) _ hml]
    · rw [if_neg c0, if_neg c0]
      by_cases c1 : x2 = 1
      · rw [if_pos c1, if_pos c1]
      · rw [if_neg c1, if_neg c1]
        by_cases c2 : x2 = 2
        · rw [if_pos c2, if_pos c2, glances_cls d7]; rfl
        · rw [if_neg c2, if_neg c2]
          by_cases c3 : x2 = 3
          · rw [if_pos c3, if_pos c3, ← deep_val hSW d4 d5 d6]
            by_cases z : metA (scnOf (tPar T j)) (cS (scnOf (tPar T j))) = 0
            · rw [eqz_t z, if_pos z]
            · rw [eqz_f (by omega) (by omega), if_neg z]
          · rw [if_neg c3, if_neg c3]
  by_cases c0 : x2 = 0
  · refine ⟨nI (blA (metA (scnOf (tPar T j)) (cS (scnOf (tPar T j)))) (pN (tPar T j))), M2, cls _ (by rw [if_pos c0]), hF2, hBN2, fun M3 _ hS => ?_⟩
    obtain ⟨M4, f1, f2, f3, f4⟩ := laysOut_spec hS
    refine ⟨M4, ?_, f2.mono (by decide)⟩
    rw [f1, bd_s, if_pos c0]
    have eb : blA (metA (scnOf (tPar T j)) (cS (scnOf (tPar T j)))) (pN (tPar T j)) = orN (fun p => 2 ^ p) (fun p => allN (fun s => !(nearM (scnOf (tPar T j)) 8 s).testBit p) (cS (scnOf (tPar T j)))) (pN (tPar T j)) := by
      unfold blA
      refine orN_b (fun p _ => ?_)
      cases z : (metA (scnOf (tPar T j)) (cS (scnOf (tPar T j)))).testBit p with
      | true =>
        obtain ⟨s, hs, hb⟩ := met_bit.mp z
        cases q : allN (fun s => !(nearM (scnOf (tPar T j)) 8 s).testBit p) (cS (scnOf (tPar T j))) with
        | false => rfl
        | true =>
          have := allN_iff.mp q s hs
          rw [hb] at this
          cases this
      | false =>
        refine (allN_iff.mpr (fun s hs => ?_)).symm
        cases q : (nearM (scnOf (tPar T j)) 8 s).testBit p with
        | false => rfl
        | true => rw [met_bit.mpr ⟨s, hs, q⟩] at z; cases z
    rw [eb]
    have h13 := f4.2.2.2.2.2.2.2.1
    have key := lpk (κ := Unit) (σ := Nat) (fun _ f st => fX12_alone_l51 f M4 (nI (orN (fun p => 2 ^ p) (fun p => allN (fun s => !(nearM (scnOf (tPar T j)) 8 s).testBit p) (cS (scnOf (tPar T j)))) st)) (nI st)) (fun _ (_ : Unit) => some (nI (orN (fun p => 2 ^ p) (fun p => allN (fun s => !(nearM (scnOf (tPar T j)) 8 s).testBit p) (cS (scnOf (tPar T j)))) (pN (tPar T j))), M4)) (pN (tPar T j))
      (fun i st => i = st) (fun _ => True) ?_ ?_ FU 0 0 (by omega) (by show _ < 5000; omega) rfl
    · obtain ⟨_, -, h⟩ := key
      exact h ()
    · rintro p p2 hp rfl
      left
      refine ⟨p + 1, rfl, fun _ f => ?_⟩
      show fX12_alone_l51 (f + 1) M4 (nI (orN (fun p => 2 ^ p) (fun p => allN (fun s => !(nearM (scnOf (tPar T j)) 8 s).testBit p) (cS (scnOf (tPar T j)))) p)) (nI p) = fX12_alone_l51 f M4 (nI (if allN (fun s => !(nearM (scnOf (tPar T j)) 8 s).testBit p) (cS (scnOf (tPar T j))) then orN (fun p => 2 ^ p) (fun p => allN (fun s => !(nearM (scnOf (tPar T j)) 8 s).testBit p) (cS (scnOf (tPar T j)))) p ||| 2 ^ p else orN (fun p => 2 ^ p) (fun p => allN (fun s => !(nearM (scnOf (tPar T j)) 8 s).testBit p) (cS (scnOf (tPar T j)))) p)) (nI (p + 1))
      rw [fX12_alone_l51.eq_2, h13]
      rw [show (if nI (cN (scnOf (tPar T j))) ≤ nI p then _ else _) = _ from le_f hp (by show pN (tPar T j) < 2 ^ 31; omega), blind_ref f4 f3 (by omega), bd_s]
      unfold fX12_alone_j78
      cases allN (fun s => !(nearM (scnOf (tPar T j)) 8 s).testBit p) (cS (scnOf (tPar T j))) with
      | true => rw [bI_t, if_neg i10, bnd_r, shl_nI (by omega), or_nI, if_pos rfl, nI_1]
      | false => rw [bI_f, if_pos rfl, bnd_r, nl0, or_nI, Nat.or_zero, if_neg (by decide), nI_1]
    · rintro p rfl
      refine ⟨(), trivial, fun _ f => ?_⟩
      show fX12_alone_l51 (f + 1) M4 _ (nI (pN (tPar T j))) = _
      rw [fX12_alone_l51.eq_2, h13]
      exact le_t (Nat.le_refl _) (by show pN (tPar T j) < 2 ^ 31; omega)
  · by_cases c1 : x2 = 1
    · refine ⟨nI (loneA (scnOf (tPar T j)) (cS (scnOf (tPar T j)))), M2, cls _ (by rw [if_neg c0, if_pos c1]), hF2, hBN2, fun M3 _ hS => ?_⟩
      obtain ⟨M4, f1, f2, f3, f4⟩ := laysOut_spec hS
      refine ⟨M4, ?_, f2.mono (by decide)⟩
      rw [f1, bd_s, if_neg c0, if_pos c1]
      have eb : loneA (scnOf (tPar T j)) (cS (scnOf (tPar T j))) = orN (fun p => 2 ^ p) (fun s => allN (fun p => !(nearM (scnOf (tPar T j)) 8 s).testBit p) (cN (scnOf (tPar T j)))) (cS (scnOf (tPar T j))) := by
        unfold loneA
        refine orN_b (fun s hs => ?_)
        by_cases z : nearM (scnOf (tPar T j)) 8 s = 0
        · rw [decide_eq_true z]
          refine (allN_iff.mpr (fun p _ => ?_)).symm
          rw [z, tb_0]; rfl
        · rw [decide_eq_false z]
          cases q : allN (fun p => !(nearM (scnOf (tPar T j)) 8 s).testBit p) (cN (scnOf (tPar T j))) with
          | false => rfl
          | true =>
            exfalso
            refine z (mask_ext (nearM_lt hSW 8 s) (by decide) (fun p _ => ?_))
            rw [tb_0]
            cases k : (nearM (scnOf (tPar T j)) 8 s).testBit p with
            | false => rfl
            | true =>
              have := allN_iff.mp q p (near_bit hSW k)
              rw [k] at this
              cases this
      rw [eb]
      have h14 := f4.2.2.2.2.2.2.2.2.1
      have key := lpk (κ := Unit) (σ := Nat) (fun _ f st => fX12_alone_l91 f M4 (nI (orN (fun p => 2 ^ p) (fun s => allN (fun p => !(nearM (scnOf (tPar T j)) 8 s).testBit p) (cN (scnOf (tPar T j)))) st)) (nI st)) (fun _ (_ : Unit) => some (nI (orN (fun p => 2 ^ p) (fun s => allN (fun p => !(nearM (scnOf (tPar T j)) 8 s).testBit p) (cN (scnOf (tPar T j)))) (cS (scnOf (tPar T j)))), M4)) (pS (tPar T j))
        (fun i st => i = st) (fun _ => True) ?_ ?_ FU 0 0 (by omega) (by show _ < 5000; omega) rfl
      · obtain ⟨_, -, h⟩ := key
        exact h ()
      · rintro p p2 hp rfl
        left
        refine ⟨p + 1, rfl, fun _ f => ?_⟩
        show fX12_alone_l91 (f + 1) M4 (nI (orN (fun p => 2 ^ p) (fun s => allN (fun p => !(nearM (scnOf (tPar T j)) 8 s).testBit p) (cN (scnOf (tPar T j)))) p)) (nI p) = fX12_alone_l91 f M4 (nI (if allN (fun q => !(nearM (scnOf (tPar T j)) 8 p).testBit q) (cN (scnOf (tPar T j))) then orN (fun p => 2 ^ p) (fun s => allN (fun p => !(nearM (scnOf (tPar T j)) 8 s).testBit p) (cN (scnOf (tPar T j)))) p ||| 2 ^ p else orN (fun p => 2 ^ p) (fun s => allN (fun p => !(nearM (scnOf (tPar T j)) 8 s).testBit p) (cN (scnOf (tPar T j)))) p)) (nI (p + 1))
        rw [fX12_alone_l91.eq_2, h14]
        rw [show (if nI (cS (scnOf (tPar T j))) ≤ nI p then _ else _) = _ from le_f hp (by show pS (tPar T j) < 2 ^ 31; omega), lone_ref f4 f3 hp, bd_s]
        unfold fX12_alone_j118
        cases allN (fun q => !(nearM (scnOf (tPar T j)) 8 p).testBit q) (cN (scnOf (tPar T j))) with
        | true => rw [bI_t, if_neg i10, bnd_r, shl_nI (by omega), or_nI, if_pos rfl, nI_1]
        | false => rw [bI_f, if_pos rfl, bnd_r, nl0, or_nI, Nat.or_zero, if_neg (by decide), nI_1]
      · rintro p rfl
        refine ⟨(), trivial, fun _ f => ?_⟩
        show fX12_alone_l91 (f + 1) M4 _ (nI (pS (tPar T j))) = _
        rw [fX12_alone_l91.eq_2, h14]
        exact le_t (Nat.le_refl _) (by show pS (tPar T j) < 2 ^ 31; omega)
    · by_cases c2 : x2 = 2
      · refine ⟨nI (glA (scnOf (tPar T j)) (cS (scnOf (tPar T j)))), M2, cls _ (by rw [if_neg c0, if_neg c1, if_pos c2]), hF2, hBN2, fun M3 _ hS => ?_⟩
        obtain ⟨M4, f1, f2, f3, f4⟩ := laysOut_spec hS
        refine ⟨M4, ?_, f2.mono (by decide)⟩
        rw [f1, bd_s, if_neg c0, if_neg c1, if_pos c2, glances_ref f4 f3]
        rfl
      · by_cases c3 : x2 = 3
        · refine ⟨m1I (dpN (scnOf (tPar T j)) (8 * cS (scnOf (tPar T j)))), M2, cls _ (by rw [if_neg c0, if_neg c1, if_neg c2, if_pos c3]), hF2, hBN2, fun M3 _ hS => ?_⟩
          obtain ⟨M4, f1, f2, f3, f4⟩ := laysOut_spec hS
          refine ⟨M4, ?_, f2.mono (by decide)⟩
          rw [f1, bd_s, if_neg c0, if_neg c1, if_neg c2, if_pos c3, deep_ref f4 f3]
          rfl
        · refine ⟨-2, M2, cls _ (by rw [if_neg c0, if_neg c1, if_neg c2, if_neg c3]), hF2, hBN2, fun M3 _ hS => ?_⟩
          obtain ⟨M4, f1, f2, f3, f4⟩ := laysOut_spec hS
          exact ⟨M4, by rw [f1, bd_s, if_neg c0, if_neg c1, if_neg c2, if_neg c3], f2.mono (by decide)⟩
