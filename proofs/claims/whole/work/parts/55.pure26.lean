/-! ===== wind ===== -/
theorem gcd_step (x y : Nat) : Nat.gcd y (x % y) = Nat.gcd x y := by rw [Nat.gcd_comm x y, Nat.gcd_rec y x, Nat.gcd_comm]
theorem common_ref {M : MM} {x y : Nat} (hx : x < 100000) (hy : y < 10) : fX12_common M (nI x) (nI y) = some (nI (Nat.gcd x y)) := by
  have key := lpk (κ := Unit) (σ := Nat × Nat) (fun _ f st => fX12_common_l4 M f (nI st.1) (nI st.2)) (fun _ v => some (nI v)) 10
    (fun i st => st.1 < 100000 ∧ st.2 + i ≤ 10 ∧ Nat.gcd st.1 st.2 = Nat.gcd x y) (fun v => v = Nat.gcd x y) ?_ ?_ FU 0 (x, y) (by omega) (by decide) ⟨hx, by show y + 0 ≤ 10; omega, rfl⟩
  · obtain ⟨v, e, h⟩ := key
    rw [e] at h
    exact h ()
  · rintro i ⟨a, b⟩ hi ⟨h1, h2, h3⟩
    simp only [] at h1 h2 h3
    rcases Nat.eq_zero_or_pos b with z | z
    · refine Or.inr ⟨a, by rw [z, Nat.gcd_zero_right] at h3; exact h3, fun _ f => ?_⟩
      show fX12_common_l4 M (f + 1) (nI a) (nI b) = _
      rw [fX12_common_l4.eq_2, eqz_t z]
    · have hm : a % b < b := Nat.mod_lt _ z
      refine Or.inl ⟨(b, a % b), ⟨by show b < 100000; omega, by show a % b + (i + 1) ≤ 10; omega, by show Nat.gcd b (a % b) = _; rw [gcd_step]; exact h3⟩, fun _ f => ?_⟩
      show fX12_common_l4 M (f + 1) (nI a) (nI b) = fX12_common_l4 M f (nI b) (nI (a % b))
      rw [fX12_common_l4.eq_2, eqz_f z (by omega), gd_t (nz_nI z (by omega)), bnd_r, pk_rem (by omega) z (by omega)]
  · rintro ⟨a, b⟩ ⟨h1, h2, h3⟩
    simp only [] at h1 h2 h3
    have z : b = 0 := by omega
    refine ⟨a, by rw [z, Nat.gcd_zero_right] at h3; exact h3, fun _ f => ?_⟩
    show fX12_common_l4 M (f + 1) (nI a) (nI b) = _
    rw [fX12_common_l4.eq_2, eqz_t z]
theorem common_cls {M : MM} {x y : Nat} (hx : x < 100000) (hy : y < 10) : fX11_commonDivisor M (nI x) (nI y) = some (nI (Nat.gcd x y)) := by
  have key := lpk (κ := Unit) (σ := Nat × Nat × Nat) (fun _ f st => fX11_commonDivisor_l7 M f (nI st.1) (nI st.2.1) (nI st.2.2)) (fun _ v => some (nI v)) 10
    (fun i st => i = st.2.2 ∧ st.1 < 100000 ∧ st.2.1 + i ≤ 10 ∧ Nat.gcd st.1 st.2.1 = Nat.gcd x y) (fun v => v = Nat.gcd x y) ?_ ?_ FU 0 (x, y, 0) (by omega) (by decide) ⟨rfl, hx, by show y + 0 ≤ 10; omega, rfl⟩
  · obtain ⟨v, e, h⟩ := key
    rw [e] at h
    exact h ()
  · rintro i ⟨a, b, i2⟩ hi ⟨rfl, h1, h2, h3⟩
    simp only [] at h1 h2 h3
    rcases Nat.eq_zero_or_pos b with z | z
    · refine Or.inr ⟨a, by rw [z, Nat.gcd_zero_right] at h3; exact h3, fun _ f => ?_⟩
      show fX11_commonDivisor_l7 M (f + 1) (nI a) (nI b) (nI i) = _
      rw [fX11_commonDivisor_l7.eq_2, nl64, le_f (by omega) (by decide), eqz_t z]
    · have hm : a % b < b := Nat.mod_lt _ z
      refine Or.inl ⟨(b, a % b, i + 1), ⟨rfl, by show b < 100000; omega, by show a % b + (i + 1) ≤ 10; omega, by show Nat.gcd b (a % b) = _; rw [gcd_step]; exact h3⟩, fun _ f => ?_⟩
      show fX11_commonDivisor_l7 M (f + 1) (nI a) (nI b) (nI i) = fX11_commonDivisor_l7 M f (nI b) (nI (a % b)) (nI (i + 1))
      rw [fX11_commonDivisor_l7.eq_2, nl64, le_f (by omega) (by decide), eqz_f z (by omega), gd_t (nz_nI z (by omega)), bnd_r, pk_rem (by omega) z (by omega), nI_1]
  · rintro ⟨a, b, i2⟩ ⟨rfl, h1, h2, h3⟩
    simp only [] at h1 h2 h3
    have z : b = 0 := by omega
    refine ⟨a, by rw [z, Nat.gcd_zero_right] at h3; exact h3, fun _ f => ?_⟩
    show fX11_commonDivisor_l7 M (f + 1) (nI a) (nI b) (nI 10) = _
    rw [fX11_commonDivisor_l7.eq_2, nl64, le_f (by decide) (by decide), eqz_t z]
def wdS (S : SCN) (L : Nat → Nat) (n s : Nat) : Nat := countS S 0 L s * (if cSh S s 0 = 0 then n - 1 else n)
theorem wdS_le {S : SCN} (hS : SW S) (L : Nat → Nat) {n : Nat} (hn : n ≤ 9) (s : Nat) : wdS S L n s ≤ 72 := by
  have h1 := countS_le hS 0 L s
  have h2 : (if cSh S s 0 = 0 then n - 1 else n) ≤ 9 := by split <;> omega
  exact Nat.mul_le_mul h1 h2
theorem wsum_le {S : SCN} (hS : SW S) (L : Nat → Nat) {n : Nat} (hn : n ≤ 9) : sumN (wdS S L n) (cS S) < 100000 := by
  have h8 := hS.2.2.2.1
  have := sumN_le (f := wdS S L n) (b := 72) (n := cS S) (fun k _ => wdS_le hS L hn k)
  omega
theorem wind_loop {M : MM} {S : SCN} {a1 a n : Nat} {L : Nat → Nat} (hB : BS M S aT) (hN : NR M S 0) (hL : CLw M a L) (h1 : 1 ≤ n) (h3 : gI M a1 3 = nI (cS S)) (h0 : ∀ s, s < cS S → gI M (a1 + 3) s = nI (cSh S s 0)) (y : Int32) : ∀ k : MM → Int32 → Int32 → Int32 → Option (Int32 × MM), fX11_wind_l67 k FU M (nI n) y a1 a 0 (nI 0) = k M (nI n) y (nI (sumN (wdS S L n) (cS S))) := by
  intro k
  have hS := hB.1.1
  have h8 := hS.2.2.2.1
  have key := lpk (κ := Unit) (σ := Nat) (fun _ f st => fX11_wind_l67 k f M (nI n) y a1 a (nI (sumN (wdS S L n) st)) (nI st)) (fun _ (_ : Unit) => k M (nI n) y (nI (sumN (wdS S L n) (cS S)))) (cS S)
    (fun i st => i = st) (fun _ => True) ?_ ?_ FU 0 0 (by omega) (by show _ < 5000; omega) rfl
  · obtain ⟨_, -, h⟩ := key
    exact h ()
  · rintro s s2 hs rfl
    left
    have hk := (hS.2.2.2.2.2.2 s hs).1
    refine ⟨s + 1, rfl, fun _ f => ?_⟩
    show fX11_wind_l67 k (f + 1) M (nI n) y a1 a (nI (sumN (wdS S L n) s)) (nI s) = fX11_wind_l67 k f M (nI n) y a1 a (nI (sumN (wdS S L n) s + wdS S L n s)) (nI (s + 1))
    rw [fX11_wind_l67.eq_2, h3, le_f hs (by omega), gd_inb (by omega) (by decide), ix_nI (by omega), h0 s hs]
    unfold fX11_wind_j95 wdS
    rw [count_cls hB.1 hN hL hs, bd_s, bd_s, bnd_r, bnd_r]
    by_cases c : cSh S s 0 = 0
    · rw [eqz_t c, if_pos c, nl1, pk_sub h1, pk_mul, nI_add, nI_add]
    · rw [eqz_f (by omega) (by omega), if_neg c, pk_mul, nI_add, nI_1]
  · rintro s rfl
    refine ⟨(), trivial, fun _ f => ?_⟩
    show fX11_wind_l67 k (f + 1) M (nI n) y a1 a _ (nI (cS S)) = _
    rw [fX11_wind_l67.eq_2, h3, le_t (Nat.le_refl _) (by omega)]
theorem wind_ref {M : MM} {o l0 n : Nat} {P : PARD} {S : SCN} {L : Nat → Nat} (hM : MS M o P S) (hO : LO M S) (hL : ML M l0 L 0) (h1 : 1 ≤ n) (y : Int32) : ∀ k : MM → Int32 → Int32 → Int32 → Option (Int32 × MM), fX12_wind_l36 k FU M (nI n) y 0 (nI 0) = k M (nI n) y (nI (sumN (wdS S L n) (cS S))) := by
  intro k
  have hS := hM.2.2.2.2.1
  have h8 := hS.2.2.2.1
  have h14 := hM.2.2.2.2.2.2.2.2.1
  have key := lpk (κ := Unit) (σ := Nat) (fun _ f st => fX12_wind_l36 k f M (nI n) y (nI (sumN (wdS S L n) st)) (nI st)) (fun _ (_ : Unit) => k M (nI n) y (nI (sumN (wdS S L n) (cS S)))) (cS S)
    (fun i st => i = st) (fun _ => True) ?_ ?_ FU 0 0 (by omega) (by show _ < 5000; omega) rfl
  · obtain ⟨_, -, h⟩ := key
    exact h ()
  · rintro s s2 hs rfl
    left
    have hk := (hS.2.2.2.2.2.2 s hs).1
    have e96 : gI M 96 s = nI (cSh S s 0) := hM.2.2.2.2.2.2.2.2.2.2.1 s hs 0 (by decide)
    refine ⟨s + 1, rfl, fun _ f => ?_⟩
    show fX12_wind_l36 k (f + 1) M (nI n) y (nI (sumN (wdS S L n) s)) (nI s) = fX12_wind_l36 k f M (nI n) y (nI (sumN (wdS S L n) s + wdS S L n s)) (nI (s + 1))
    rw [fX12_wind_l36.eq_2, h14, le_f hs (by omega), count_ref hM hO hL hs, bd_s, gd_inb (by omega) (by decide), ix_nI (by omega), e96]
    unfold fX12_wind_j70 wdS
    rw [bnd_r, bnd_r]
    by_cases c : cSh S s 0 = 0
    · rw [eqz_t c, if_pos c, nl1, pk_sub h1, pk_mul, nI_add, nI_add]
    · rw [eqz_f (by omega) (by omega), if_neg c, pk_mul, nI_add, nI_1]
  · rintro s rfl
    refine ⟨(), trivial, fun _ f => ?_⟩
    show fX12_wind_l36 k (f + 1) M (nI n) y _ (nI (cS S)) = _
    rw [fX12_wind_l36.eq_2, h14, le_t (Nat.le_refl _) (by omega)]
theorem e24 : E24 Inv := by
  intro K M x1 x2 x3 x4 hx4 hI
  refine pl_case (v := -1) hI (C := fX11_wind M x1 x2 x3 x4) (R := fun M1 => fX12_wind M1 x1 x2 x3 x4) rfl (fun _ => rfl) ?_
  intro T j l hW hC hM hB hj hl e1 e2
  have hP := hW.2.2.2.1 j hj
  have h2 := num_lt hW (s := 0) (by decide)
  have hcp := hC.2.2.2.2.2.1 j hj
  rcases cases_rng x3 1 9 (by decide) with h | h | ⟨i, hi, rfl⟩
  · refine ⟨-1, M, by rw [if_pos (show x3 < 1 from h)], Fr.rfl, hB, fun M3 _ _ _ => ⟨M3, ?_, Fr.rfl⟩⟩
    rw [isIn_f (Or.inl (show x3 < 1 from h)), if_pos rfl]
  · have h9 := (le_toInt (by decide)).mp h
    refine ⟨-1, M, ?_, Fr.rfl, hB, fun M3 _ _ _ => ⟨M3, ?_, Fr.rfl⟩⟩
    · rw [if_neg (show ¬ x3 < (1 : Int32) from fun q => by have := (lt_toInt (n := 1) (by decide)).mp q; omega), if_neg (show ¬ x3 ≤ (9 : Int32) from fun q => by
        rw [Int32.le_iff_toInt_le, show (9 : Int32).toInt = 9 by decide] at q; omega)]
    · rw [isIn_f (Or.inr (show (9 : Int32) < x3 from (gt_toInt (n := 9) (by decide)).mpr (by omega))), if_pos rfl]
  · obtain ⟨M1, a1, a2, a3, a4, -⟩ := par_beg hW hC hB hj
    have hL1 := CLw_fr (told_law hC hW hl) a2 (by decide)
    obtain ⟨M2, r, d1, d2, d3, -, -, -, d7⟩ := spread_spec a3 (c := 0) (by decide)
    have hF2 : Fr cL M M2 := a2.trans (d2.mono (by decide))
    have hL2 := CLw_fr hL1 d2 (by decide)
    have e3 : gI M2 (1 + (6 + 16 * j)) 3 = nI (pS (tPar T j)) := by rw [hF2.gi (by simp; omega)]; exact hcp.2.2.2.1
    have e0 : ∀ s, s < pS (tPar T j) → gI M2 (1 + (6 + 16 * j) + 3) s = nI (pSh (tPar T j) s 0) := fun s hs => by rw [hF2.gi (by simp; omega)]; exact (hcp.2.2.2.2.2.1 s hs).1
    have hwl := wind_loop (n := 1 + i) (a1 := 1 + (6 + 16 * j)) d7 d3 hL2 (by omega) e3 e0 x4
    have hsm := wsum_le (scn_SW hP) (tLaw T l) (n := 1 + i) (by omega)
    have hg : 0 < Nat.gcd (sumN (wdS (scnOf (tPar T j)) (tLaw T l) (1 + i)) (cS (scnOf (tPar T j)))) (1 + i) := Nat.gcd_pos_of_pos_right _ (by omega)
    have hgl : Nat.gcd (sumN (wdS (scnOf (tPar T j)) (tLaw T l) (1 + i)) (cS (scnOf (tPar T j)))) (1 + i) ≤ 1 + i := Nat.gcd_le_right _ (by omega)
    have cls : ∀ v, v = (if x4 = 0 then nI (sumN (wdS (scnOf (tPar T j)) (tLaw T l) (1 + i)) (cS (scnOf (tPar T j)))) / nI (Nat.gcd (sumN (wdS (scnOf (tPar T j)) (tLaw T l) (1 + i)) (cS (scnOf (tPar T j)))) (1 + i)) else nI (1 + i) / nI (Nat.gcd (sumN (wdS (scnOf (tPar T j)) (tLaw T l) (1 + i)) (cS (scnOf (tPar T j)))) (1 + i))) → (if nI (1 + i) < 1 then some (-1, M) else if nI (1 + i) ≤ 9 then (fX0_begin M (1 + (6 + 16 * j))).bind (fun p13 => (fX0_spread p13 0).bind (fun p15 => fX11_wind_l67 (fun M74 y75 y76 y77 => (fX11_commonDivisor M74 y77 y75).bind (fun p78 => (if 1 ≤ p78 then (if y76 = 0 then gd (nz p78) (some (y77 / p78, M74)) else gd (nz p78) (some (y75 / p78, M74))) else some ((-1), M74)))) FU p15.2 (nI (1 + i)) x4 (1 + (6 + 16 * j)) (1 + (15 + 16 * l)) 0 0)) else some (-1, M)) = some (v, M2) := fun v hv => by
      rw [if_neg (show ¬ nI (1 + i) < (1 : Int32) from nI_nlt (b := 1) (by omega) (by omega)), if_pos (show nI (1 + i) ≤ (9 : Int32) from nI_le (b := 9) (by omega) (by decide)), a1, bd_s]
      show ((fX0_spread M1 (nI 0)).bind _) = _
      rw [d1, bd_s]
      refine (hwl _).trans ?_
      rw [common_cls hsm (by omega), bd_s, if_pos (show (1 : Int32) ≤ nI (Nat.gcd (sumN (wdS (scnOf (tPar T j)) (tLaw T l) (1 + i)) (cS (scnOf (tPar T j)))) (1 + i)) from nI_le (a := 1) hg (by omega)), gd_t (nz_nI hg (by omega)), gd_t (nz_nI hg (by omega)), hv]
      by_cases c : x4 = 0
      · rw [if_pos c, if_pos c]
      · rw [if_neg c, if_neg c]
    refine ⟨_, M2, cls _ rfl, hF2, BN_fr a4 d2 (by decide) (by decide), fun M3 _ hS hL => ?_⟩
    have f5 : Fr [90] M3 (sI M3 90 27 0) := Fr.rfl.pI (by decide)
    have hS5 : MS (sI M3 90 27 0) (610 + 124 * j) (tPar T j) (scnOf (tPar T j)) := MS_gen hS (fun k hk => gI_nk _ _ _ _ _ _ (by omega)) (fun c k hc => gI_ne _ _ _ _ _ _ (by omega))
    have hL5 : ML (sI M3 90 27 0) (858 + 6 * l) (tLaw T l) 0 := ⟨by rw [gI_nk _ _ _ _ _ _ (by decide)]; exact hL.1, hL.2.1, fun k hk => by rw [gI_ne _ _ _ _ _ _ (by decide)]; exact hL.2.2.1 k hk, by rw [gI_eq]; rfl, by decide, hL.2.2.2.2.2⟩
    obtain ⟨M6, g1, g2, g3, g4⟩ := laysOut_spec hS5
    refine ⟨M6, ?_, (f5.mono (by decide)).trans (g2.mono (by decide))⟩
    rw [show fX12_isIn (nI (1 + i)) 1 9 = 1 from isIn_t (show ¬ nI (1 + i) < nI 1 from nI_nlt (by omega) (by omega)) (show ¬ nI 9 < nI (1 + i) from nI_nlt (by omega) (by omega)), if_neg i10, bnd_r, g1, bd_s]
    refine (wind_ref (n := 1 + i) g4 g3 (ML_fr hL5 g2 (by decide) (by decide)) (by omega) x4 _).trans ?_
    unfold fX12_wind_j91
    rw [common_ref hsm (by omega), bd_s, bd_s, gd_t (nz_nI hg (by omega)), gd_t (nz_nI hg (by omega))]
    by_cases c : x4 = 0
    · rw [if_pos c, if_pos c]
    · rw [if_neg c, if_neg c]
/-! ===== alone ===== -/
def metA (S : SCN) (n : Nat) : Nat := orN (nearM S 8) (fun _ => true) n
def loneA (S : SCN) (n : Nat) : Nat := orN (fun s => 2 ^ s) (fun s => decide (nearM S 8 s = 0)) n
def blA (m n : Nat) : Nat := orN (fun p => 2 ^ p) (fun p => !m.testBit p) n
set_option maxRecDepth 100000 in
theorem blind_I : ∀ n, n < 9 → ∀ m, m < 256 → (jshl 1 (nI n) - 1) &&& (nI m ^^^ (-1)) = nI (blA m n) := by decide +kernel
theorem alone_loop {M : MM} {S : SCN} {a : Nat} (hS : SW S) (hN : NR M S 8) (h3 : gI M a 3 = nI (cS S)) (y1 y2 : Int32) : ∀ k : MM → Int32 → Nat → Int32 → Int32 → Int32 → Option (Int32 × MM), fX11_alone_l44 k FU M y1 a y2 0 0 (nI 0) = k M y1 a y2 (nI (metA S (cS S))) (nI (loneA S (cS S))) := by
  intro k
  have h8 := hS.2.2.2.1
  have key := lpk (κ := Unit) (σ := Nat) (fun _ f st => fX11_alone_l44 k f M y1 a y2 (nI (metA S st)) (nI (loneA S st)) (nI st)) (fun _ (_ : Unit) => k M y1 a y2 (nI (metA S (cS S))) (nI (loneA S (cS S)))) (cS S)
    (fun i st => i = st) (fun _ => True) ?_ ?_ FU 0 0 (by omega) (by show _ < 5000; omega) rfl
  · obtain ⟨_, -, h⟩ := key
    exact h ()
  · rintro s s2 hs rfl
    left
    have nl := nearM_lt hS 8 s
    refine ⟨s + 1, rfl, fun _ f => ?_⟩
    show fX11_alone_l44 k (f + 1) M y1 a y2 (nI (metA S s)) (nI (loneA S s)) (nI s) = fX11_alone_l44 k f M y1 a y2 (nI (metA S (s + 1))) (nI (loneA S (s + 1))) (nI (s + 1))
    have e1 : metA S (s + 1) = metA S s ||| nearM S 8 s := by unfold metA; rw [orN, if_pos rfl]
    rw [fX11_alone_l44.eq_2, h3, le_f hs (by omega), gd_inb (by omega) (by decide), ix_nI (by omega), bnd_r, gd_inb (by omega) (by decide), hN s hs, or_nI, e1]
    by_cases c : nearM S 8 s = 0
    · have e2 : loneA S (s + 1) = loneA S s ||| 2 ^ s := by unfold loneA; rw [orN, if_pos (decide_eq_true c)]
      rw [eqz_t c, bnd_r, shl_nI (by omega), or_nI, e2, nI_1]
    · have e2 : loneA S (s + 1) = loneA S s := by unfold loneA; rw [orN, if_neg (by rw [decide_eq_false c]; decide)]
      rw [eqz_f (by omega) (by omega), e2, nI_1]
  · rintro s rfl
    refine ⟨(), trivial, fun _ f => ?_⟩
    show fX11_alone_l44 k (f + 1) M y1 a y2 _ _ (nI (cS S)) = _
    rw [fX11_alone_l44.eq_2, h3, le_t (Nat.le_refl _) (by omega)]
/-- never: not near at all -/
theorem dg_never {S : SCN} (hS : SW S) {s p : Nat} (hs : s < cS S) : dgN S s p = 99 ↔ (nearM S 8 s).testBit p = false := by
  have h1 := dg_le hS (p := p) (c := 8) hs (by decide)
  have h2 : dgN S s p < 8 ∨ dgN S s p = 99 := by
    unfold dgN
    cases hf : fstN (fun k => (nearM S k s).testBit p) 8 with
    | some v => exact Or.inl (fstN_out hf).1
    | none => exact Or.inr rfl
  constructor
  · intro h
    cases z : (nearM S 8 s).testBit p with
    | false => rfl
    | true => have := h1.mpr z; omega
  · intro h
    rcases h2 with z | z
    · have := h1.mp (by omega)
      rw [h] at this
      cases this
    · exact z
theorem blind_ref {M : MM} {o : Nat} {P : PARD} {S : SCN} (hM : MS M o P S) (hO : LO M S) {p : Nat} (hp : p < 8) : fX12_isBlind M (nI p) = some (bI (allN (fun s => !(nearM S 8 s).testBit p) (cS S))) := by
  have hS := hM.2.2.2.2.1
  have h8 := hS.2.2.2.1
  have h14 := hM.2.2.2.2.2.2.2.2.1
  have key := lpk (κ := Unit) (σ := Nat) (fun _ f st => fX12_isBlind_l4 M f (nI p) (bI (allN (fun s => !(nearM S 8 s).testBit p) st)) (nI st)) (fun _ (_ : Unit) => some (bI (allN (fun s => !(nearM S 8 s).testBit p) (cS S)))) (cS S)
    (fun i st => i = st) (fun _ => True) ?_ ?_ FU 0 0 (by omega) (by show _ < 5000; omega) rfl
  · obtain ⟨_, -, h⟩ := key
    exact h ()
  · rintro s s2 hs rfl
    left
    have h99 := dg_99 S s p
    refine ⟨s + 1, rfl, fun _ f => ?_⟩
    show fX12_isBlind_l4 M (f + 1) (nI p) (bI (allN (fun s => !(nearM S 8 s).testBit p) s)) (nI s) = fX12_isBlind_l4 M f (nI p) (bI (allN (fun s => !(nearM S 8 s).testBit p) s && !(nearM S 8 s).testBit p)) (nI (s + 1))
    rw [fX12_isBlind_l4.eq_2, h14, le_f hs (by omega)]
    unfold fX12_isBlind_j36 fX12_isBlind_j37
    simp (disch := omega) only [nl8, pk_mul, nI_add, gd_inb, ix_nI]
    rw [hO.1 s p hs hp, nl99, nI_1]
    cases allN (fun s => !(nearM S 8 s).testBit p) s with
    | false => rw [bI_f, if_pos rfl, Bool.false_and]; rfl
    | true =>
      rw [bI_t, if_neg i10, Bool.true_and]
      cases z : (nearM S 8 s).testBit p with
      | false => rw [eqn_t ((dg_never hS hs).mpr z)]; rfl
      | true => rw [eqn_f (fun q => by rw [(dg_never hS hs).mp q] at z; cases z) (by omega) (by decide)]; rfl
  · rintro s rfl
    refine ⟨(), trivial, fun _ f => ?_⟩
    show fX12_isBlind_l4 M (f + 1) (nI p) _ (nI (cS S)) = _
    rw [fX12_isBlind_l4.eq_2, h14, le_t (Nat.le_refl _) (by omega), gd_t (by cases allN (fun s => !(nearM S 8 s).testBit p) (cS S) <;> decide)]
theorem lone_ref {M : MM} {o : Nat} {P : PARD} {S : SCN} (hM : MS M o P S) (hO : LO M S) {s : Nat} (hs : s < cS S) : fX12_isLone M (nI s) = some (bI (allN (fun p => !(nearM S 8 s).testBit p) (cN S))) := by
  have hS := hM.2.2.2.2.1
  have h8 := hS.2.2.2.1
  have hn8 := hS.2.2.1
  have h13 := hM.2.2.2.2.2.2.2.1
  have key := lpk (κ := Unit) (σ := Nat) (fun _ f st => fX12_isLone_l4 M f (nI s) (bI (allN (fun p => !(nearM S 8 s).testBit p) st)) (nI st)) (fun _ (_ : Unit) => some (bI (allN (fun p => !(nearM S 8 s).testBit p) (cN S)))) (cN S)
    (fun i st => i = st) (fun _ => True) ?_ ?_ FU 0 0 (by omega) (by show _ < 5000; omega) rfl
  · obtain ⟨_, -, h⟩ := key
    exact h ()
  · rintro p p2 hp rfl
    left
    have h99 := dg_99 S s p
    refine ⟨p + 1, rfl, fun _ f => ?_⟩
    show fX12_isLone_l4 M (f + 1) (nI s) (bI (allN (fun p => !(nearM S 8 s).testBit p) p)) (nI p) = fX12_isLone_l4 M f (nI s) (bI (allN (fun p => !(nearM S 8 s).testBit p) p && !(nearM S 8 s).testBit p)) (nI (p + 1))
    rw [fX12_isLone_l4.eq_2, h13, le_f hp (by omega)]
    unfold fX12_isLone_j36 fX12_isLone_j37
    simp (disch := omega) only [nl8, pk_mul, nI_add, gd_inb, ix_nI]
    rw [hO.1 s p hs (by omega), nl99, nI_1]
    cases allN (fun p => !(nearM S 8 s).testBit p) p with
    | false => rw [bI_f, if_pos rfl, Bool.false_and]; rfl
    | true =>
      rw [bI_t, if_neg i10, Bool.true_and]
      cases z : (nearM S 8 s).testBit p with
      | false => rw [eqn_t ((dg_never hS hs).mpr z)]; rfl
      | true => rw [eqn_f (fun q => by rw [(dg_never hS hs).mp q] at z; cases z) (by omega) (by decide)]; rfl
  · rintro p rfl
    refine ⟨(), trivial, fun _ f => ?_⟩
    show fX12_isLone_l4 M (f + 1) (nI s) _ (nI (cN S)) = _
    rw [fX12_isLone_l4.eq_2, h13, le_t (Nat.le_refl _) (by omega), gd_t (by cases allN (fun p => !(nearM S 8 s).testBit p) (cN S) <;> decide)]
