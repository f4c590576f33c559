/-! ===== a parish is loaded ===== -/
theorem scn_SW {P : PARD} (h : PW P) : SW (scnOf P) := by
  obtain ⟨h1, h2, h3, h4, h5, h6, h7, h8⟩ := h
  refine ⟨h1, h2, h3, h4, fun k q hk e => ?_, fun k hk => (h6 k hk).2, fun k hk => h7 k hk⟩
  have e2 : pAt P k = q := Option.some.inj e
  rw [← e2]
  exact (h6 k hk).1
theorem isParish_no {M : MM} {T : TOLD} (hM : MT M 0 T) (hW : TW T) {x : Int32} (hx : x < 0 ∨ nI (tNum T 0) ≤ x) : fX12_isParish M x = some (0, M) := by
  unfold fX12_isParish; rw [show fX12_isOf M 0 x = some 0 from isOf_no hM hW (s := 0) (by decide) hx]; rfl
theorem isParish_yes {M : MM} {T : TOLD} (hM : MT M 0 T) (hW : TW T) {j : Nat} (hj : j < tNum T 0) : ∃ M2, fX12_isParish M (nI j) = some (1, M2) ∧ Fr [90, 94, 95, 96, 97, 98, 99, 100, 101] M M2 ∧ MS M2 (610 + 124 * j) (tPar T j) (scnOf (tPar T j)) := by
  have h2 := num_lt hW (s := 0) (by decide)
  have hP := hW.2.2.2.1 j hj
  have hMP : MP M (610 + 124 * j) (tPar T j) := by have := hM.2.2.2.2.2.1 j hj; rw [Nat.zero_add] at this; exact this
  have p3 := hP.2.2.1
  have p4 := hP.2.2.2.1
  let o := 610 + 124 * j
  let M6 := sI (sI M 90 12 (nI o)) 90 23 (-1)
  let M9 := sI M6 90 13 (nI (pN (tPar T j)))
  let M12 := sI M9 90 14 (nI (pS (tPar T j)))
  have f12 : Fr [90] M M12 := (((Fr.rfl.pI (by decide)).pI (by decide)).pI (by decide)).pI (by decide)
  have c12 : gI M12 90 12 = nI o := by
    show gI (sI (sI (sI (sI M 90 12 (nI o)) 90 23 (-1)) 90 13 _) 90 14 _) 90 12 = _
    rw [gI_nk _ _ _ _ _ _ (by decide), gI_nk _ _ _ _ _ _ (by decide), gI_nk _ _ _ _ _ _ (by decide), gI_eq]
  have c13 : gI M12 90 13 = nI (pN (tPar T j)) := by
    show gI (sI (sI (sI (sI M 90 12 (nI o)) 90 23 (-1)) 90 13 _) 90 14 _) 90 13 = _
    rw [gI_nk _ _ _ _ _ _ (by decide), gI_eq]
  have c14 : gI M12 90 14 = nI (pS (tPar T j)) := gI_eq _ _ _ _
  have c23 : gI M12 90 23 = -1 := by
    show gI (sI (sI (sI (sI M 90 12 (nI o)) 90 23 (-1)) 90 13 _) 90 14 _) 90 23 = _
    rw [gI_nk _ _ _ _ _ _ (by decide), gI_nk _ _ _ _ _ _ (by decide), gI_eq]
  have hMP12 : MP M12 o (tPar T j) := MP_congr hP hMP (fun i _ => f12.gi (by decide) _)
  obtain ⟨M2, e1, e2, e3⟩ := isParish_loop hP hMP12 (by omega) c12 c13 FU 0 M12 (by omega) (by decide) Fr.rfl (fun i hi => absurd hi (Nat.not_lt_zero i))
  have hFr : Fr [90, 94, 95, 96, 97, 98, 99, 100, 101] M M2 := (f12.mono (by decide)).trans (e2.mono (by decide))
  have g90 : ∀ k, gI M2 90 k = gI M12 90 k := fun k => e2.gi (by decide) k
  have g91 : ∀ k, gI M2 91 k = gI M 91 k := fun k => hFr.gi (by decide) k
  refine ⟨M2, ?_, hFr, ?_⟩
  · unfold fX12_isParish
    have q12 : gI (sI (sI M 90 12 (nI (610 + 124 * j))) 90 23 (-1)) 90 12 = nI (610 + 124 * j) := by rw [gI_nk _ _ _ _ _ _ (by decide), gI_eq]
    have q12b : ∀ v, gI (sI (sI (sI M 90 12 (nI (610 + 124 * j))) 90 23 (-1)) 90 13 v) 90 12 = nI (610 + 124 * j) := fun v => by rw [gI_nk _ _ _ _ _ _ (by decide)]; exact q12
    rw [show fX12_isOf M 0 (nI j) = some 1 from isOf_yes hM hW (s := 0) (by decide) hj, bd_s, if_neg i10, place0]
    simp only [bnd_r]
    rw [q12, q12b]
    simp (disch := omega) only [nl2, nl3, nI_add, gd_inb, ix_nI, gI_ne]
    rw [hMP.2.2.1, hMP.2.2.2.1]
    exact e1
  · refine ⟨by rw [g90]; exact c12, MP_congr hP hMP (fun i _ => g91 _), hP, by omega, scn_SW hP, rfl, rfl, by rw [g90]; exact c13, by rw [g90]; exact c14, fun k hk => ?_, fun k hk i hi => ?_, fun k hk => (e3 k hk).2.2.2, fun k _ => rfl, none, by rw [g90]; exact c23, fun b hb => (by cases hb), fun q hq => by show pWa (tPar T j) q = (pWa (tPar T j) q || false); rw [Bool.or_false]⟩
    · have hk : k < pN (tPar T j) := hk
      obtain ⟨a1, a2, -, -⟩ := e3 k (by omega)
      refine ⟨by rw [a1, if_pos hk]; rfl, ?_⟩
      rw [a2, g91]
      exact (hMP.2.2.2.2.2.1 k hk).2
    · have hk : k < pS (tPar T j) := hk
      obtain ⟨-, -, a3, -⟩ := e3 k (by omega)
      rw [a3 i hi, g91]
      exact hMP.2.2.2.2.2.2 k hk i hi
theorem rng (x : Int32) {n : Nat} (hn : n < 2 ^ 31) : (x < 0 ∨ nI n ≤ x) ∨ ∃ k, k < n ∧ x = nI k := by
  rcases cases3 x n hn with h | h | h
  · exact Or.inl (Or.inl h)
  · exact Or.inl (Or.inr h)
  · exact Or.inr h
theorem isIn_no {x : Int32} {n : Nat} (hn : n < 2 ^ 30) (h : x < 0 ∨ nI n ≤ x) : fX12_isIn x 0 (nI n - 1) = 0 := by
  rw [isIn_iff hn, if_neg]
  rw [lt0_toInt, le_toInt (by omega)] at h
  omega
theorem isIn_yes {k n : Nat} (hn : n < 2 ^ 30) (h : k < n) : fX12_isIn (nI k) 0 (nI n - 1) = 1 := by
  rw [isIn_iff hn, nI_toInt (by omega), if_pos (by omega)]
theorem isPerson_no {M : MM} {o : Nat} {P : PARD} {S : SCN} (h : MS M o P S) {x : Int32} (hx : x < 0 ∨ nI (cN S) ≤ x) : fX12_isPerson M x = some 0 := by
  have hN := h.2.2.2.2.1.2.2.1
  unfold fX12_isPerson
  rw [gd_t (isIn_b _ _ _), h.2.2.2.2.2.2.2.1, isIn_no (by omega) hx]
theorem isPerson_yes {M : MM} {o : Nat} {P : PARD} {S : SCN} (h : MS M o P S) {k : Nat} (hk : k < cN S) : fX12_isPerson M (nI k) = some 1 := by
  have hN := h.2.2.2.2.1.2.2.1
  unfold fX12_isPerson
  rw [gd_t (isIn_b _ _ _), h.2.2.2.2.2.2.2.1, isIn_yes (by omega) hk]
theorem isShine_no {M : MM} {o : Nat} {P : PARD} {S : SCN} (h : MS M o P S) {x : Int32} (hx : x < 0 ∨ nI (cS S) ≤ x) : fX12_isShine M x = some 0 := by
  have hN := h.2.2.2.2.1.2.2.2.1
  unfold fX12_isShine
  rw [gd_t (isIn_b _ _ _), h.2.2.2.2.2.2.2.2.1, isIn_no (by omega) hx]
theorem isShine_yes {M : MM} {o : Nat} {P : PARD} {S : SCN} (h : MS M o P S) {k : Nat} (hk : k < cS S) : fX12_isShine M (nI k) = some 1 := by
  have hN := h.2.2.2.2.1.2.2.2.1
  unfold fX12_isShine
  rw [gd_t (isIn_b _ _ _), h.2.2.2.2.2.2.2.2.1, isIn_yes (by omega) hk]
theorem wh_64 {S : SCN} (hS : SW S) : cW S * cH S ≤ 64 := Nat.mul_le_mul hS.1.2 hS.2.1.2
theorem isSquare_no {M : MM} {o : Nat} {P : PARD} {S : SCN} (h : MS M o P S) {x : Int32} (hx : x < 0 ∨ nI (cW S * cH S) ≤ x) : fX12_isSquare M x = some 0 := by
  have hN := wh_64 h.2.2.2.2.1
  unfold fX12_isSquare
  rw [wide_spec h, high_spec h, bd_s, bd_s, gd_t (isIn_b _ _ _), pk_mul, isIn_no (by omega) hx]
theorem isSquare_yes {M : MM} {o : Nat} {P : PARD} {S : SCN} (h : MS M o P S) {k : Nat} (hk : k < cW S * cH S) : fX12_isSquare M (nI k) = some 1 := by
  have hN := wh_64 h.2.2.2.2.1
  unfold fX12_isSquare
  rw [wide_spec h, high_spec h, bd_s, bd_s, gd_t (isIn_b _ _ _), pk_mul, isIn_yes (by omega) hk]
theorem nz_nI {n : Nat} (h : 0 < n) (hn : n < 2 ^ 31) : nz (nI n) = true := decide_eq_true (nI_ne0 h hn)
theorem inside_spec {M : MM} {o : Nat} {P : PARD} {S : SCN} (h : MS M o P S) {c : Nat} (hc : c < 64) : fX12_inside M (nI c) = some (nI (sq8 (cW S) c)) := by
  have hS := h.2.2.2.2.1
  have hw := hS.1
  unfold fX12_inside sq8
  rw [wide_spec h, bd_s, bd_s, gd_t (nz_nI (by omega) (by omega)), gd_t (nz_nI (by omega) (by omega)), pk_rem (by omega) (by omega) (by omega), pk_div (by omega) (by omega) (by omega), nl8, pk_mul, nI_add]
theorem outside_spec {M : MM} {o : Nat} {P : PARD} {S : SCN} (h : MS M o P S) {q : Nat} (hq : q < 64) : fX12_outside M (nI q) = some (nI (sqC (cW S) q)) := by
  unfold fX12_outside sqC
  rw [wide_spec h, bd_s, nl8, pk_rem (by omega) (by omega) (by omega), pk_div (by omega) (by omega) (by omega), pk_mul, nI_add]
theorem hasPerson_no {M : MM} {a n : Nat} (h : gI M a 2 = nI n) {x : Int32} (hx : x < 0 ∨ nI n ≤ x) : fX5_hasPerson M a x = 0 := by
  unfold fX5_hasPerson
  by_cases h0 : x < 0
  · rw [if_pos h0]
  · rw [if_neg h0, h, if_pos (hx.resolve_left h0)]
theorem hasPerson_yes {M : MM} {a n k : Nat} (h : gI M a 2 = nI n) (hn : n < 2 ^ 31) (hk : k < n) : fX5_hasPerson M a (nI k) = 1 := by
  unfold fX5_hasPerson
  rw [if_neg (nI_pos (by omega)), h, le_f hk hn]
theorem hasShine_no {M : MM} {a n : Nat} (h : gI M a 3 = nI n) {x : Int32} (hx : x < 0 ∨ nI n ≤ x) : fX5_hasShine M a x = 0 := by
  unfold fX5_hasShine
  by_cases h0 : x < 0
  · rw [if_pos h0]
  · rw [if_neg h0, h, if_pos (hx.resolve_left h0)]
theorem hasShine_yes {M : MM} {a n k : Nat} (h : gI M a 3 = nI n) (hn : n < 2 ^ 31) (hk : k < n) : fX5_hasShine M a (nI k) = 1 := by
  unfold fX5_hasShine
  rw [if_neg (nI_pos (by omega)), h, le_f hk hn]
theorem hasSquare_no {M : MM} {a w h : Nat} (e1 : gI M a 0 = nI w) (e2 : gI M a 1 = nI h) {x : Int32} (hx : x < 0 ∨ nI (w * h) ≤ x) : fX5_hasSquare M a x = 0 := by
  unfold fX5_hasSquare
  by_cases h0 : x < 0
  · rw [if_pos h0]
  · rw [if_neg h0, e1, e2, pk_mul, if_pos (hx.resolve_left h0)]
theorem hasSquare_yes {M : MM} {a w h k : Nat} (e1 : gI M a 0 = nI w) (e2 : gI M a 1 = nI h) (hn : w * h < 2 ^ 31) (hk : k < w * h) : fX5_hasSquare M a (nI k) = 1 := by
  unfold fX5_hasSquare
  rw [if_neg (nI_pos (by omega)), e1, e2, pk_mul, le_f hk hn]
theorem e5 : E5 Inv := by
  intro K M x1 x2 hI
  obtain ⟨hK, T, I, hW, hC, hM, hB, hIm⟩ := id hI
  rcases num_cases hW (s := 0) (by decide) x1 with h | ⟨j, hj, hj2, rfl⟩
  · refine ⟨-1, M, ?_, ?_, hI⟩
    · unfold fX11_square; rw [parishAt_no hC hW h]; rfl
    · unfold fX12_square; rw [isParish_no hM hW h]; rfl
  · have hP := hW.2.2.2.1 j hj
    obtain ⟨M2, e1, e2, e3⟩ := isParish_yes hM hW hj
    have hI2 : Inv K M2 := inv_fr2 hI e2 (by decide) (by decide) (by decide)
    obtain ⟨c1, c2, c3, c4, c5, c6, c7⟩ := hC.2.2.2.2.2.1 j hj
    have h64 := wh_64 (scn_SW hP)
    have h64 : pW (tPar T j) * pH (tPar T j) ≤ 64 := h64
    unfold fX11_square fX12_square
    rw [parishAt_yes hC hW hj, e1, bd_s, bd_s]
    simp only []
    rw [if_neg i10]
    rcases rng x2 (n := pW (tPar T j) * pH (tPar T j)) (by omega) with h | ⟨c, hc, rfl⟩
    · refine ⟨-1, M2, ?_, ?_, hI2⟩
      · rw [hasSquare_no c1 c2 h, if_pos rfl]
      · rw [isSquare_no e3 h, bd_s, if_pos rfl]
    · refine ⟨nI (onS (scnOf (tPar T j)) (sq8 (pW (tPar T j)) c)), M2, ?_, ?_, hI2⟩
      · rw [hasSquare_yes c1 c2 (by omega) hc, if_neg i10, gd_inb (by omega) (by decide), ix_nI (by omega), c7.1 c hc]
      · have h8 := hP.2.1.2
        have hw := hP.1.1
        have hq : sq8 (cW (scnOf (tPar T j))) c < 64 := by
          have h1 : c / pW (tPar T j) < pH (tPar T j) := Nat.div_lt_of_lt_mul hc
          have h2 : c % pW (tPar T j) < pW (tPar T j) := Nat.mod_lt _ (by omega)
          have h3 := hP.1.2
          show 8 * (c / pW (tPar T j)) + c % pW (tPar T j) < 64
          omega
        rw [isSquare_yes e3 hc, bd_s, if_neg i10, inside_spec e3 (by omega), bd_s, on_spec e3 hq, bd_s]
        rfl
theorem e4 : E4 Inv := by
  intro K M x1 x2 hI
  obtain ⟨hK, T, I, hW, hC, hM, hB, hIm⟩ := id hI
  rcases num_cases hW (s := 0) (by decide) x1 with h | ⟨j, hj, hj2, rfl⟩
  · refine ⟨-1, M, ?_, ?_, hI⟩
    · unfold fX11_parish; rw [parishAt_no hC hW h]; rfl
    · unfold fX12_parish; rw [isParish_no hM hW h]; rfl
  · have hP := hW.2.2.2.1 j hj
    obtain ⟨M2, e1, e2, e3⟩ := isParish_yes hM hW hj
    have hI2 : Inv K M2 := inv_fr2 hI e2 (by decide) (by decide) (by decide)
    obtain ⟨c1, c2, c3, c4, c5, c6, c7⟩ := hC.2.2.2.2.2.1 j hj
    have p3 := hP.2.2.1
    have p4 := hP.2.2.2.1
    have h91 : ∀ k, gI M2 91 k = gI M 91 k := fun k => e2.gi (by decide) k
    have hMP : MP M2 (610 + 124 * j) (tPar T j) := e3.2.1
    have h12 := e3.1
    unfold fX11_parish fX12_parish
    rw [parishAt_yes hC hW hj, e1, bd_s, bd_s]
    simp only []
    rw [if_neg i10]
    unfold fX5_tell
    rcases cases3 x2 80 (by decide) with h | h | ⟨i, hi, rfl⟩
    · have h9 := lt0_toInt.mp h
      have hx : ∀ n : Nat, n < 4 → ¬ x2 = nI n := fun n hn q => by rw [eq_toInt (by omega)] at q; omega
      have hlt : ∀ n : Nat, n < 100 → x2 < nI n := fun n hn => (lt_toInt (by omega)).mpr (by omega)
      refine ⟨-1, M2, ?_, ?_, hI2⟩
      · rw [if_neg (show ¬ x2 = 0 from hx 0 (by decide)), if_neg (show ¬ x2 = 1 from hx 1 (by decide)), if_neg (show ¬ x2 = 2 from hx 2 (by decide)), if_neg (show ¬ x2 = 3 from hx 3 (by decide)), if_pos (show x2 < 10 from hlt 10 (by decide))]
        rfl
      · rw [isIn_f (Or.inl h), if_pos rfl, bnd_r, isIn_f (Or.inl (show x2 < 10 from hlt 10 (by decide))), if_pos rfl, isIn_f (Or.inl (show x2 < 30 from hlt 30 (by decide))), if_pos rfl]
    · have h9 := (le_toInt (by decide)).mp h
      have hx : ∀ n : Nat, n < 4 → ¬ x2 = nI n := fun n hn q => by rw [eq_toInt (by omega)] at q; omega
      have hnl : ∀ n : Nat, n ≤ 80 → ¬ x2 < nI n := fun n hn q => by have := (lt_toInt (by omega)).mp q; omega
      have hgt : ∀ n : Nat, n < 80 → nI n < x2 := fun n hn => (gt_toInt (by omega)).mpr (by omega)
      refine ⟨-1, M2, ?_, ?_, hI2⟩
      · rw [if_neg (show ¬ x2 = 0 from hx 0 (by decide)), if_neg (show ¬ x2 = 1 from hx 1 (by decide)), if_neg (show ¬ x2 = 2 from hx 2 (by decide)), if_neg (show ¬ x2 = 3 from hx 3 (by decide)), if_neg (show ¬ x2 < 10 from hnl 10 (by decide)), if_neg (show ¬ x2 < 80 from hnl 80 (by decide))]
        rfl
      · rw [isIn_f (Or.inr (show (3 : Int32) < x2 from hgt 3 (by decide))), if_pos rfl, bnd_r, isIn_f (Or.inr (show (29 : Int32) < x2 from hgt 29 (by decide))), if_pos rfl, isIn_f (Or.inr (show (79 : Int32) < x2 from hgt 79 (by decide))), if_pos rfl]
    · have hne : ∀ n : Nat, n < 4 → n ≠ i → ¬ nI i = nI n := fun n hn q z => q ((nI_eq (by omega) (by omega)).mp z).symm
      rcases Nat.lt_or_ge i 4 with a | a
      · refine ⟨gI M2 91 (610 + 124 * j + i), M2, ?_, ?_, hI2⟩
        · rcases (show i = 0 ∨ i = 1 ∨ i = 2 ∨ i = 3 by omega) with rfl | rfl | rfl | rfl
          · rw [if_pos (by decide), c1]; exact congrArg some hMP.1.symm
          · rw [if_neg (by decide), if_pos (by decide), c2]; exact congrArg some hMP.2.1.symm
          · rw [if_neg (by decide), if_neg (by decide), if_pos (by decide), c3]; exact congrArg some hMP.2.2.1.symm
          · rw [if_neg (by decide), if_neg (by decide), if_neg (by decide), if_pos (by decide), c4]; exact congrArg some hMP.2.2.2.1.symm
        · rw [isIn_t (nI_pos (by omega)) (show ¬ (3 : Int32) < nI i from nI_nlt (a := 3) (by omega) (by omega)), if_neg i10, h12, nI_add, gd_inb (by omega) (by decide), ix_nI (by omega)]
      · rw [if_neg (show ¬ nI i = 0 from hne 0 (by decide) (by omega)), if_neg (show ¬ nI i = 1 from hne 1 (by decide) (by omega)), if_neg (show ¬ nI i = 2 from hne 2 (by decide) (by omega)), if_neg (show ¬ nI i = 3 from hne 3 (by decide) (by omega)), isIn_f (Or.inr (show (3 : Int32) < nI i from nI_lt (a := 3) (by omega) (by omega))), if_pos rfl]
        simp only [bnd_r]
        rcases Nat.lt_or_ge i 10 with b | b
        · refine ⟨-1, M2, ?_, ?_, hI2⟩
          · rw [nl10, lt_t b (by decide)]; rfl
          · rw [isIn_f (Or.inl (show nI i < (10 : Int32) from nI_lt (b := 10) b (by decide))), if_pos rfl, isIn_f (Or.inl (show nI i < (30 : Int32) from nI_lt (b := 30) (by omega) (by decide))), if_pos rfl]
        · rw [if_neg (show ¬ nI i < (10 : Int32) from nI_nlt (b := 10) b (by omega)), if_pos (show nI i < (80 : Int32) from nI_lt (b := 80) hi (by decide))]
          have er : nI i - nI i / 10 * 10 = nI (i % 10) := pk_rem (d := 10) (by omega) (by decide) (by decide)
          have ed : nI i / 10 = nI (i / 10) := pk_div (d := 10) (by omega) (by decide) (by decide)
          rw [er, ed]
          have h10 : i % 10 < 10 := Nat.mod_lt _ (by decide)
          rcases Nat.lt_or_ge i 30 with c | c
          · rw [isIn_t (show ¬ nI i < (10 : Int32) from nI_nlt (b := 10) b (by omega)) (show ¬ (29 : Int32) < nI i from nI_nlt (a := 29) (by omega) (by omega)), if_neg i10, if_neg (show ¬ (2 : Int32) < nI (i / 10) from nI_nlt (a := 2) (by omega) (by omega))]
            rcases Nat.lt_or_ge (i % 10) (pN (tPar T j)) with d | d
            · rw [hasPerson_yes c3 (by omega) d, isPerson_yes e3 (show i % 10 < cN (scnOf (tPar T j)) from d), bd_s, if_neg i10, if_neg i10]
              obtain ⟨m1, m2⟩ := e3.2.2.2.2.2.2.2.2.2.1 (i % 10) d
              rcases Nat.lt_or_ge i 20 with f | f
              · refine ⟨nI (sqC (pW (tPar T j)) (pAt (tPar T j) (i % 10))), M2, ?_, ?_, hI2⟩
                · rw [if_pos (show nI (i / 10) = 1 by rw [show i / 10 = 1 by omega]; rfl), gd_inb (by omega) (by decide), ix_nI (by omega)]
                  exact congrArg some (c5 _ d).1
                · have hq : pAt (tPar T j) (i % 10) < 64 := inP_64 hP.2.1.2 (hP.2.2.2.2.2.1 _ d).1
                  rw [if_neg (show ¬ (20 : Int32) ≤ nI i from nI_ge (b := 20) f (by decide)), gd_inb (by omega) (by decide), ix_nI (by omega), m1]
                  show ((fX12_outside M2 (nI (pAt (tPar T j) (i % 10)))).bind _) = _
                  rw [outside_spec e3 hq]
                  rfl
              · refine ⟨nI (pNm (tPar T j) (i % 10)), M2, ?_, ?_, hI2⟩
                · rw [if_neg (show ¬ nI (i / 10) = 1 by rw [show i / 10 = 2 by omega]; decide), gd_inb (by omega) (by decide), ix_nI (by omega)]
                  exact congrArg some (c5 _ d).2
                · rw [if_pos (show (20 : Int32) ≤ nI i from nI_le (a := 20) f (by omega)), gd_inb (by omega) (by decide), ix_nI (by omega), m2]
                  rfl
            · have hd : nI (i % 10) < 0 ∨ nI (pN (tPar T j)) ≤ nI (i % 10) := Or.inr (nI_le d (by omega))
              refine ⟨-1, M2, ?_, ?_, hI2⟩
              · rw [hasPerson_no c3 hd, if_pos rfl]; rfl
              · rw [isPerson_no e3 hd, bd_s, if_pos rfl]
          · rw [isIn_f (Or.inr (show (29 : Int32) < nI i from nI_lt (a := 29) (by omega) (by omega))), if_pos rfl, isIn_t (show ¬ nI i < (30 : Int32) from nI_nlt (b := 30) c (by omega)) (show ¬ (79 : Int32) < nI i from nI_nlt (a := 79) (by omega) (by omega)), if_neg i10, if_pos (show (2 : Int32) < nI (i / 10) from nI_lt (a := 2) (by omega) (by omega))]
            rcases Nat.lt_or_ge (i % 10) (pS (tPar T j)) with d | d
            · rw [hasShine_yes c4 (by omega) d, isShine_yes e3 (show i % 10 < cS (scnOf (tPar T j)) from d), bd_s, if_neg i10, if_neg i10]
              have m := e3.2.2.2.2.2.2.2.2.2.2.1 (i % 10) d
              obtain ⟨t1, t2, t3, t4, t5⟩ := c6 (i % 10) d
              unfold fX5_tellShine
              have k8 : i % 10 < 8 := by omega
              simp only [gd_inb k8 (show 8 < 2 ^ 31 by decide), ix_nI (show i % 10 < 2 ^ 31 by omega)]
              have hq : pSh (tPar T j) (i % 10) 1 < 64 := inP_64 hP.2.1.2 (hP.2.2.2.2.2.2.1 _ d).2.1
              rcases (show i / 10 = 3 ∨ i / 10 = 4 ∨ i / 10 = 5 ∨ i / 10 = 6 ∨ i / 10 = 7 by omega) with q | q | q | q | q <;> rw [q]
              · refine ⟨nI (pSh (tPar T j) (i % 10) 0), M2, ?_, ?_, hI2⟩
                · rw [if_pos (by decide)]; exact congrArg some t1
                · rw [if_pos (by decide)]; exact congrArg (fun z => some (z, M2)) (m 0 (by decide))
              · refine ⟨nI (sqC (pW (tPar T j)) (pSh (tPar T j) (i % 10) 1)), M2, ?_, ?_, hI2⟩
                · rw [if_neg (by decide), if_pos (by decide)]; exact congrArg some t2
                · rw [if_neg (by decide), if_pos (by decide), show gI M2 97 (i % 10) = nI (pSh (tPar T j) (i % 10) 1) from m 1 (by decide), outside_spec e3 hq]
                  rfl
              · refine ⟨nI (pSh (tPar T j) (i % 10) 2), M2, ?_, ?_, hI2⟩
                · rw [if_neg (by decide), if_neg (by decide), if_pos (by decide)]; exact congrArg some t3
                · rw [if_neg (by decide), if_neg (by decide), if_pos (by decide)]; exact congrArg (fun z => some (z, M2)) (m 2 (by decide))
              · refine ⟨nI (pSh (tPar T j) (i % 10) 3), M2, ?_, ?_, hI2⟩
                · rw [if_neg (by decide), if_neg (by decide), if_neg (by decide), if_pos (by decide)]; exact congrArg some t4
                · rw [if_neg (by decide), if_neg (by decide), if_neg (by decide), if_pos (by decide)]; exact congrArg (fun z => some (z, M2)) (m 3 (by decide))
              · refine ⟨nI (pSh (tPar T j) (i % 10) 4), M2, ?_, ?_, hI2⟩
                · rw [if_neg (by decide), if_neg (by decide), if_neg (by decide), if_neg (by decide)]; exact congrArg some t5
                · rw [if_neg (by decide), if_neg (by decide), if_neg (by decide), if_neg (by decide)]; exact congrArg (fun z => some (z, M2)) (m 4 (by decide))
            · have hd : nI (i % 10) < 0 ∨ nI (pS (tPar T j)) ≤ nI (i % 10) := Or.inr (nI_le d (by omega))
              refine ⟨-1, M2, ?_, ?_, hI2⟩
              · rw [hasShine_no c4 hd, if_pos rfl]; rfl
              · rw [isShine_no e3 hd, bd_s, if_pos rfl]
