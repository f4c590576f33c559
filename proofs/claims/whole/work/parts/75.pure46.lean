/-! ===== fits ===== -/
theorem fs_fnd {P : PARD} {L sg : Nat → Nat} {sl : Nat} {w V : Int32} (g : Nat) : (fsN P L sg sl w V (g + 1)).2.2.2.2.1 = (if difS (countS (sbN P g) (L 0) L) sg (pS P) ≤ sl ∧ nI (fsN P L sg sl w V g).1 = w then some g else (fsN P L sg sl w V g).2.2.2.2.1) ∧ (fsN P L sg sl w V (g + 1)).1 = (fsN P L sg sl w V g).1 + if difS (countS (sbN P g) (L 0) L) sg (pS P) ≤ sl then 1 else 0 := by
  show (fsS P L sg sl w (fsN P L sg sl w V g) g).2.2.2.2.1 = _ ∧ (fsS P L sg sl w (fsN P L sg sl w V g) g).1 = _
  unfold fsS
  by_cases z : difS (countS (sbN P g) (L 0) L) sg (pS P) ≤ sl
  · rw [if_pos z, if_pos z]
    refine ⟨?_, rfl⟩
    show (if nI (fsN P L sg sl w V g).1 = w then some g else _) = _
    by_cases e : nI (fsN P L sg sl w V g).1 = w
    · rw [if_pos e, if_pos ⟨z, e⟩]
    · rw [if_neg e, if_neg (fun h => e h.2)]
  · rw [if_neg z, if_neg z, if_neg (fun h => z h.1)]
    exact ⟨rfl, rfl⟩
theorem fnd_keep {P : PARD} {L sg : Nat → Nat} {sl g : Nat} {w V : Int32} (h1 : difS (countS (sbN P g) (L 0) L) sg (pS P) ≤ sl) (h2 : nI (fsN P L sg sl w V g).1 = w) : ∀ j, g + 1 + j ≤ 256 → (fsN P L sg sl w V (g + 1 + j)).2.2.2.2.1 = some g ∧ (fsN P L sg sl w V g).1 < (fsN P L sg sl w V (g + 1 + j)).1
  | 0, _ => by
    obtain ⟨a, b⟩ := fs_fnd (P := P) (L := L) (sg := sg) (sl := sl) (w := w) (V := V) g
    rw [if_pos ⟨h1, h2⟩] at a
    rw [if_pos h1] at b
    exact ⟨a, by show _ < (fsN P L sg sl w V (g + 1)).1; omega⟩
  | j + 1, h => by
    obtain ⟨i1, i2⟩ := fnd_keep h1 h2 j (by omega)
    obtain ⟨a, b⟩ := fs_fnd (P := P) (L := L) (sg := sg) (sl := sl) (w := w) (V := V) (g + 1 + j)
    have n1 := (nsA_le (P := P) (L := L) (sg := sg) (sl := sl) (w := w) (V := V) (g + 1 + j)).1
    rw [if_neg (fun q => by
      have := (nI_eq (by omega) (by omega)).mp (q.2.trans h2.symm)
      omega)] at a
    refine ⟨a.trans i1, ?_⟩
    show _ < (fsN P L sg sl w V (g + 1 + j + 1)).1
    omega
theorem fnd_no {P : PARD} {L sg : Nat → Nat} {sl : Nat} {w V : Int32} (h : ∀ c : Nat, c ≤ 256 → nI c ≠ w) : ∀ g, g ≤ 256 → (fsN P L sg sl w V g).2.2.2.2.1 = none
  | 0, _ => rfl
  | g + 1, hg => by
    have n1 := (nsA_le (P := P) (L := L) (sg := sg) (sl := sl) (w := w) (V := V) g).1
    rw [(fs_fnd g).1, if_neg (fun q => h _ (by omega) q.2)]
    exact fnd_no h g (by omega)
theorem fits_all {M : MM} {o l0 g0 sl : Nat} {P : PARD} {L sg : Nat → Nat} {x4 V : Int32} (hP : PW P) (hM : MS M o P (scnOf P)) (hL : ML M l0 L (L 0)) (hG : SGm M g0 sl sg) (hal : ∀ k, k < 80 → gI M 114 k = 0) :
    ∃ t : MM × Option Nat, ((Fr [94, 102, 103, 114] M t.1 ∧ t.2 = (fsN P L sg sl (x4 - 10) V (2 ^ pN P)).2.2.2.2.1 ∧ (t.2 = none → ∀ k, k < 80 → gI t.1 114 k = nI ((fsN P L sg sl (x4 - 10) V (2 ^ pN P)).2.2.2.2.2 k)))) ∧ ∀ kk : MM → Int32 → Int32 → Int32 → Int32 → Int32 → Option (Int32 × MM), fX12_fits_l92 kk FU M x4 0 V 0 (-1) 0 = match t.2 with
      | some g => some (nI g, t.1)
      | none => kk t.1 x4 (nI (fsN P L sg sl (x4 - 10) V (2 ^ pN P)).1) (fsN P L sg sl (x4 - 10) V (2 ^ pN P)).2.1 (fsN P L sg sl (x4 - 10) V (2 ^ pN P)).2.2.1 (opI (fsN P L sg sl (x4 - 10) V (2 ^ pN P)).2.2.2.1) := by
  have hn8 := hP.2.2.1
  have hp := p8 hn8
  have hp0 : 0 < 2 ^ pN P := Nat.pow_pos (by decide)
  have hM0 : MS M o P (sbN P (2 ^ pN P - 1)) := by
    rw [show sbN P (2 ^ pN P - 1) = scnOf P from subS_full (fun i hi => by rw [Nat.testBit_two_pow_sub_one]; exact decide_eq_true hi)]
    exact hM
  obtain ⟨E, hE⟩ : ∃ E, E = 2 ^ pN P := ⟨_, rfl⟩
  rw [← hE]
  refine lpk (κ := MM → Int32 → Int32 → Int32 → Int32 → Int32 → Option (Int32 × MM)) (σ := MM × Nat) (τ := MM × Option Nat) (fun kk f st => fX12_fits_l92 kk f st.1 x4 (nI (fsN P L sg sl (x4 - 10) V st.2).1) (fsN P L sg sl (x4 - 10) V st.2).2.1 (fsN P L sg sl (x4 - 10) V st.2).2.2.1 (opI (fsN P L sg sl (x4 - 10) V st.2).2.2.2.1) (nI st.2)) (fun kk t => match t.2 with
      | some g => some (nI g, t.1)
      | none => kk t.1 x4 (nI (fsN P L sg sl (x4 - 10) V E).1) (fsN P L sg sl (x4 - 10) V E).2.1 (fsN P L sg sl (x4 - 10) V E).2.2.1 (opI (fsN P L sg sl (x4 - 10) V E).2.2.2.1)) E
    (fun g st => g = st.2 ∧ Fr [94, 102, 103, 114] M st.1 ∧ (∃ m, MS st.1 o P (sbN P m)) ∧ (∀ k, k < 80 → gI st.1 114 k = nI ((fsN P L sg sl (x4 - 10) V g).2.2.2.2.2 k)) ∧ (fsN P L sg sl (x4 - 10) V g).2.2.2.2.1 = none) _ ?_ ?_ FU 0 (M, 0) (by omega) (by show _ < 5000; omega) ⟨rfl, Fr.rfl, ⟨_, hM0⟩, hal, rfl⟩
  · rintro g ⟨M1, g2⟩ hg ⟨rfl, hF, ⟨m, b1⟩, b2, b3⟩
    simp only [] at hF b1 b2
    obtain ⟨M2, c1, c2, c3⟩ := fits_step (g := g) (x4 := x4) (X := fsN P L sg sl (x4 - 10) V g) hP b1 (ML_fr hL hF (by decide) (by decide)) (SGm_fr hG hF (by decide) (by decide)) (by omega) b2 (lst_le hP (fun s hs => (hG.2.2.2.2 s hs).2) g)
    rcases c3 with ⟨⟨c4, c5⟩, c6⟩ | ⟨c4, c5, c6⟩
    · have hk := fnd_keep (V := V) c4 c5 (E - (g + 1)) (by omega)
      rw [show g + 1 + (E - (g + 1)) = E by omega] at hk
      exact Or.inr ⟨(M2, some g), ⟨hF.trans c1, hk.1.symm, fun h => by cases h⟩, fun kk f => c6 kk f⟩
    · refine Or.inl ⟨(M2, g + 1), ⟨rfl, hF.trans c1, ⟨g, c2⟩, c5, ?_⟩, fun kk f => c6 kk f⟩
      rw [(fs_fnd g).1, if_neg c4]; exact b3
  · rintro ⟨M1, g2⟩ ⟨rfl, hF, ⟨m, b1⟩, b2, b3⟩
    refine ⟨(M1, none), ⟨hF, b3.symm, fun _ => b2⟩, fun kk f => ?_⟩
    show fX12_fits_l92 kk (f + 1) M1 x4 _ _ _ _ (nI E) = _
    rw [fX12_fits_l92.eq_2, show gI M1 90 13 = nI (pN P) from b1.2.2.2.2.2.2.2.1, shl_nI (by omega), le_t (by omega) (by omega)]
theorem mx_ref {M : MM} {al : Nat → Nat} {s : Nat} {y5 y6 : Int32} (hs : s < 8) (hal : ∀ k, k < 80 → gI M 114 k = nI (al k)) (hm : ∀ k, al k ≤ 256) (kk : Int32 → Int32 → Int32 → Int32 → Option Int32) : fX12_next_l28 M kk FU y5 y6 (nI s) 0 0 = kk y5 y6 (nI s) (nI (mxA al s 10)) := by
  have key := lpk (κ := Unit) (σ := Nat) (fun _ f c => fX12_next_l28 M kk f y5 y6 (nI s) (nI (mxA al s c)) (nI c)) (fun _ (r : Option Int32) => r) 10
    (fun c st => c = st) (fun r => r = kk y5 y6 (nI s) (nI (mxA al s 10))) ?_ ?_ FU 0 0 (by omega) (by decide) rfl
  · obtain ⟨r, h1, h2⟩ := key
    rw [← h1]
    exact h2 ()
  · rintro c c2 hc rfl
    refine Or.inl ⟨c + 1, rfl, fun _ f => ?_⟩
    have h1 := mxA_le (s := s) hm c
    have h2 := hm (10 * s + c)
    show fX12_next_l28 M kk (f + 1) y5 y6 (nI s) (nI (mxA al s c)) (nI c) = fX12_next_l28 M kk f y5 y6 (nI s) (nI (max (mxA al s c) (al (10 * s + c)))) (nI (c + 1))
    rw [fX12_next_l28.eq_2, nl10, le_f hc (by decide), pk_mul, nI_add, gd_inb (by omega) (by decide), gd_inb (by omega) (by decide), ix_nI (by omega), hal _ (by omega)]
    unfold fX12_next_j71
    rw [nI_1]
    by_cases z : al (10 * s + c) ≤ mxA al s c
    · rw [le_t z (by omega), Nat.max_eq_left z]
    · rw [le_f (by omega) (by omega), Nat.max_eq_right (by omega)]
  · rintro c rfl
    refine ⟨_, rfl, fun _ f => ?_⟩
    show fX12_next_l28 M kk (f + 1) y5 y6 (nI s) (nI (mxA al s 10)) (nI 10) = _
    rw [fX12_next_l28.eq_2, nl10, le_t (Nat.le_refl _) (by decide)]
theorem nxt_ref {M : MM} {al : Nat → Nat} {n : Nat} (hn : n ≤ 8) (h14 : gI M 90 14 = nI n) (hal : ∀ k, k < 80 → gI M 114 k = nI (al k)) (hm : ∀ k, al k ≤ 256) : fX12_next_l13 M FU (-1) 0 0 = some (opI (nxs al n).1) := by
  have key := lpk (κ := Unit) (σ := Nat) (fun _ f s => fX12_next_l13 M f (opI (nxs al s).1) (nI (nxs al s).2) (nI s)) (fun _ (r : Int32) => some r) n
    (fun s st => s = st) (fun r => r = opI (nxs al n).1) ?_ ?_ FU 0 0 (by omega) (by show _ < 5000; omega) rfl
  · obtain ⟨r, h1, h2⟩ := key
    rw [← h1]
    exact h2 ()
  · rintro s s2 hs rfl
    refine Or.inl ⟨s + 1, rfl, fun _ f => ?_⟩
    obtain ⟨h1, h2⟩ := nxs_le hm s
    have h3 := mxA_le (s := s) hm 10
    show fX12_next_l13 M (f + 1) (opI (nxs al s).1) (nI (nxs al s).2) (nI s) = fX12_next_l13 M f (opI (nxs al (s + 1)).1) (nI (nxs al (s + 1)).2) (nI (s + 1))
    rw [fX12_next_l13.eq_2, h14, le_f hs (by omega), mx_ref (by omega) hal hm, nxs]
    unfold fX12_next_j93
    cases e : (nxs al s).1 with
    | none => simp only []; rw [if_pos (show opI none = -1 from rfl), nI_1]; rfl
    | some b =>
      have := h2 b e
      simp only []
      rw [show opI (some b) = nI b from rfl, m1_iff (by omega), nI_1]
      by_cases c : mxA al s 10 < (nxs al s).2
      · rw [lt_t c (by omega), if_pos c]; rfl
      · rw [lt_f (by omega) (by omega), if_neg c]; rfl
  · rintro s rfl
    refine ⟨_, rfl, fun _ f => ?_⟩
    show fX12_next_l13 M (f + 1) (opI (nxs al n).1) (nI (nxs al n).2) (nI n) = _
    rw [fX12_next_l13.eq_2, h14, le_t (Nat.le_refl n) (by omega)]
theorem alike0 {M : MM} {x1 x2 x3 x4 x5 : Int32} : ∃ M2, (Fr [114] M M2 ∧ ∀ k, k < 80 → gI M2 114 k = 0) ∧ ∀ kk : MM → Int32 → Int32 → Int32 → Int32 → Int32 → Option (Int32 × MM), fX12_fits_l68 kk FU M x1 x2 x3 x4 x5 (nI 0) = kk M2 x1 x2 x3 x4 x5 := by
  refine lpk (κ := MM → Int32 → Int32 → Int32 → Int32 → Int32 → Option (Int32 × MM)) (σ := MM × Nat) (fun kk f st => fX12_fits_l68 kk f st.1 x1 x2 x3 x4 x5 (nI st.2)) (fun kk M2 => kk M2 x1 x2 x3 x4 x5) 80
    (fun i st => i = st.2 ∧ Fr [114] M st.1 ∧ ∀ k, k < i → gI st.1 114 k = 0) _ ?_ ?_ FU 0 (M, 0) (by omega) (by decide) ⟨rfl, Fr.rfl, fun k hk => absurd hk (Nat.not_lt_zero k)⟩
  · rintro i ⟨M1, i2⟩ hi ⟨rfl, hF, b1⟩
    simp only [] at hF b1
    refine Or.inl ⟨(sI M1 114 i 0, i + 1), ⟨rfl, hF.pI (by decide), fun k hk => ?_⟩, fun kk f => ?_⟩
    · show gI (sI M1 114 i 0) 114 k = _
      by_cases e : k = i
      · rw [e, gI_eq]
      · rw [gI_nk _ _ _ _ _ _ e]; exact b1 k (by omega)
    · show fX12_fits_l68 kk (f + 1) M1 x1 x2 x3 x4 x5 (nI i) = fX12_fits_l68 kk f (sI M1 114 i 0) x1 x2 x3 x4 x5 (nI (i + 1))
      rw [fX12_fits_l68.eq_2, show (80 : Int32) = nI 80 from rfl, le_f (by omega) (by decide), gd_inb (by omega) (by decide), ix_nI (by omega), bnd_r, nI_1]
  · rintro ⟨M1, i2⟩ ⟨rfl, hF, b1⟩
    refine ⟨M1, ⟨hF, b1⟩, fun kk f => ?_⟩
    show fX12_fits_l68 kk (f + 1) M1 x1 x2 x3 x4 x5 (nI 80) = _
    rw [fX12_fits_l68.eq_2, show (80 : Int32) = nI 80 from rfl, le_t (by omega) (by decide)]
