/-! ===== text: what is told anew ===== -/
def upT (T : TOLD) (x k n : Nat) (D : DRF) (p : Int32) : TOLD := (fun s => if s = x then n else tNum T s, 0, 0, p, tTap T, fun j => if x = 0 ∧ j = k then D.1 else tPar T j, fun j => if x = 1 ∧ j = k then D.2.1 else tLaw T j, fun j => if x = 2 ∧ j = k then D.2.2.1 else tEve T j, fun j => if x = 3 ∧ j = k then D.2.2.2 else tSig T j)
def loX (x k : Nat) : Nat := 1 + ((if x = 0 then 6 else if x = 1 then 15 else if x = 2 then 16 else 20) + 16 * k)
def hiX (x k : Nat) : Nat := loX x k + (if x = 0 then 8 else if x = 1 then 0 else if x = 2 then 3 else 1)
def plX (x k : Nat) : Nat := if x = 0 then 610 + 124 * k else if x = 1 then 858 + 6 * k else if x = 2 then 870 + 121 * k else 1112 + 9 * k
def szX (x : Nat) : Nat := if x = 0 then 124 else if x = 1 then 6 else if x = 2 then 121 else 9
theorem up_old {T : TOLD} {x k n s j : Nat} (hkn : ∀ j, j < n → j = k ∨ j < tNum T x) (hj : j < if s = x then n else tNum T s) (h : ¬ (x = s ∧ j = k)) : j < tNum T s := by
  by_cases e : s = x
  · rw [if_pos e] at hj
    rcases hkn j hj with z | z
    · exact absurd ⟨e.symm, z⟩ h
    · rw [e]; exact z
  · rw [if_neg e] at hj; exact hj
theorem TW_up {T : TOLD} {x k n : Nat} {D : DRF} {p : Int32} (hW : TW T) (hn : n ≤ 2) (hkn : ∀ j, j < n → j = k ∨ j < tNum T x) (hD : DWf D) (hP : x = 0 → PW D.1) : TW (upT T x k n D p) := by
  obtain ⟨a1, a2, a3, a4, a5, a6, a7⟩ := hW
  refine ⟨fun s hs => ?_, Nat.zero_le _, a3, fun j hj => ?_, fun j hj => ?_, fun j hj => ?_, fun j hj => ?_⟩
  · show (if s = x then n else tNum T s) ≤ 2
    split
    · exact hn
    · exact a1 s hs
  · show PW (if x = 0 ∧ j = k then D.1 else tPar T j)
    by_cases c : x = 0 ∧ j = k
    · rw [if_pos c]; exact hP c.1
    · rw [if_neg c]; exact a4 j (up_old (s := 0) hkn hj c)
  · show LWd (if x = 1 ∧ j = k then D.2.1 else tLaw T j)
    by_cases c : x = 1 ∧ j = k
    · rw [if_pos c]; exact hD.2.1
    · rw [if_neg c]; exact a5 j (up_old (s := 1) hkn hj c)
  · show EWd (if x = 2 ∧ j = k then D.2.2.1 else tEve T j)
    by_cases c : x = 2 ∧ j = k
    · rw [if_pos c]; exact hD.2.2.1
    · rw [if_neg c]; exact a6 j (up_old (s := 2) hkn hj c)
  · show SWd (if x = 3 ∧ j = k then D.2.2.2 else tSig T j)
    by_cases c : x = 3 ∧ j = k
    · rw [if_pos c]; exact hD.2.2.2
    · rw [if_neg c]; exact a7 j (up_old (s := 3) hkn hj c)
def SLT (M1 : MM) (x k : Nat) (D : DRF) : Prop := (x = 0 → CP M1 (1 + (6 + 16 * k)) D.1) ∧ (x = 1 → ∀ j, j < 6 → gI M1 (1 + (15 + 16 * k)) j = nI (D.2.1 j)) ∧
  (x = 2 → gI M1 (1 + (16 + 16 * k)) 0 = nI D.2.2.1.1 ∧ ∀ i, i < D.2.2.1.1 → ∀ j, j < 3 → gI M1 (1 + (16 + 16 * k) + (1 + j)) i = D.2.2.1.2 i j) ∧
  (x = 3 → gI M1 (1 + (20 + 16 * k)) 0 = nI (D.2.2.2 0) ∧ ∀ i, i < 8 → gI M1 (1 + (20 + 16 * k) + 1) i = nI (D.2.2.2 (1 + i)) - 1)
theorem CT_up {M M1 : MM} {T : TOLD} {x k n : Nat} {D : DRF} {p : Int32} (hW : TW T) (hC : CT M 1 T) (hx : x < 4) (hk : k < 2) (hkn : ∀ j, j < n → j = k ∨ j < tNum T x) (hn : n ≤ 2)
    (ha : ∀ c, 2 < c → c ≤ 39 → (c < loX x k ∨ hiX x k < c) → M1.1 c = M.1 c) (hb : ∀ s, s < 4 → gI M1 2 s = nI (if s = x then n else tNum T s)) (h6 : gI M1 1 6 = nI 0) (h7 : gI M1 1 7 = 0) (h8 : gI M1 1 8 = p) (hd : SLT M1 x k D) (hl : D.2.1 1 ≤ 1) : CT M1 1 (upT T x k n D p) := by
  obtain ⟨c1, c2, c3, c4, c5, c6, c7, c8, c9, c10⟩ := hC
  obtain ⟨d0, d1, d2, d3⟩ := hd
  have n0 := hW.1 0 (by decide)
  have n1 := hW.1 1 (by decide)
  have n2 := hW.1 2 (by decide)
  have n3 := hW.1 3 (by decide)
  have hh : ∀ c, 2 < c → c ≤ 39 → (c < loX x k ∨ hiX x k < c) → ∀ i, gI M1 c i = gI M c i := fun c z1 z2 z3 => gI_of (ha c z1 z2 z3)
  unfold hiX loX at ha hh
  refine ⟨hb, h6, h7, h8, fun i hi => ?_, fun j hj => ?_, fun j hj => ?_, fun j hj => ?_, fun j hj => ?_, fun j hj => ?_⟩
  · rw [hh _ (by omega) (by omega) (by rcases (show x = 0 ∨ x = 1 ∨ x = 2 ∨ x = 3 by omega) with rfl | rfl | rfl | rfl <;> simp <;> omega)]
    exact c5 i hi
  · show CP M1 (1 + (6 + 16 * j)) (if x = 0 ∧ j = k then D.1 else tPar T j)
    by_cases c : x = 0 ∧ j = k
    · rw [if_pos c, c.2]; exact d0 c.1
    · have hj2 := up_old (s := 0) hkn hj c
      rw [if_neg c]
      refine CP_congr (c6 j hj2) (fun q q1 q2 => ha q (by omega) (by omega) ?_)
      rcases (show x = 0 ∨ x = 1 ∨ x = 2 ∨ x = 3 by omega) with rfl | rfl | rfl | rfl <;> simp at c ⊢ <;> omega
  · show ∀ i, i < 6 → gI M1 (1 + (15 + 16 * j)) i = nI ((if x = 1 ∧ j = k then D.2.1 else tLaw T j) i)
    by_cases c : x = 1 ∧ j = k
    · rw [if_pos c, c.2]; exact d1 c.1
    · have hj2 := up_old (s := 1) hkn hj c
      rw [if_neg c]
      intro i hi
      rw [hh _ (by omega) (by omega) (by rcases (show x = 0 ∨ x = 1 ∨ x = 2 ∨ x = 3 by omega) with rfl | rfl | rfl | rfl <;> simp at c ⊢ <;> omega)]
      exact c7 j hj2 i hi
  · show gI M1 (1 + (16 + 16 * j)) 0 = nI (if x = 2 ∧ j = k then D.2.2.1 else tEve T j).1 ∧ ∀ i, i < (if x = 2 ∧ j = k then D.2.2.1 else tEve T j).1 → ∀ y, y < 3 → gI M1 (1 + (16 + 16 * j) + (1 + y)) i = (if x = 2 ∧ j = k then D.2.2.1 else tEve T j).2 i y
    by_cases c : x = 2 ∧ j = k
    · rw [if_pos c, c.2]; exact d2 c.1
    · have hj2 := up_old (s := 2) hkn hj c
      rw [if_neg c]
      refine ⟨?_, fun i hi y hy => ?_⟩
      · rw [hh _ (by omega) (by omega) (by rcases (show x = 0 ∨ x = 1 ∨ x = 2 ∨ x = 3 by omega) with rfl | rfl | rfl | rfl <;> simp at c ⊢ <;> omega)]
        exact (c8 j hj2).1
      · rw [hh _ (by omega) (by omega) (by rcases (show x = 0 ∨ x = 1 ∨ x = 2 ∨ x = 3 by omega) with rfl | rfl | rfl | rfl <;> simp at c ⊢ <;> omega)]
        exact (c8 j hj2).2 i hi y hy
  · show gI M1 (1 + (20 + 16 * j)) 0 = nI ((if x = 3 ∧ j = k then D.2.2.2 else tSig T j) 0) ∧ ∀ i, i < 8 → gI M1 (1 + (20 + 16 * j) + 1) i = nI ((if x = 3 ∧ j = k then D.2.2.2 else tSig T j) (1 + i)) - 1
    by_cases c : x = 3 ∧ j = k
    · rw [if_pos c, c.2]; exact d3 c.1
    · have hj2 := up_old (s := 3) hkn hj c
      rw [if_neg c]
      refine ⟨?_, fun i hi => ?_⟩
      · rw [hh _ (by omega) (by omega) (by rcases (show x = 0 ∨ x = 1 ∨ x = 2 ∨ x = 3 by omega) with rfl | rfl | rfl | rfl <;> simp at c ⊢ <;> omega)]
        exact (c9 j hj2).1
      · rw [hh _ (by omega) (by omega) (by rcases (show x = 0 ∨ x = 1 ∨ x = 2 ∨ x = 3 by omega) with rfl | rfl | rfl | rfl <;> simp at c ⊢ <;> omega)]
        exact (c9 j hj2).2 i hi
  · by_cases c : x = 1 ∧ j = k
    · rw [c.2, d1 c.1 1 (by decide)]
      rcases (show D.2.1 1 = 0 ∨ D.2.1 1 = 1 by omega) with z | z <;> rw [z] <;> decide
    · rw [hh _ (by omega) (by omega) (by rcases (show x = 0 ∨ x = 1 ∨ x = 2 ∨ x = 3 by omega) with rfl | rfl | rfl | rfl <;> simp at c ⊢ <;> omega)]
      exact c10 j hj
theorem MT_up {M M2 Mz : MM} {T : TOLD} {x k n : Nat} {D : DRF} {p : Int32} (hW : TW T) (hM : MT M 0 T) (hx : x < 4) (hk : k < 2) (hkn : ∀ j, j < n → j = k ∨ j < tNum T x)
    (ha : ∀ i, 7 ≤ i → i < 1130 → (i < plX x k ∨ plX x k + szX x ≤ i) → gI M2 91 i = gI M 91 i) (hb : ∀ s, s < 4 → gI M2 91 s = nI (if s = x then n else tNum T s)) (h4 : gI M2 91 4 = nI 0) (h5 : gI M2 91 5 = 0) (h6 : gI M2 91 6 = p) (hd : ∀ i, i < szX x → gI M2 91 (plX x k + i) = gI Mz 93 i) (hR : RDx x Mz D) : MT M2 0 (upT T x k n D p) := by
  obtain ⟨c1, c2, c3, c4, c5, c6, c7, c8, c9⟩ := hM
  have n0 := hW.1 0 (by decide)
  have n1 := hW.1 1 (by decide)
  have n2 := hW.1 2 (by decide)
  have n3 := hW.1 3 (by decide)
  unfold plX szX at ha hd
  refine ⟨fun s hs => by rw [Nat.zero_add]; exact hb s hs, h4, h5, h6, fun i hi => ?_, fun j hj => ?_, fun j hj => ?_, fun j hj => ?_, fun j hj => ?_⟩
  · rw [ha _ (by omega) (by omega) (by rcases (show x = 0 ∨ x = 1 ∨ x = 2 ∨ x = 3 by omega) with rfl | rfl | rfl | rfl <;> simp <;> omega)]
    exact c5 i hi
  · show MP M2 (0 + 610 + 124 * j) (if x = 0 ∧ j = k then D.1 else tPar T j)
    by_cases c : x = 0 ∧ j = k
    · rw [if_pos c, c.2]
      obtain ⟨rfl, -⟩ := c
      simp only [if_true] at hd
      obtain ⟨r0, r1, r2, r3, r4, r5, r6, r7, -⟩ := hR
      have g : ∀ y i, y = 610 + 124 * k + i → i < 124 → gI M2 91 y = gI Mz 93 i := fun y i e hi => by rw [e]; exact hd i hi
      refine ⟨by rw [g _ 0 (by omega) (by decide)]; exact r1, by rw [g _ 1 (by omega) (by decide)]; exact r2, by rw [g _ 2 (by omega) (by decide)]; exact r3, by rw [g _ 3 (by omega) (by decide)]; exact r4, fun q hq => by rw [g _ (4 + q) (by omega) (by omega)]; exact r5 q hq, fun q hq => ⟨?_, ?_⟩, fun q hq i hi => ?_⟩
      · rw [g _ (68 + 2 * q) (by omega) (by omega)]; exact (r6 q hq).1
      · rw [g _ (68 + 2 * q + 1) (by omega) (by omega)]; exact (r6 q hq).2
      · rw [g _ (84 + 5 * q + i) (by omega) (by omega)]; exact r7 q hq i hi
    · have hj2 := up_old (s := 0) hkn hj c
      rw [if_neg c]
      refine MP_congr (hW.2.2.2.1 j hj2) (c6 j hj2) (fun i hi => ha _ (by omega) (by omega) ?_)
      rcases (show x = 0 ∨ x = 1 ∨ x = 2 ∨ x = 3 by omega) with rfl | rfl | rfl | rfl <;> simp at c ⊢ <;> omega
  · show ∀ i, i < 6 → gI M2 91 (0 + 858 + 6 * j + i) = nI ((if x = 1 ∧ j = k then D.2.1 else tLaw T j) i)
    by_cases c : x = 1 ∧ j = k
    · rw [if_pos c, c.2]
      obtain ⟨rfl, -⟩ := c
      intro i hi
      have := hd i hi
      rw [show 0 + 858 + 6 * k + i = 858 + 6 * k + i by omega, show gI M2 91 (858 + 6 * k + i) = gI Mz 93 i from this]
      exact hR i hi
    · have hj2 := up_old (s := 1) hkn hj c
      rw [if_neg c]
      intro i hi
      rw [ha _ (by omega) (by omega) (by rcases (show x = 0 ∨ x = 1 ∨ x = 2 ∨ x = 3 by omega) with rfl | rfl | rfl | rfl <;> simp at c ⊢ <;> omega)]
      exact c7 j hj2 i hi
  · show gI M2 91 (0 + 870 + 121 * j) = nI (if x = 2 ∧ j = k then D.2.2.1 else tEve T j).1 ∧ ∀ i, i < (if x = 2 ∧ j = k then D.2.2.1 else tEve T j).1 → ∀ y, y < 3 → gI M2 91 (0 + 870 + 121 * j + 1 + 3 * i + y) = (if x = 2 ∧ j = k then D.2.2.1 else tEve T j).2 i y
    by_cases c : x = 2 ∧ j = k
    · rw [if_pos c, c.2]
      obtain ⟨rfl, -⟩ := c
      obtain ⟨r0, r1, r2⟩ := hR
      have g : ∀ y i, y = 870 + 121 * k + i → i < 121 → gI M2 91 y = gI Mz 93 i := fun y i e hi => by rw [e]; exact hd i hi
      refine ⟨by rw [g _ 0 (by omega) (by decide)]; exact r1, fun i hi y hy => ?_⟩
      rw [g _ (1 + 3 * i + y) (by omega) (by omega)]; exact r2 i hi y hy
    · have hj2 := up_old (s := 2) hkn hj c
      have h40 := (hW.2.2.2.2.2.1 j hj2).1
      rw [if_neg c]
      refine ⟨?_, fun i hi y hy => ?_⟩
      · rw [ha _ (by omega) (by omega) (by rcases (show x = 0 ∨ x = 1 ∨ x = 2 ∨ x = 3 by omega) with rfl | rfl | rfl | rfl <;> simp at c ⊢ <;> omega)]
        exact (c8 j hj2).1
      · rw [ha _ (by omega) (by omega) (by rcases (show x = 0 ∨ x = 1 ∨ x = 2 ∨ x = 3 by omega) with rfl | rfl | rfl | rfl <;> simp at c ⊢ <;> omega)]
        exact (c8 j hj2).2 i hi y hy
  · show ∀ i, i < 9 → gI M2 91 (0 + 1112 + 9 * j + i) = nI ((if x = 3 ∧ j = k then D.2.2.2 else tSig T j) i)
    by_cases c : x = 3 ∧ j = k
    · rw [if_pos c, c.2]
      obtain ⟨rfl, -⟩ := c
      intro i hi
      have := hd i hi
      rw [show 0 + 1112 + 9 * k + i = 1112 + 9 * k + i by omega, show gI M2 91 (1112 + 9 * k + i) = gI Mz 93 i from this]
      exact hR i hi
    · have hj2 := up_old (s := 3) hkn hj c
      rw [if_neg c]
      intro i hi
      rw [ha _ (by omega) (by omega) (by rcases (show x = 0 ∨ x = 1 ∨ x = 2 ∨ x = 3 by omega) with rfl | rfl | rfl | rfl <;> simp at c ⊢ <;> omega)]
      exact c9 j hj2 i hi
theorem cp_l249 {M0 : MM} {x k : Nat} (hx : x < 4) (hk : k < 2) : ∀ m i f M, i + m = szX x → m < f → Fr [91] M0 M → (∀ j, j < i → gI M 91 (plX x k + j) = gI M0 93 j) → (∀ j, (j < plX x k ∨ plX x k + i ≤ j) → gI M 91 j = gI M0 91 j) →
    ∃ M2, fX12_text_l249 f M (nI x) (nI k) (nI i) = some (nI k, M2) ∧ Fr [91] M0 M2 ∧ (∀ j, j < szX x → gI M2 91 (plX x k + j) = gI M0 93 j) ∧ ∀ j, (j < plX x k ∨ plX x k + szX x ≤ j) → gI M2 91 j = gI M0 91 j
  | m, i, f + 1, M, h1, h2, hF, hv, ho => by
    have hsz : fX12_sizeOf (nI x) = nI (szX x) := by rcases (show x = 0 ∨ x = 1 ∨ x = 2 ∨ x = 3 by omega) with rfl | rfl | rfl | rfl <;> rfl
    have hs : szX x ≤ 124 := by unfold szX; split <;> (try split) <;> (try split) <;> omega
    have hp : plX x k + szX x ≤ 1130 := by unfold plX szX; split <;> (try split) <;> (try split) <;> omega
    have hpl : fX12_placeOf (nI x) (nI k) = nI (plX x k) := by
      rcases (show x = 0 ∨ x = 1 ∨ x = 2 ∨ x = 3 by omega) with rfl | rfl | rfl | rfl <;> rcases (show k = 0 ∨ k = 1 by omega) with rfl | rfl <;> rfl
    cases m with
    | zero =>
      have e : i = szX x := by omega
      subst e
      exact ⟨M, by rw [fX12_text_l249.eq_2, hsz, le_t (Nat.le_refl _) (by omega)], hF, hv, ho⟩
    | succ m =>
      have e93 : gI M 93 i = gI M0 93 i := hF.gi (by decide) i
      obtain ⟨M2, m1, m2, m3, m4⟩ := cp_l249 (M0 := M0) hx hk m (i + 1) f (sI M 91 (plX x k + i) (gI M0 93 i)) (by omega) (by omega) (hF.pI (by decide)) (fun j hj => by
        by_cases e : j = i
        · rw [e, gI_eq]
        · rw [gI_nk _ _ _ _ _ _ (by omega)]; exact hv j (by omega)) (fun j hj => by
        rw [gI_nk _ _ _ _ _ _ (by omega)]; exact ho j (by omega))
      refine ⟨M2, ?_, m2, m3, m4⟩
      rw [fX12_text_l249.eq_2, hsz, hpl, le_f (by omega) (by omega), gd_inb (by omega) (by decide), nI_add, gd_inb (by omega) (by decide), bnd_r, ix_nI (by omega), ix_nI (by omega), e93, nI_1]
      exact m1
  | _, _, 0, _, _, h, _, _, _ => absurd h (Nat.not_lt_zero _)
theorem keepDraft_cls {M : MM} {x k : Nat} {D : DRF} (hx : x < 4) (hk : k < 2) (hD : DWf D) (h0 : x = 0 → PW D.1 ∧ CP M 42 D.1) (h1 : CDL M D.2.1) (h2 : CDE M D.2.2.1) (h3 : CDS M D.2.2.2) : ∃ M2, fX11_keepDraft M (nI x) (nI k) = some M2 ∧ OUT (loX x k) (hiX x k) M M2 ∧ SLT M2 x k D := by
  unfold fX11_keepDraft fX11_keepDraft_j23 fX11_keepDraft_j47 fX11_keepDraft_j71
  rw [gd_inb hk (by decide), gd_inb hk (by decide), gd_inb hk (by decide), gd_inb hk (by decide), ix_nI (by omega)]
  rcases (show x = 0 ∨ x = 1 ∨ x = 2 ∨ x = 3 by omega) with rfl | rfl | rfl | rfl
  · obtain ⟨hPW, hCP⟩ := h0 rfl
    obtain ⟨M2, p1, p2, p3, p4, p5, -⟩ := copy_spec (M := M) (a0 := 1 + (6 + 16 * k)) (a1 := 42) (by omega)
    refine ⟨M2, ?_, OUT.of p2 (fun c hc => by simp at hc; unfold hiX loX; simp; omega), fun _ => ?_, fun e => absurd e (by decide), fun e => absurd e (by decide), fun e => absurd e (by decide)⟩
    · rw [if_pos (show nI 0 = 0 from rfl), p1]; rfl
    · have a3 := hPW.2.2.1
      have a4 := hPW.2.2.2.1
      have h64 : pW D.1 * pH D.1 ≤ 64 := wh_64 (scn_SW hPW)
      obtain ⟨d1, d2, d3, d4, d5, d6, d7, d8⟩ := hCP
      refine ⟨by rw [p3 0 (by decide)]; exact d1, by rw [p3 1 (by decide)]; exact d2, by rw [p3 2 (by decide)]; exact d3, by rw [p3 3 (by decide)]; exact d4, fun y hy => ?_, fun y hy => ?_, fun y hy => by rw [p5 y (by omega)]; exact d7 y hy, fun y hy => by rw [p4 5 (by decide) (by decide) y hy]; exact d8 y hy⟩
      · rw [p4 1 (by decide) (by decide) y (by omega), p4 2 (by decide) (by decide) y (by omega)]; exact d5 y hy
      · rw [p4 3 (by decide) (by decide) y (by omega), p4 4 (by decide) (by decide) y (by omega), p4 5 (by decide) (by decide) y (by omega), p4 6 (by decide) (by decide) y (by omega), p4 7 (by decide) (by decide) y (by omega)]; exact d6 y hy
  · obtain ⟨M2, p1, p2, p3⟩ := lawcp (M := M) (a0 := 1 + (15 + 16 * k)) (a1 := 51) (by
      rw [h1 1 (by decide)]
      have := hD.2.1.2.1
      rcases (show D.2.1 1 = 0 ∨ D.2.1 1 = 1 by omega) with z | z <;> rw [z] <;> decide) (by omega)
    refine ⟨M2, ?_, p2.wide (Nat.le_refl _) (Nat.le_refl _), fun e => absurd e (by decide), fun _ j hj => by rw [p3 j hj]; exact h1 j hj, fun e => absurd e (by decide), fun e => absurd e (by decide)⟩
    rw [if_neg (show ¬ nI 1 = 0 by decide), if_pos (show nI 1 = 1 from rfl), p1]; rfl
  · obtain ⟨M2, p1, p2, p3, p4⟩ := evecp (M := M) (a0 := 1 + (16 + 16 * k)) (a1 := 52) (by omega)
    have h40 := hD.2.2.1.1
    refine ⟨M2, ?_, p2.wide (Nat.le_refl _) (Nat.le_refl _), fun e => absurd e (by decide), fun e => absurd e (by decide), fun _ => ⟨by rw [p3]; exact h2.1, fun i hi j hj => ?_⟩, fun e => absurd e (by decide)⟩
    · rw [if_neg (show ¬ nI 2 = 0 by decide), if_neg (show ¬ nI 2 = 1 by decide), if_pos (show nI 2 = 2 from rfl), p1]; rfl
    · rw [p4 (1 + j) (by omega) (by omega) i (by omega), show 52 + (1 + j) = 53 + j by omega]; exact h2.2 i hi j hj
  · obtain ⟨M2, p1, p2, p3, p4⟩ := sigcp (M := M) (a0 := 1 + (20 + 16 * k)) (a1 := 56) (by omega)
    refine ⟨M2, ?_, p2.wide (Nat.le_refl _) (Nat.le_refl _), fun e => absurd e (by decide), fun e => absurd e (by decide), fun e => absurd e (by decide), fun _ => ⟨by rw [p3]; exact h3.1, fun i hi => by rw [p4 i hi]; exact h3.2 i hi⟩⟩
    rw [if_neg (show ¬ nI 3 = 0 by decide), if_neg (show ¬ nI 3 = 1 by decide), if_neg (show ¬ nI 3 = 2 by decide), if_pos (show nI 3 = 3 from rfl), p1]; rfl
theorem KI_tp {K : SK} (h : KI K) : KI (kSet K 41 6 39) := by
  have hq : ∀ q ∈ tdR, q.2.1 = 6 → q.1 < 39 ∧ tdT.getD q.1 (0, 0) = (5, 0) := by decide +kernel
  have hr : ∀ q ∈ refT, ¬ (q.1 = 41 ∧ q.2.1 = 6) := by decide +kernel
  obtain ⟨⟨l1, l2, l3⟩, t⟩ := h
  have g : ∀ c j, ¬ (c = 41 ∧ j = 6) → (kSet K 41 6 39).2.2 c j = K.2.2 c j := fun c j hne => by
    show (if c = 41 then (fun j => if j = 6 then some 39 else K.2.2 41 j) else K.2.2 c) j = _
    by_cases e : c = 41
    · rw [if_pos e, if_neg (fun z => hne ⟨e, z⟩), e]
    · rw [if_neg e]
  refine ⟨⟨l1, l2, fun q hq => by rw [g _ _ (hr q hq)]; exact l3 q hq⟩, fun j a hj => ?_⟩
  rw [g 40 j (fun z => absurd z.1 (by decide))] at hj
  obtain ⟨t1, t2⟩ := t j a hj
  refine ⟨t1, fun q hq2 => ?_⟩
  rw [g _ _ (fun z => ?_)]
  · exact t2 q hq2
  · obtain ⟨z1, z2⟩ := hq q hq2 z.2
    have h1 := (t1 q.1 z1).2
    rw [z2, z.1, l2 41 (by decide)] at h1
    exact absurd h1 (by decide)
