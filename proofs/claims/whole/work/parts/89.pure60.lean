/-! ===== text: the lines of the class ===== -/
def runA (tp : Nat → Nat) (len x : Nat) : Nat → RST × DRF → RST × DRF
  | 0, y => y
  | n + 1, y => if y.1.2.1 = 1 ∨ ¬ y.1.1 < len then y else runA tp len x n (lnS tp len x y.2 y.1, lnD tp len x y.2 y.1)
theorem runA_end {tp : Nat → Nat} {len x : Nat} : ∀ n y, (y.1.2.1 = 1 ∨ len ≤ y.1.1 + n) → (runA tp len x n y).1.2.1 = 1 ∨ ¬ (runA tp len x n y).1.1 < len
  | 0, y, h => by
    rw [runA]
    rcases h with h | h
    · exact Or.inl h
    · exact Or.inr (by omega)
  | n + 1, y, h => by
    rw [runA]
    split
    · assumption
    · rename_i c
      have c1 : ¬ y.1.2.1 = 1 := fun e => c (Or.inl e)
      have c2 : y.1.1 < len := by
        rcases Nat.lt_or_ge y.1.1 len with q | q
        · exact q
        · exact absurd (Or.inr (by omega)) c
      refine runA_end n _ ?_
      rcases lnS_prog (tp := tp) (x := x) (D := y.2) c2 with q | q
      · exact Or.inl q
      · refine Or.inr ?_
        have := h.resolve_left c1
        show len ≤ (lnS tp len x y.2 y.1).1 + n
        omega
theorem loop_cls {tp : Nat → Nat} {len x : Nat} (hx : x < 4) : ∀ n k f M (y : RST × DRF), (y.1.2.1 = 1 ∨ (len ≤ y.1.1 + n ∧ k ≤ y.1.1)) → n < f → k ≤ 601 → CS M tp len y.1 → CDf M y.2 → DWf y.2 →
    ∃ M2, (Fr rdCL M M2 ∧ CS M2 tp len (runA tp len x n y).1 ∧ CDf M2 (runA tp len x n y).2 ∧ DWf (runA tp len x n y).2) ∧ ∀ kk, fX7_read_l66 kk f M (nI x) (nI k) = kk M2 (nI x)
  | n, k, f + 1, M, y, h, hf, hk6, hC, hD, hW => by
    have hk5 := tkK_5 tp len y.1.1
    have hf6 := hC.2.2.2.2.2.2.2.2.2
    have hl6 := hC.2.1
    have head : ∀ kk, fX7_read_l66 kk (f + 1) M (nI x) (nI k) = if 600 ≤ k then kk M (nI x) else if ¬ y.1.1 < len then kk M (nI x) else if y.1.2.1 = 1 then kk M (nI x) else (fX7_readLine M (nI x)).bind (fun p27 => fX7_read_l66 kk f p27 (nI x) (nI (k + 1))) := fun kk => by
      rw [fX7_read_l66.eq_2, hC.2.2.2.2.1, hC.2.2.2.2.2.2.2.1, show (600 : Int32) = nI 600 from rfl, nI_1]
      by_cases a : 600 ≤ k
      · rw [le_t a (by omega), if_pos a]
      · rw [le_f (by omega) (by decide), if_neg a]
        by_cases b : y.1.1 < len
        · have hb : ¬ tkK tp len y.1.1 = 0 := fun e => (tkK_0.mp e) b
          rw [eqz_f (by omega) (by omega), if_neg (show ¬ ¬ y.1.1 < len from fun q => q b)]
          by_cases c : y.1.2.1 = 1
          · rw [nl1, eqn_t c, if_pos c]
          · rw [nl1, eqn_f c (by omega) (by decide), if_neg c]
        · rw [eqz_t (tkK_0.mpr b), if_pos b]
    by_cases c : y.1.2.1 = 1 ∨ ¬ y.1.1 < len
    · have e : runA tp len x n y = y := by
        cases n with
        | zero => rfl
        | succ n => rw [runA, if_pos c]
      rw [e]
      refine ⟨M, ⟨Fr.rfl, hC, hD, hW⟩, fun kk => ?_⟩
      rw [head]
      by_cases a : 600 ≤ k
      · rw [if_pos a]
      · rw [if_neg a]
        by_cases b : ¬ y.1.1 < len
        · rw [if_pos b]
        · rw [if_neg b, if_pos (c.resolve_right b)]
    · have c1 : ¬ y.1.2.1 = 1 := fun e => c (Or.inl e)
      have c2 : y.1.1 < len := by
        rcases Nat.lt_or_ge y.1.1 len with q | q
        · exact q
        · exact absurd (Or.inr (by omega)) c
      obtain ⟨h1, h2⟩ := h.resolve_left c1
      cases n with
      | zero => omega
      | succ n =>
        obtain ⟨M1, m1, m2, m3, m4, m5⟩ := line_CS hx hC c1 hW hD
        obtain ⟨M2, ⟨i1, i2, i3, i4⟩, i5⟩ := loop_cls hx n (k + 1) f M1 (lnS tp len x y.2 y.1, lnD tp len x y.2 y.1) (by
          rcases lnS_prog (tp := tp) (x := x) (D := y.2) c2 with q | q
          · exact Or.inl q
          · refine Or.inr ⟨?_, ?_⟩
            · show len ≤ (lnS tp len x y.2 y.1).1 + n; omega
            · show k + 1 ≤ (lnS tp len x y.2 y.1).1; omega) (by omega) (by omega) m3 m4 m5
        rw [runA, if_neg c]
        refine ⟨M2, ⟨m2.trans i1, i2, i3, i4⟩, fun kk => ?_⟩
        rw [head, if_neg (by omega), if_neg (fun q => q c2), if_neg c1, m1, bd_s, i5]
  | _, _, 0, _, _, _, h, _, _, _, _ => absurd h (Nat.not_lt_zero _)
/-! ===== text: the class settles ===== -/
def insP (P : PARD) : Prop := (∀ q, q < 64 → pWa P q = true → inP (pW P) (pH P) q) ∧ (∀ k, k < pN P → inP (pW P) (pH P) (pAt P k)) ∧ (∀ k, k < pS P → inP (pW P) (pH P) (pSh P k 1))
def PDs (P : PARD) : Prop := (∀ i j, i < pN P → j < pN P → pAt P i = pAt P j → i = j) ∧ (∀ i j, i < pS P → j < pS P → pSh P i 1 = pSh P j 1 → i = j) ∧
  (∀ i j, i < pN P → j < pS P → pAt P i ≠ pSh P j 1) ∧ (∀ i, i < pN P → pWa P (pAt P i) = false) ∧ (∀ j, j < pS P → pWa P (pSh P j 1) = false)
theorem isOut_cls {M : MM} {P : PARD} {q : Nat} (h : CDP M P) (hP : DPW P) (hq : q < 64) : (fX5_isOutside M (nI q) = 0 ∧ inP (pW P) (pH P) q) ∨ (fX5_isOutside M (nI q) = 1 ∧ ¬ inP (pW P) (pH P) q) := by
  obtain ⟨⟨b1, b2⟩, ⟨b3, b4⟩, -⟩ := hP
  unfold fX5_isOutside
  rw [h.1, h.2.1, show (7 : Int32) = nI 7 from rfl, and_nI, show q &&& 7 = q % 8 from Nat.and_two_pow_sub_one_eq_mod q 3, show (3 : Int32) = nI 3 from rfl, shr_nI (by omega) (by decide)]
  by_cases c : q % 8 < pW P
  · rw [le_f c (by omega)]
    by_cases d : q / 8 < pH P
    · left
      exact ⟨by rw [lt_t (show q / 2 ^ 3 < pH P from d) (by omega)], c, d⟩
    · right
      exact ⟨by rw [lt_f (show pH P ≤ q / 2 ^ 3 from by omega) (by omega)], fun z => d z.2⟩
  · right
    exact ⟨by rw [le_t (by omega) (by omega)], fun z => c z.1⟩
theorem out_l2 {M : MM} {P : PARD} (h : CDP M P) (hP : DPW P) (k : Option Int32) : ∀ n y f, y + n = 64 → n < f → (fX5_isAnyOutside_l2 M k f (nI y) = some 1 ∧ ¬ insP P) ∨ (fX5_isAnyOutside_l2 M k f (nI y) = k ∧ ∀ q, y ≤ q → q < 64 → pWa P q = true → inP (pW P) (pH P) q)
  | n, y, f + 1, h1, h2 => by
    obtain ⟨m, a7, a8, a9⟩ := h.2.2.2.2.2.2.1
    rw [fX5_isAnyOutside_l2.eq_2]
    cases n with
    | zero => right; exact ⟨by rw [nl64, le_t (by omega) (by omega)], fun q h3 h4 => by omega⟩
    | succ n =>
      rw [nl64, le_f (show y < 64 by omega) (by decide), a8, bit_l0 a7 (by omega), a9 y (by omega), nI_1]
      have ih := out_l2 h hP k n (y + 1) f (by omega) (by omega)
      by_cases c : pWa P y = true
      · rw [if_pos c]
        rcases isOut_cls h hP (q := y) (by omega) with ⟨e1, e2⟩ | ⟨e1, e2⟩
        · rw [e1, if_pos rfl]
          rcases ih with i | ⟨i1, i2⟩
          · exact Or.inl i
          · refine Or.inr ⟨i1, fun q h3 h4 h5 => ?_⟩
            by_cases z : q = y
            · rw [z]; exact e2
            · exact i2 q (by omega) h4 h5
        · rw [e1, if_neg i10]
          exact Or.inl ⟨rfl, fun z => e2 (z.1 y (by omega) c)⟩
      · rw [if_neg c]
        rcases ih with i | ⟨i1, i2⟩
        · exact Or.inl i
        · refine Or.inr ⟨i1, fun q h3 h4 h5 => ?_⟩
          by_cases z : q = y
          · rw [z] at h5; exact absurd h5 c
          · exact i2 q (by omega) h4 h5
  | _, _, 0, _, h => absurd h (Nat.not_lt_zero _)
theorem out_l39 {M : MM} {P : PARD} (h : CDP M P) (hP : DPW P) (k : Option Int32) : ∀ n y f, y + n = pN P → n < f → (fX5_isAnyOutside_l39 M k f (nI y) = some 1 ∧ ¬ insP P) ∨ (fX5_isAnyOutside_l39 M k f (nI y) = k ∧ ∀ q, y ≤ q → q < pN P → inP (pW P) (pH P) (pAt P q))
  | n, y, f + 1, h1, h2 => by
    have p8 := hP.2.2.1
    rw [fX5_isAnyOutside_l39.eq_2, h.2.2.1]
    cases n with
    | zero => right; exact ⟨by rw [le_t (by omega) (by omega)], fun q h3 h4 => by omega⟩
    | succ n =>
      rw [le_f (show y < pN P by omega) (by omega), gd_inb (by omega) (by decide), ix_nI (by omega), (h.2.2.2.2.1 y (by omega)).1, nI_1]
      have ih := out_l39 h hP k n (y + 1) f (by omega) (by omega)
      rcases isOut_cls h hP (hP.2.2.2.2.2.1 y (by omega)).1 with ⟨e1, e2⟩ | ⟨e1, e2⟩
      · rw [e1, if_pos rfl]
        rcases ih with i | ⟨i1, i2⟩
        · exact Or.inl i
        · refine Or.inr ⟨i1, fun q h3 h4 => ?_⟩
          by_cases z : q = y
          · rw [z]; exact e2
          · exact i2 q (by omega) h4
      · rw [e1, if_neg i10]
        exact Or.inl ⟨rfl, fun z => e2 (z.2.1 y (by omega))⟩
  | _, _, 0, _, h => absurd h (Nat.not_lt_zero _)
theorem out_l70 {M : MM} {P : PARD} (h : CDP M P) (hP : DPW P) : ∀ n y f, y + n = pS P → n < f → (fX5_isAnyOutside_l70 M f (nI y) = some 1 ∧ ¬ insP P) ∨ (fX5_isAnyOutside_l70 M f (nI y) = some 0 ∧ ∀ q, y ≤ q → q < pS P → inP (pW P) (pH P) (pSh P q 1))
  | n, y, f + 1, h1, h2 => by
    have p8 := hP.2.2.2.1
    rw [fX5_isAnyOutside_l70.eq_2, h.2.2.2.1]
    cases n with
    | zero => right; exact ⟨by rw [le_t (by omega) (by omega)], fun q h3 h4 => by omega⟩
    | succ n =>
      rw [le_f (show y < pS P by omega) (by omega), gd_inb (by omega) (by decide), ix_nI (by omega), (h.2.2.2.2.2.1 y (by omega)).2.1, nI_1]
      have ih := out_l70 h hP n (y + 1) f (by omega) (by omega)
      rcases isOut_cls h hP (hP.2.2.2.2.2.2 y (by omega)).2.1 with ⟨e1, e2⟩ | ⟨e1, e2⟩
      · rw [e1, if_pos rfl]
        rcases ih with i | ⟨i1, i2⟩
        · exact Or.inl i
        · refine Or.inr ⟨i1, fun q h3 h4 => ?_⟩
          by_cases z : q = y
          · rw [z]; exact e2
          · exact i2 q (by omega) h4
      · rw [e1, if_neg i10]
        exact Or.inl ⟨rfl, fun z => e2 (z.2.2 y (by omega))⟩
  | _, _, 0, _, h => absurd h (Nat.not_lt_zero _)
theorem anyOut_cls {M : MM} {P : PARD} (h : CDP M P) (hP : DPW P) : (fX5_isAnyOutside M = some 1 ∧ ¬ insP P) ∨ (fX5_isAnyOutside M = some 0 ∧ insP P) := by
  have p8 := hP.2.2.1
  have s8 := hP.2.2.2.1
  unfold fX5_isAnyOutside
  rcases out_l2 h hP (fX5_isAnyOutside_l39 M (fX5_isAnyOutside_l70 M FU 0) FU 0) 64 0 FU rfl (by show _ < 5000; omega) with i | ⟨i1, i2⟩
  · exact Or.inl i
  · rw [show fX5_isAnyOutside_l2 M (fX5_isAnyOutside_l39 M (fX5_isAnyOutside_l70 M FU 0) FU 0) FU 0 = _ from i1]
    rcases out_l39 h hP (fX5_isAnyOutside_l70 M FU 0) (pN P) 0 FU (by omega) (by show _ < 5000; omega) with j | ⟨j1, j2⟩
    · exact Or.inl j
    · rw [show fX5_isAnyOutside_l39 M (fX5_isAnyOutside_l70 M FU 0) FU 0 = _ from j1]
      rcases out_l70 h hP (pS P) 0 FU (by omega) (by show _ < 5000; omega) with k | ⟨k1, k2⟩
      · exact Or.inl k
      · exact Or.inr ⟨k1, fun q h1 h2 => i2 q (Nat.zero_le q) h1 h2, fun q h1 => j2 q (Nat.zero_le q) h1, fun q h1 => k2 q (Nat.zero_le q) h1⟩
