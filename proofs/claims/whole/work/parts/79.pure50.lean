/-! ===== text: words of the reference ===== -/
def whN (tp : Nat → Nat) (s : Nat) : Nat → Nat
  | 0 => 0
  | k + 1 => 32 * whN tp s k + (tp (s + k) - 96)
theorem lt_ref {tp : Nat → Nat} {len s : Nat} : ∀ n i M f, TPm M tp len → gI M 90 3 = nI i → gI M 90 4 = nI s → s ≤ i → i ≤ len → len ≤ i + n → n < f → ∃ M2, (W90 [3] M M2 ∧ gI M2 90 3 = nI (runE (fun j => isLb (tp j)) len n i)) ∧ ∀ kk, fX12_advance_l77 kk f M (lN (whN tp s (min (i - s) 8))) = kk M2 (lN (whN tp s (min (runE (fun j => isLb (tp j)) len n i - s) 8)))
  | n, i, M, f + 1, h, h3, h4, hs, h1, h2, hf => by
    have hl := h.2.1
    have ht : i < len → tp i < 256 := fun c => (h.2.2 i (by omega)).2
    have head : ∀ (kk : MM → Int64 → Option MM) y, fX12_advance_l77 kk (f + 1) M y = if (decide (i < len) && isLb (tp i)) = true then (if 8 ≤ i - s then fX12_advance_l77 kk f (sI M 90 3 (nI (i + 1))) y else fX12_advance_l77 kk f (sI M 90 3 (nI (i + 1))) (32 * y + Int32.toInt64 (rbI tp len i) - 96)) else kk M y := fun kk y => by
      rw [fX12_advance_l77.eq_2, h3, byte_ref h h1, bd_s, bd_s, rb_l ht, bI_0, h4, pk_sub hs, bnd_r]
      unfold fX12_advance_j125
      rw [bnd_r, bnd_r, h3, nI_1, nl8]
      by_cases z : 8 ≤ i - s
      · rw [le_t z (by omega), if_pos z]
      · rw [le_f (by omega) (by decide), if_neg z]
    cases n with
    | zero =>
      refine ⟨M, ⟨W90.rfl, by rw [runE]; exact h3⟩, fun kk => ?_⟩
      rw [head, decide_eq_false (show ¬ i < len by omega), Bool.false_and, if_neg Bool.false_ne_true, runE]
    | succ n =>
      by_cases c : i < len ∧ isLb (tp i) = true
      · have hd := of_decide_eq_true c.2
        obtain ⟨M2, ⟨a1, a2⟩, a3⟩ := lt_ref n (i + 1) (sI M 90 3 (nI (i + 1))) f (TPm_w h (W90.rfl.pI (by decide : (3 : Nat) ∈ [3])) (by decide)) (gI_eq _ _ _ _) (by rw [gI_nk _ _ _ _ _ _ (by decide)]; exact h4) (by omega) (by omega) (by omega) (by omega)
        refine ⟨M2, ⟨(W90.rfl.pI (by decide)).trans a1, by rw [a2, runE, if_pos c]⟩, fun kk => ?_⟩
        rw [head, decide_eq_true c.1, c.2, if_pos (show (true && true) = true from rfl), runE, if_pos c]
        by_cases z : 8 ≤ i - s
        · rw [if_pos z, show min (i - s) 8 = min (i + 1 - s) 8 by omega]; exact a3 kk
        · have hv : 32 * lN (whN tp s (min (i - s) 8)) + Int32.toInt64 (rbI tp len i) - 96 = lN (whN tp s (min (i + 1 - s) 8)) := by
            unfold rbI
            rw [if_pos c.1, nI_l (by omega), show (32 : Int64) = lN 32 from rfl, show (96 : Int64) = lN 96 from rfl, lN_mul, lN_add, lN_sub (by omega), show min (i + 1 - s) 8 = min (i - s) 8 + 1 by omega, whN, show s + min (i - s) 8 = i by omega]
            congr 1
            omega
          rw [if_neg z, hv]; exact a3 kk
      · refine ⟨M, ⟨W90.rfl, by rw [runE, if_neg c]; exact h3⟩, fun kk => ?_⟩
        rw [head, if_neg (fun z => c (by rw [Bool.and_eq_true] at z; exact ⟨of_decide_eq_true z.1, z.2⟩)), runE, if_neg c]
  | _, _, _, 0, _, _, _, _, _, _, h => absurd h (Nat.not_lt_zero _)
/-- the letters of the w-th word -/
def wdN (w i : Nat) : Nat := ((strByt.getD w []).getD i 0).toNatClampNeg
def wdL (w : Nat) : Nat := strLen.getD w 0
def wdH (w : Nat) : Nat := whN (wdN w) 0 (wdL w)
/-- the word with this hash: its number and 1, or 99 -/
def wcR (h : Nat) : Nat → Nat → Nat
  | 0, _ => 99
  | n + 1, w => if wdH w = h then w + 1 else wcR h n (w + 1)
def wcN (h : Nat) : Nat := wcR h 20 0
theorem cmpN {a b : Nat} (ha : a < 2 ^ 63) (hb : b < 2 ^ 63) {α : Type} {x y : α} : (if lg_cmp (lN a) (lN b) = 0 then x else y) = if b = a then x else y := by
  unfold lg_cmp
  by_cases c : b = a
  · rw [if_pos c, c, if_neg (show ¬ lN a > lN a from fun h => absurd ((pk_lLT ha ha).mp h) (Nat.lt_irrefl a)), if_pos rfl, if_pos rfl]
  · rw [if_neg c, if_neg (show ¬ lN a = lN b from fun h => c ((pk_lEQ ha hb).mp h).symm)]
    by_cases d : lN a > lN b
    · rw [if_pos d, if_neg (by decide)]
    · rw [if_neg d, if_neg (by decide)]
theorem wdH_lt : ∀ w, w < 20 → wdH w < 2 ^ 63 := by decide +kernel
theorem wk0 : fX12_four 19 9 26 5 = lN (wdH 0) := by decide +kernel
theorem wk1 : fX12_four 23 1 12 12 = lN (wdH 1) := by decide +kernel
theorem wk2 : fX12_eight 0 0 16 5 18 19 15 14 = lN (wdH 2) := by decide +kernel
theorem wk3 : fX12_four 16 15 14 4 = lN (wdH 3) := by decide +kernel
theorem wk4 : fX12_eight 0 0 0 19 16 15 15 14 = lN (wdH 4) := by decide +kernel
theorem wk5 : fX12_eight 0 0 13 9 18 18 15 18 = lN (wdH 5) := by decide +kernel
theorem wk6 : fX12_four 0 5 25 5 = lN (wdH 6) := by decide +kernel
theorem wk7 : fX12_eight 0 3 15 21 19 9 14 19 = lN (wdH 7) := by decide +kernel
theorem wk8 : fX12_eight 0 0 0 19 5 1 20 19 = lN (wdH 8) := by decide +kernel
theorem wk9 : fX12_four 0 23 1 25 = lN (wdH 9) := by decide +kernel
theorem wk10 : fX12_four 0 20 1 24 = lN (wdH 10) := by decide +kernel
theorem wk11 : fX12_eight 0 0 0 20 23 9 14 19 = lN (wdH 11) := by decide +kernel
theorem wk12 : fX12_four 19 15 21 16 = lN (wdH 12) := by decide +kernel
theorem wk13 : fX12_four 0 0 7 15 = lN (wdH 13) := by decide +kernel
theorem wk14 : fX12_four 20 21 18 14 = lN (wdH 14) := by decide +kernel
theorem wk15 : fX12_four 19 20 9 18 = lN (wdH 15) := by decide +kernel
theorem wk16 : fX12_four 3 1 12 13 = lN (wdH 16) := by decide +kernel
theorem wk17 : fX12_eight 0 0 0 3 15 21 14 20 = lN (wdH 17) := by decide +kernel
theorem wk18 : fX12_four 20 15 12 4 = lN (wdH 18) := by decide +kernel
theorem wk19 : fX12_eight 0 0 0 19 12 9 16 19 = lN (wdH 19) := by decide +kernel
theorem wcR_s (h n w : Nat) : wcR h (n + 1) w = if wdH w = h then w + 1 else wcR h n (w + 1) := rfl
theorem word_ref {h : Nat} (hh : h < 2 ^ 63) : fX12_wordOf (lN h) = nI (wcN h) := by
  unfold fX12_wordOf fX12_otherWord wcN
  rw [wk0, wk1, wk2, wk3, wk4, wk5, wk6, wk7, wk8, wk9, wk10, wk11, wk12, wk13, wk14, wk15, wk16, wk17, wk18, wk19]
  rw [cmpN hh (wdH_lt 0 (by decide)), wcR_s]
  by_cases c0 : wdH 0 = h
  · rw [if_pos c0, if_pos c0]; rfl
  rw [if_neg c0, if_neg c0]
  rw [cmpN hh (wdH_lt 1 (by decide)), wcR_s]
  by_cases c1 : wdH 1 = h
  · rw [if_pos c1, if_pos c1]; rfl
  rw [if_neg c1, if_neg c1]
  rw [cmpN hh (wdH_lt 2 (by decide)), wcR_s]
  by_cases c2 : wdH 2 = h
  · rw [if_pos c2, if_pos c2]; rfl
  rw [if_neg c2, if_neg c2]
  rw [cmpN hh (wdH_lt 3 (by decide)), wcR_s]
  by_cases c3 : wdH 3 = h
  · rw [if_pos c3, if_pos c3]; rfl
  rw [if_neg c3, if_neg c3]
  rw [cmpN hh (wdH_lt 4 (by decide)), wcR_s]
  by_cases c4 : wdH 4 = h
  · rw [if_pos c4, if_pos c4]; rfl
  rw [if_neg c4, if_neg c4]
  rw [cmpN hh (wdH_lt 5 (by decide)), wcR_s]
  by_cases c5 : wdH 5 = h
  · rw [if_pos c5, if_pos c5]; rfl
  rw [if_neg c5, if_neg c5]
  rw [cmpN hh (wdH_lt 6 (by decide)), wcR_s]
  by_cases c6 : wdH 6 = h
  · rw [if_pos c6, if_pos c6]; rfl
  rw [if_neg c6, if_neg c6]
  rw [cmpN hh (wdH_lt 7 (by decide)), wcR_s]
  by_cases c7 : wdH 7 = h
  · rw [if_pos c7, if_pos c7]; rfl
  rw [if_neg c7, if_neg c7]
  rw [cmpN hh (wdH_lt 8 (by decide)), wcR_s]
  by_cases c8 : wdH 8 = h
  · rw [if_pos c8, if_pos c8]; rfl
  rw [if_neg c8, if_neg c8]
  rw [cmpN hh (wdH_lt 9 (by decide)), wcR_s]
  by_cases c9 : wdH 9 = h
  · rw [if_pos c9, if_pos c9]; rfl
  rw [if_neg c9, if_neg c9]
  rw [cmpN hh (wdH_lt 10 (by decide)), wcR_s]
  by_cases c10 : wdH 10 = h
  · rw [if_pos c10, if_pos c10]; rfl
  rw [if_neg c10, if_neg c10]
  rw [cmpN hh (wdH_lt 11 (by decide)), wcR_s]
  by_cases c11 : wdH 11 = h
  · rw [if_pos c11, if_pos c11]; rfl
  rw [if_neg c11, if_neg c11]
  rw [cmpN hh (wdH_lt 12 (by decide)), wcR_s]
  by_cases c12 : wdH 12 = h
  · rw [if_pos c12, if_pos c12]; rfl
  rw [if_neg c12, if_neg c12]
  rw [cmpN hh (wdH_lt 13 (by decide)), wcR_s]
  by_cases c13 : wdH 13 = h
  · rw [if_pos c13, if_pos c13]; rfl
  rw [if_neg c13, if_neg c13]
  rw [cmpN hh (wdH_lt 14 (by decide)), wcR_s]
  by_cases c14 : wdH 14 = h
  · rw [if_pos c14, if_pos c14]; rfl
  rw [if_neg c14, if_neg c14]
  rw [cmpN hh (wdH_lt 15 (by decide)), wcR_s]
  by_cases c15 : wdH 15 = h
  · rw [if_pos c15, if_pos c15]; rfl
  rw [if_neg c15, if_neg c15]
  rw [cmpN hh (wdH_lt 16 (by decide)), wcR_s]
  by_cases c16 : wdH 16 = h
  · rw [if_pos c16, if_pos c16]; rfl
  rw [if_neg c16, if_neg c16]
  rw [cmpN hh (wdH_lt 17 (by decide)), wcR_s]
  by_cases c17 : wdH 17 = h
  · rw [if_pos c17, if_pos c17]; rfl
  rw [if_neg c17, if_neg c17]
  rw [cmpN hh (wdH_lt 18 (by decide)), wcR_s]
  by_cases c18 : wdH 18 = h
  · rw [if_pos c18, if_pos c18]; rfl
  rw [if_neg c18, if_neg c18]
  rw [cmpN hh (wdH_lt 19 (by decide)), wcR_s]
  by_cases c19 : wdH 19 = h
  · rw [if_pos c19, if_pos c19]; rfl
  rw [if_neg c19, if_neg c19]
  rfl
