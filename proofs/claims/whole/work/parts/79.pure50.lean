/-! ===== text: words of the reference ===== -/
def whN (tp : Nat → Nat) (s : Nat) : Nat → Nat
  | 0 => 0
  | k + 1 => 32 * whN tp s k + (tp (s + k) - 96)
theorem lt_ref {tp : Nat → Nat} {len s : Nat} : ∀ n i M f, TPm M tp len → gI M 90 3 = nI i → gI M 90 4 = nI s → s ≤ i → i ≤ len → len ≤ i + n → n < f → ∃ M2, (W90 [3] M M2 ∧ gI M2 90 3 = nI (runE (fun j => isLb (tp j)) len n i)) ∧ ∀ kk, fX12_advance_l77 kk f M (lN (whN tp s (min (i - s) 8))) = kk M2 (lN (whN tp s (min (runE (fun j => isLb (tp j)) len n i - s) 8)))
  | n, i, M, f + 1, h, h3, h4, hs, h1, h2, hf => by
    have hl := h.2.1
    have ht : i < len → tp i < 256 := fun c => (h.2.2 i (by omega)).2
    have head : ∀ (kk : MM → Int64 → Option MM) y, fX12_advance_l77 kk (f + 1) M y = if (decide (i < len) && isLb (tp i)) = true then (if 8 ≤ i - s then fX12_advance_l77 kk f (sI M 90 3 (nI (i + 1))) y else fX12_advance_l77 kk f (sI M 90 3 (nI (i + 1))) (32 * y + Int32.toInt64 (rbI tp len i) - 96)) else kk M y := fun kk y => by
      rw [fX12_advance_l77.eq_2, h3, byte_ref h h1, bd_s, bd_s, rb_l ht, bI_0, h4, pk_sub hs, bnd_r]
      unfold fX12_advance_j125
      rw [bnd_r, bnd_r, h3, nI_1, nl8]
      by_cases z : 8 ≤ i - s
      · rw [le_t z (by omega), if_pos z]
      · rw [le_f (by omega) (by decide), if_neg z]
    cases n with
    | zero =>
      refine ⟨M, ⟨W90.rfl, by rw [runE]; exact h3⟩, fun kk => ?_⟩
      rw [head, decide_eq_false (show ¬ i < len by omega), Bool.false_and, if_neg Bool.false_ne_true, runE]
    | succ n =>
      by_cases c : i < len ∧ isLb (tp i) = true
      · have hd := of_decide_eq_true c.2
        obtain ⟨M2, ⟨a1, a2⟩, a3⟩ := lt_ref n (i + 1) (sI M 90 3 (nI (i + 1))) f (TPm_w h (W90.rfl.pI (by decide : (3 : Nat) ∈ [3])) (by decide)) (gI_eq _ _ _ _) (by rw [gI_nk _ _ _ _ _ _ (by decide)]; exact h4) (by omega) (by omega) (by omega) (by omega)
        refine ⟨M2, ⟨(W90.rfl.pI (by decide)).trans a1, by rw [a2, runE, if_pos c]⟩, fun kk => ?_⟩
        rw [head, decide_eq_true c.1, c.2, if_pos (show (true && true) = true from rfl), runE, if_pos c]
        by_cases z : 8 ≤ i - s
        · rw [if_pos z, show min (i - s) 8 = min (i + 1 - s) 8 by omega]; exact a3 kk
        · have hv : 32 * lN (whN tp s (min (i - s) 8)) + Int32.toInt64 (rbI tp len i) - 96 = lN (whN tp s (min (i + 1 - s) 8)) := by
            unfold rbI
            rw [if_pos c.1, nI_l (by omega), show (32 : Int64) = lN 32 from rfl, show (96 : Int64) = lN 96 from rfl, lN_mul, lN_add, lN_sub (by omega), show min (i + 1 - s) 8 = min (i - s) 8 + 1 by omega, whN, show s + min (i - s) 8 = i by omega]
            congr 1
            omega
          rw [if_neg z, hv]; exact a3 kk
      · refine ⟨M, ⟨W90.rfl, by rw [runE, if_neg c]; exact h3⟩, fun kk => ?_⟩
        rw [head, if_neg (fun z => c (by rw [Bool.and_eq_true] at z; exact ⟨of_decide_eq_true z.1, z.2⟩)), runE, if_neg c]
  | _, _, _, 0, _, _, _, _, _, _, h => absurd h (Nat.not_lt_zero _)
/-- the letters of the w-th word -/
def wdN (w i : Nat) : Nat := ((strByt.getD w []).getD i 0).toNatClampNeg
def wdL (w : Nat) : Nat := strLen.getD w 0
def wdH (w : Nat) : Nat := whN (wdN w) 0 (wdL w)
/-- the word with this hash: its number and 1, or 99 -/
def wcN (h : Nat) : Nat := match fstN (fun w => wdH w == h) 20 with
  | some w => w + 1
  | none => 99
