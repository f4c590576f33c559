/-! ===== text: numbers ===== -/
theorem sgb_lo : ∀ b, b < 128 → sgb b = nI b := by decide +kernel
theorem tkK_2 {tp : Nat → Nat} {len s : Nat} (z : tkK tp len s = 2) : s < len ∧ isDb (tp s) = true ∧ isLb (tp s) = false ∧ tkD tp len s - s ≤ 2 ∧ tkE tp len s = tkD tp len s ∧ rkN tp len s = 1 := by
  unfold tkK at z
  by_cases c : s < len
  · rw [if_pos c] at z
    cases el : isLb (tp s) with
    | true => rw [if_pos el] at z; omega
    | false =>
      rw [el, if_neg Bool.false_ne_true] at z
      cases ed : isDb (tp s) with
      | true =>
        rw [ed, if_pos rfl] at z
        by_cases q : tkD tp len s - s ≤ 2
        · refine ⟨c, rfl, rfl, q, ?_, ?_⟩
          · unfold tkE; rw [if_pos c, el, if_neg Bool.false_ne_true, if_pos ed]
          · unfold rkN; rw [if_pos c, el, if_neg Bool.false_ne_true, if_pos ed, if_pos q]
        · rw [if_neg q] at z; omega
      | false =>
        rw [ed, if_neg Bool.false_ne_true] at z
        split at z <;> omega
  · rw [if_neg c] at z; omega
theorem rk_1 {tp : Nat → Nat} {len s : Nat} (z : rkN tp len s = 1) : tkK tp len s = 2 := by
  unfold rkN at z
  unfold tkK
  by_cases c : s < len
  · rw [if_pos c] at z ⊢
    cases el : isLb (tp s) with
    | true => rw [if_pos el] at z; split at z <;> omega
    | false =>
      rw [el, if_neg Bool.false_ne_true] at z
      rw [if_neg Bool.false_ne_true]
      cases ed : isDb (tp s) with
      | true =>
        rw [ed, if_pos rfl] at z
        rw [if_pos rfl]
        by_cases q : tkD tp len s - s ≤ 2
        · rw [if_pos q]
        · rw [if_neg q] at z; omega
      | false =>
        rw [ed, if_neg Bool.false_ne_true] at z
        split at z <;> omega
  · rw [if_neg c] at z; omega
theorem numl_cls {M : MM} {tp : Nat → Nat} {len s : Nat} (hT : TPc M tp) (hl : len ≤ 600) (hs : s ≤ len) (h10 : gI M 41 10 = nI (tkD tp len s)) : ∀ n i f, s + i + n = tkD tp len s → n < f → fX7_numberOfToken_l7 M f (nI (dvN tp s i)) (nI (s + i)) = some (nI (dvN tp s (tkD tp len s - s)))
  | n, i, f + 1, h1, h2 => by
    have hle : tkD tp len s ≤ len := runE_le _ _ _ _ hs
    rw [fX7_numberOfToken_l7.eq_2, h10]
    cases n with
    | zero => rw [le_t (show tkD tp len s ≤ s + i by omega) (by omega), show tkD tp len s - s = i by omega]
    | succ n =>
      have hd := of_decide_eq_true (runE_all (fun j => isDb (tp j)) len 600 s (s + i) (by omega) (by show s + i < tkD tp len s; omega)).1
      rw [le_f (show s + i < tkD tp len s by omega) (by omega), gd_inb (by omega) (by decide), ix_nI (by omega), (hT (s + i) (by omega)).1, sgb_lo _ (by omega), nl10, pk_mul, nI_add, show (48 : Int32) = nI 48 from rfl, pk_sub (by omega), bnd_r, nI_1]
      have ih := numl_cls hT hl hs h10 n (i + 1) f (by omega) (by omega)
      rw [dvN] at ih
      rw [show 10 * dvN tp s i + tp (s + i) - 48 = 10 * dvN tp s i + (tp (s + i) - 48) by omega]
      exact ih
  | _, _, 0, _, h => absurd h (Nat.not_lt_zero _)
theorem num_cls {M : MM} {tp : Nat → Nat} {len s : Nat} (hT : TPc M tp) (hl : len ≤ 600) (hs : s ≤ len) (hk : tkK tp len s = 2) (h9 : gI M 41 9 = nI s) (h10 : gI M 41 10 = nI (tkE tp len s)) : fX7_numberOfToken M = some (nI (dvN tp s (tkD tp len s - s))) := by
  have hge : s ≤ tkD tp len s := runE_ge _ _ _ _
  have hle : tkD tp len s ≤ len := runE_le _ _ _ _ hs
  rw [(tkK_2 hk).2.2.2.2.1] at h10
  unfold fX7_numberOfToken
  rw [bnd_r, h9]
  exact numl_cls hT hl hs h10 (tkD tp len s - s) 0 FU (by omega) (by show _ < 5000; omega)
