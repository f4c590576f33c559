/-! ===== text: which line ===== -/
theorem wdH_inj : ∀ w, w < 20 → ∀ v, v < 20 → wdH w = wdH v → w = v := by decide +kernel
theorem wcR_iff {h w : Nat} (hw : w < 20) : ∀ n w0, w0 + n ≤ 20 → (wcR h n w0 = w + 1 ↔ (w0 ≤ w ∧ w < w0 + n) ∧ wdH w = h)
  | 0, w0, _ => by
    rw [wcR]
    constructor
    · intro e; omega
    · intro e; omega
  | n + 1, w0, hn => by
    have ih := wcR_iff (h := h) hw n (w0 + 1) (by omega)
    rw [wcR]
    by_cases c : wdH w0 = h
    · rw [if_pos c]
      constructor
      · intro e
        have e2 : w0 = w := by omega
        exact ⟨by omega, by rw [← e2]; exact c⟩
      · rintro ⟨-, e⟩
        rw [wdH_inj w0 (by omega) w hw (c.trans e.symm)]
    · rw [if_neg c, ih]
      constructor
      · rintro ⟨e1, e2⟩; exact ⟨by omega, e2⟩
      · rintro ⟨e1, e2⟩
        refine ⟨⟨?_, by omega⟩, e2⟩
        by_cases z : w0 = w
        · exact absurd (by rw [z]; exact e2) c
        · omega
theorem wcT_iff {tp : Nat → Nat} {len s w : Nat} (hw : w < 20) : wcT tp len s = w + 1 ↔ tkL tp len s - s ≤ 8 ∧ wdH w = whN tp s (tkL tp len s - s) := by
  unfold wcT wcN
  by_cases z : tkL tp len s - s ≤ 8
  · rw [if_pos z, wcR_iff hw 20 0 (by decide)]
    exact ⟨fun h => ⟨z, h.2⟩, fun h => ⟨by omega, h.2⟩⟩
  · rw [if_neg z]
    exact ⟨fun h => by omega, fun h => absurd h.1 z⟩
def flN (x : Nat) : Nat := if x = 0 then 0 else if x = 1 then 7 else if x = 2 then 13 else if x = 3 then 18 else 20
theorem flN_v : ∀ x, x < 5 → st_val 0 x = nI (flN x) := by decide +kernel
theorem line_l {M : MM} {tp : Nat → Nat} {len s x : Nat} (hT : TPc M tp) (hl : len ≤ 600) (hs : s ≤ len) (hx : x < 4) (h9 : gI M 41 9 = nI s) (h10 : gI M 41 10 = nI (tkL tp len s)) : ∀ n w f, w + n = flN (x + 1) → n < f → fX7_lineOf_l16 M f (nI x) (nI w) = some (if w + 1 ≤ wcT tp len s ∧ wcT tp len s ≤ flN (x + 1) then nI (wcT tp len s - 1) else -1)
  | n, w, f + 1, h1, h2 => by
    have hf : flN (x + 1) ≤ 20 := by unfold flN; split <;> (try split) <;> (try split) <;> (try split) <;> omega
    have hv := flN_v (x + 1) (by omega)
    rw [fX7_lineOf_l16.eq_2, nI_1, gd_inb (by omega) (by decide), ix_nI (by omega), hv, nI_1]
    cases n with
    | zero => rw [le_t (show flN (x + 1) ≤ w by omega) (by omega), if_neg (by omega)]
    | succ n =>
      rw [le_f (show w < flN (x + 1) by omega) (by omega), wd_of w (by omega)]
      obtain ⟨b, b1, b2⟩ := tok_is hT hl hs (w := w) (by omega) h9 h10
      rw [b1, bd_s, bI_0]
      cases b with
      | true =>
        have := (wcT_iff (w := w) (by omega)).mpr (b2.mp rfl)
        rw [if_pos rfl, if_pos (by omega), this]
        rfl
      | false =>
        have hne : wcT tp len s ≠ w + 1 := fun e => Bool.false_ne_true (b2.mpr ((wcT_iff (by omega)).mp e))
        rw [if_neg Bool.false_ne_true, line_l hT hl hs hx h9 h10 n (w + 1) f (by omega) (by omega)]
        by_cases z : w + 1 ≤ wcT tp len s ∧ wcT tp len s ≤ flN (x + 1)
        · rw [if_pos z, if_pos (by omega)]
        · rw [if_neg z, if_neg (by omega)]
  | _, _, 0, _, h => absurd h (Nat.not_lt_zero _)
theorem line_cls {M : MM} {tp : Nat → Nat} {len s x : Nat} (hT : TPc M tp) (hl : len ≤ 600) (hs : s ≤ len) (hx : x < 4) (h8 : gI M 41 8 = nI (tkK tp len s)) (h9 : gI M 41 9 = nI s) (h10 : gI M 41 10 = nI (tkE tp len s)) : fX7_lineOf M (nI x) = some (if tkK tp len s = 1 ∧ flN x + 1 ≤ wcT tp len s ∧ wcT tp len s ≤ flN (x + 1) then nI (wcT tp len s - 1) else -1) := by
  have hk : tkK tp len s < 5 := by unfold tkK; split <;> (try split) <;> (try split) <;> (try split) <;> omega
  unfold fX7_lineOf
  rw [h8, nl1]
  by_cases z : tkK tp len s = 1
  · have he : tkE tp len s = tkL tp len s := by
      unfold tkK at z
      unfold tkE
      by_cases c : s < len
      · rw [if_pos c] at z ⊢
        by_cases d : isLb (tp s) = true
        · rw [if_pos d]
        · rw [if_neg d] at z
          split at z
          · split at z <;> omega
          · split at z <;> omega
      · rw [if_neg c] at z; omega
    rw [he] at h10
    have hfl : flN x ≤ flN (x + 1) := by
      rcases (show x = 0 ∨ x = 1 ∨ x = 2 ∨ x = 3 by omega) with rfl | rfl | rfl | rfl <;> decide
    have hf : flN (x + 1) ≤ 20 := by
      rcases (show x = 0 ∨ x = 1 ∨ x = 2 ∨ x = 3 by omega) with rfl | rfl | rfl | rfl <;> decide
    rw [eqn_t z, gd_inb (by omega) (by decide), ix_nI (by omega), flN_v x (by omega), bnd_r, line_l hT hl hs hx h9 h10 (flN (x + 1) - flN x) (flN x) FU (by omega) (by show _ < 5000; omega)]
    by_cases c : flN x + 1 ≤ wcT tp len s ∧ wcT tp len s ≤ flN (x + 1)
    · rw [if_pos c, if_pos ⟨z, c⟩]
    · rw [if_neg c, if_neg (fun q => c q.2)]; rfl
  · rw [eqn_f z (by omega) (by decide), if_neg (fun q => z q.1)]
