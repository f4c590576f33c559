/-! ===== text: words of the class ===== -/
theorem wd_ok : ∀ w, w < 20 → (1 ≤ wdL w ∧ wdL w ≤ 8) ∧ ∀ i, i < wdL w → 97 ≤ wdN w i ∧ wdN w i ≤ 122 := by decide +kernel
theorem wd_len : ∀ w, w < 20 → fJ0_length_8abf5 w = nI (wdL w) := by decide +kernel
theorem wd_chr : ∀ w, w < 20 → ∀ i, i < wdL w → fJ0_charAt_5068e w (nI i) = some (nI (wdN w i)) := by decide +kernel
theorem wd_of : ∀ w, w < 20 → fX7_wordOf (nI w) = w := by decide +kernel
theorem wh_inj : ∀ (n m : Nat) (a b : Nat → Nat) (s t : Nat), (∀ j, j < n → 97 ≤ a (s + j) ∧ a (s + j) ≤ 122) → (∀ j, j < m → 97 ≤ b (t + j) ∧ b (t + j) ≤ 122) → whN a s n = whN b t m → n = m ∧ ∀ j, j < n → a (s + j) = b (t + j)
  | 0, 0, _, _, _, _, _, _, _ => ⟨rfl, fun j hj => absurd hj (Nat.not_lt_zero j)⟩
  | 0, m + 1, a, b, s, t, _, h2, e => by
    have := h2 m (by omega)
    rw [whN, whN] at e
    omega
  | n + 1, 0, a, b, s, t, h1, _, e => by
    have := h1 n (by omega)
    rw [whN, whN] at e
    omega
  | n + 1, m + 1, a, b, s, t, h1, h2, e => by
    have d1 := h1 n (by omega)
    have d2 := h2 m (by omega)
    rw [whN, whN] at e
    obtain ⟨i1, i2⟩ := wh_inj n m a b s t (fun j hj => h1 j (by omega)) (fun j hj => h2 j (by omega)) (by omega)
    subst i1
    refine ⟨rfl, fun j hj => ?_⟩
    by_cases z : j = n
    · subst z; omega
    · exact i2 j (by omega)
theorem wh_cong {a b : Nat → Nat} {s t : Nat} : ∀ n, (∀ j, j < n → a (s + j) = b (t + j)) → whN a s n = whN b t n
  | 0, _ => rfl
  | n + 1, h => by rw [whN, whN, wh_cong n (fun j hj => h j (by omega)), h n (by omega)]
theorem tokl_cls {M : MM} {tp : Nat → Nat} {s w : Nat} (hT : TPc M tp) (hw : w < 20) (h9 : gI M 41 9 = nI s) (hs : s + wdL w ≤ 600) : ∀ n i f, i + n = wdL w → n < f → ∃ b : Bool, fX7_isToken_l20 M w f (nI i) = some (bI b) ∧ (b = true ↔ ∀ j, i ≤ j → j < wdL w → tp (s + j) = wdN w j)
  | 0, i, f + 1, h1, _ => ⟨true, by rw [fX7_isToken_l20.eq_2, wd_len w hw, le_t (show wdL w ≤ i by omega) (by omega)]; rfl, fun _ j h2 h3 => by omega, fun _ => rfl⟩
  | n + 1, i, f + 1, h1, h2 => by
    obtain ⟨t1, t2⟩ := hT (s + i) (by omega)
    have hd := (wd_ok w hw).2 i (by omega)
    have e := sgb_e (tp (s + i)) t2 (wdN w i) (by omega)
    have head : fX7_isToken_l20 M w (f + 1) (nI i) = if sgb (tp (s + i)) = nI (wdN w i) then fX7_isToken_l20 M w f (nI (i + 1)) else some 0 := by
      rw [fX7_isToken_l20.eq_2, wd_len w hw, le_f (show i < wdL w by omega) (by omega), h9, nI_add, gd_inb (by omega) (by decide), ix_nI (by omega), wd_chr w hw i (by omega), bd_s, t1, nI_1]
    by_cases z : tp (s + i) = wdN w i
    · obtain ⟨b, b1, b2⟩ := tokl_cls hT hw h9 hs n (i + 1) f (by omega) (by omega)
      refine ⟨b, by rw [head, if_pos (e.mpr z)]; exact b1, fun hb j h3 h4 => ?_, fun h => b2.mpr (fun j h3 h4 => h j (by omega) h4)⟩
      by_cases q : j = i
      · rw [q]; exact z
      · exact b2.mp hb j (by omega) h4
    · exact ⟨false, by rw [head, if_neg (fun q => z (e.mp q))]; rfl, fun h => (Bool.false_ne_true h).elim, fun h => absurd (h i (Nat.le_refl i) (by omega)) z⟩
  | _, _, 0, _, h => absurd h (Nat.not_lt_zero _)
theorem tok_is {M : MM} {tp : Nat → Nat} {len s w : Nat} (hT : TPc M tp) (hl : len ≤ 600) (hs : s ≤ len) (hw : w < 20) (h9 : gI M 41 9 = nI s) (h10 : gI M 41 10 = nI (tkL tp len s)) : ∃ b : Bool, fX7_isToken M w = some (bI b) ∧ (b = true ↔ tkL tp len s - s ≤ 8 ∧ wdH w = whN tp s (tkL tp len s - s)) := by
  have hge : s ≤ tkL tp len s := runE_ge _ _ _ _
  have hle : tkL tp len s ≤ len := runE_le _ _ _ _ hs
  obtain ⟨⟨l1, l8⟩, hd⟩ := wd_ok w hw
  have hdig : ∀ j, j < tkL tp len s - s → 97 ≤ tp (s + j) ∧ tp (s + j) ≤ 122 := fun j hj =>
    of_decide_eq_true (runE_all (fun j => isLb (tp j)) len 600 s (s + j) (by omega) (by show s + j < tkL tp len s; omega)).1
  unfold fX7_isToken
  rw [wd_len w hw, h10, h9, pk_sub hge]
  by_cases z : wdL w = tkL tp len s - s
  · obtain ⟨b, b1, b2⟩ := tokl_cls hT hw h9 (by omega) (wdL w) 0 FU (by omega) (by show _ < 5000; omega)
    refine ⟨b, by rw [eqn_t z]; exact b1, fun h => ⟨by omega, ?_⟩, fun h => b2.mpr (fun j _ h3 => ?_)⟩
    · rw [← z]
      refine wh_cong _ (fun j hj => ?_)
      rw [Nat.zero_add]; exact (b2.mp h j (Nat.zero_le j) hj).symm
    · have := (wh_inj (wdL w) (tkL tp len s - s) (wdN w) tp 0 s (fun j hj => by rw [Nat.zero_add]; exact hd j hj) hdig h.2).2 j h3
      rw [Nat.zero_add] at this
      exact this.symm
  · refine ⟨false, by rw [eqn_f z (by omega) (by omega)]; rfl, fun h => (Bool.false_ne_true h).elim, fun h => ?_⟩
    exact absurd (wh_inj (wdL w) (tkL tp len s - s) (wdN w) tp 0 s (fun j hj => by rw [Nat.zero_add]; exact hd j hj) hdig h.2).1 z
