/-! ===== people put elsewhere ===== -/
theorem fstN_cong {p q : Nat → Bool} : ∀ {n : Nat}, (∀ k, k < n → p k = q k) → fstN p n = fstN q n
  | 0, _ => rfl
  | n + 1, h => by rw [fstN, fstN, fstN_cong (fun k hk => h k (by omega)), h n (by omega)]
/-- a scene with a person elsewhere, or away -/
def setA (S : SCN) (p : Nat) (o : Option Nat) : SCN := (cW S, cH S, cN S, cS S, cWa S, fun k => if k = p then o else cAt S k, cNm S, cSh S, cSt S, cHd S)
theorem setA_at (S : SCN) (p k : Nat) (o : Option Nat) : cAt (setA S p o) k = if k = p then o else cAt S k := rfl
theorem setA_SE (S : SCN) (p : Nat) (o : Option Nat) : SE S (setA S p o) := ⟨rfl, rfl, rfl, rfl, rfl, rfl, rfl⟩
theorem setA_twice (S : SCN) (p : Nat) (o o2 : Option Nat) : setA (setA S p o) p o2 = setA S p o2 := by
  unfold setA
  congr 6
  funext k
  show (if k = p then o2 else if k = p then o else cAt S k) = _
  by_cases e : k = p
  · rw [if_pos e, if_pos e]
  · rw [if_neg e, if_neg e, if_neg e]
theorem setA_id {S : SCN} {p : Nat} {o : Option Nat} (h : cAt S p = o) : setA S p o = S := by
  have : (fun k => if k = p then o else cAt S k) = cAt S := by
    funext k
    by_cases e : k = p
    · rw [if_pos e, e, h]
    · rw [if_neg e]
  unfold setA
  rw [this]
theorem setA_comm {S : SCN} {p q : Nat} {o o2 : Option Nat} (h : p ≠ q) : setA (setA S p o) q o2 = setA (setA S q o2) p o := by
  have : (fun k => if k = q then o2 else if k = p then o else cAt S k) = (fun k => if k = p then o else if k = q then o2 else cAt S k) := by
    funext k
    by_cases e : k = p
    · rw [if_pos e, if_neg (fun z => h (e.symm.trans z)), if_pos e]
    · rw [if_neg e, if_neg e]
  unfold setA
  show (cW S, cH S, cN S, cS S, cWa S, (fun k => if k = q then o2 else if k = p then o else cAt S k), cNm S, cSh S, cSt S, cHd S) = (cW S, cH S, cN S, cS S, cWa S, (fun k => if k = p then o else if k = q then o2 else cAt S k), cNm S, cSh S, cSt S, cHd S)
  rw [this]
theorem setA_SW {S : SCN} (h : SW S) {p : Nat} {o : Option Nat} (ho : ∀ q, o = some q → inP (cW S) (cH S) q) : SW (setA S p o) := by
  obtain ⟨h1, h2, h3, h4, h5, h6⟩ := h
  refine ⟨h1, h2, h3, h4, fun k q hk e => ?_, h6⟩
  rw [setA_at] at e
  by_cases c : k = p
  · rw [if_pos c] at e; exact ho q e
  · rw [if_neg c] at e; exact h5 k q hk e
theorem setA_on_ne {S : SCN} {p x : Nat} {o : Option Nat} (h1 : cAt S p ≠ some x) (h2 : o ≠ some x) : onS (setA S p o) x = onS S x := by
  unfold onS
  show (match fstN (fun k => (if k = p then o else cAt S k) == some x) (cN S) with
    | some k => 10 + k
    | none => match fstN (fun k => cSh S k 1 == x && !cHd S k) (cS S) with
      | some k => 20 + k
      | none => if cWa S x then 1 else 0) = _
  have hc : fstN (fun k => (if k = p then o else cAt S k) == some x) (cN S) = fstN (fun k => cAt S k == some x) (cN S) := by
    refine fstN_cong (fun k hk => ?_)
    by_cases e : k = p
    · have a1 : (o == some x) = false := by simp [h2]
      have a2 : (cAt S p == some x) = false := by simp [h1]
      rw [if_pos e, e, a1, a2]
    · rw [if_neg e]
  rw [hc]
  rfl
theorem onS_free {S : SCN} {x : Nat} (h1 : ∀ k, k < cN S → cAt S k ≠ some x) (h2 : ∀ s, s < cS S → cHd S s = false → cSh S s 1 ≠ x) (h3 : cWa S x = false) : onS S x = 0 := by
  unfold onS
  rw [fstN_none (fun k hk => by simp [h1 k hk]), fstN_none (fun s hs => ?_)]
  · simp only [h3]; rfl
  · cases e : cHd S s with
    | true => simp
    | false => simp [h2 s hs e]
theorem onS_free2 {S : SCN} {x : Nat} (h : onS S x = 0) : (∀ k, k < cN S → cAt S k ≠ some x) ∧ (∀ s, s < cS S → cHd S s = false → cSh S s 1 ≠ x) ∧ cWa S x = false := by
  unfold onS at h
  cases h1 : fstN (fun k => cAt S k == some x) (cN S) with
  | some k => rw [h1] at h; simp only [] at h; omega
  | none =>
    rw [h1] at h
    simp only [] at h
    cases h2 : fstN (fun k => cSh S k 1 == x && !cHd S k) (cS S) with
    | some k => rw [h2] at h; simp only [] at h; omega
    | none =>
      rw [h2] at h
      simp only [] at h
      refine ⟨fun k hk e => ?_, fun s hs e1 e2 => ?_, ?_⟩
      · have := fstN_no h1 k hk
        rw [e] at this
        simp at this
      · have := fstN_no h2 s hs
        rw [e1, e2] at this
        simp at this
      · cases e : cWa S x with
        | false => rfl
        | true => rw [e] at h; simp at h
theorem onS_person {S : SCN} {k x : Nat} (hk : k < cN S) (e : cAt S k = some x) (h : ∀ j, j < k → cAt S j ≠ some x) : onS S x = 10 + k := by
  unfold onS
  rw [fstN_some hk (fun j hj => by simp [h j hj]) (by simp [e])]
theorem onS_shine {S : SCN} {s x : Nat} (hs : s < cS S) (e : cSh S s 1 = x) (hh : cHd S s = false) (h1 : ∀ k, k < cN S → cAt S k ≠ some x) (h : ∀ t, t < s → cSh S t 1 = x → cHd S t = true) : onS S x = 20 + s := by
  unfold onS
  rw [fstN_none (fun k hk => by simp [h1 k hk]), fstN_some hs (fun t ht => ?_) (by simp [e, hh])]
  by_cases c : cSh S t 1 = x
  · simp [h t ht c]
  · simp [c]
/-- nothing is where something else is -/
def DI (S : SCN) : Prop := (∀ i j q, i < cN S → j < cN S → cAt S i = some q → cAt S j = some q → i = j) ∧ (∀ i q s, i < cN S → s < cS S → cAt S i = some q → cHd S s = false → cSh S s 1 ≠ q) ∧ (∀ i q, i < cN S → cAt S i = some q → cWa S q = false)
theorem scn_DI {P : PARD} (h : PW P) : DI (scnOf P) := by
  obtain ⟨-, -, -, -, -, -, -, h8, h9, h10, h11, h12⟩ := h
  refine ⟨fun i j q hi hj e1 e2 => h8 i j hi hj ?_, fun i q s hi hs e _ z => h10 i s hi hs ?_, fun i q hi e => ?_⟩
  · rw [Option.some.inj e1, Option.some.inj e2]
  · rw [Option.some.inj e]; exact z.symm
  · rw [← Option.some.inj e]; exact h11 i hi
theorem setA_away {S : SCN} (hD : DI S) {p q : Nat} (hp : p < cN S) (e : cAt S p = some q) : onS (setA S p none) q = 0 := by
  refine onS_free (fun k hk z => ?_) (fun s hs hh => ?_) ?_
  · rw [setA_at] at z
    by_cases c : k = p
    · rw [if_pos c] at z; cases z
    · rw [if_neg c] at z
      exact c (hD.1 k p q hk hp z e)
  · exact hD.2.1 p q s hp hs e hh
  · exact hD.2.2 p q hp e
theorem setA_put {S : SCN} {p q : Nat} (hp : p < cN S) (h : onS (setA S p none) q = 0) : onS (setA S p (some q)) q = 10 + p := by
  obtain ⟨h1, -, -⟩ := onS_free2 h
  refine onS_person (S := setA S p (some q)) hp (by rw [setA_at, if_pos rfl]) (fun j hj z => ?_)
  rw [setA_at, if_neg (by omega)] at z
  have := h1 j (show j < cN S by omega)
  rw [setA_at, if_neg (by omega)] at this
  exact this z
theorem setA_DI {S : SCN} (hD : DI S) {p : Nat} {o : Option Nat} (ho : ∀ q, o = some q → onS (setA S p none) q = 0) : DI (setA S p o) := by
  have hf : ∀ q, o = some q → (∀ k, k < cN S → k ≠ p → cAt S k ≠ some q) ∧ (∀ s, s < cS S → cHd S s = false → cSh S s 1 ≠ q) ∧ cWa S q = false := fun q e => by
    obtain ⟨h1, h2, h3⟩ := onS_free2 (ho q e)
    refine ⟨fun k hk hne z => h1 k hk ?_, h2, h3⟩
    rw [setA_at, if_neg hne]; exact z
  refine ⟨fun i j q hi hj e1 e2 => ?_, fun i q s hi hs e hh => ?_, fun i q hi e => ?_⟩
  · rw [setA_at] at e1 e2
    by_cases c1 : i = p
    · by_cases c2 : j = p
      · rw [c1, c2]
      · rw [if_pos c1] at e1
        rw [if_neg c2] at e2
        exact absurd e2 ((hf q e1).1 j hj c2)
    · rw [if_neg c1] at e1
      by_cases c2 : j = p
      · rw [if_pos c2] at e2
        exact absurd e1 ((hf q e2).1 i hi c1)
      · rw [if_neg c2] at e2
        exact hD.1 i j q hi hj e1 e2
  · rw [setA_at] at e
    by_cases c1 : i = p
    · rw [if_pos c1] at e
      exact (hf q e).2.1 s hs hh
    · rw [if_neg c1] at e
      exact hD.2.1 i q s hi hs e hh
  · rw [setA_at] at e
    by_cases c1 : i = p
    · rw [if_pos c1] at e
      exact (hf q e).2.2
    · rw [if_neg c1] at e
      exact hD.2.2 i q hi e
/-- a person is taken away on the board -/
theorem lay_away {M : MM} {S : SCN} {K : Nat → Bool} (h : BS M S K) (hD : DI S) {p q : Nat} (hp : p < cN S) (e : cAt S p = some q) : ∃ M2, fX0_lay M (nI (sqC (cW S) q)) 0 = some M2 ∧ Fr [69, 74, 75, 76] M M2 ∧ BS M2 (setA S p none) K :=
  lay_spec h (setA_SE S p none) (setA_SW h.1.1 (fun q z => by cases z)) (h.1.1.2.2.2.2.1 p q hp e) (fun x _ hx => setA_on_ne (fun z => hx (Option.some.inj (z.symm.trans e))) (fun z => by cases z)) (by rw [setA_away hD hp e]; rfl)
/-- a person who is away is put on a free square -/
theorem lay_put {M : MM} {S : SCN} {K : Nat → Bool} (h : BS M S K) {p q : Nat} (hp : p < cN S) (hn : cAt S p = none) (hq : inP (cW S) (cH S) q) (h0 : onS S q = 0) : ∃ M2, fX0_lay M (nI (sqC (cW S) q)) (nI (10 + p)) = some M2 ∧ Fr [69, 74, 75, 76] M M2 ∧ BS M2 (setA S p (some q)) K :=
  lay_spec h (setA_SE S p (some q)) (setA_SW h.1.1 (fun q2 z => by cases z; exact hq)) hq (fun x _ hx => setA_on_ne (fun z => by rw [hn] at z; cases z) (fun z => hx (Option.some.inj z).symm)) (by rw [setA_put hp (by rw [setA_id hn]; exact h0)])
/-! the same in the reference's arrays -/
theorem MS_setA {M : MM} {o : Nat} {P : PARD} {S : SCN} (h : MS M o P S) {p : Nat} {c : Option Nat} (hc : ∀ q, c = some q → inP (cW S) (cH S) q) : MS (sI M 94 p (opI c)) o P (setA S p c) := by
  obtain ⟨h1, h2, h3, h4, h5, h6, h7, h8, h9, h10, h11, h12, h12b, bo, h13, h14⟩ := h
  have g : ∀ d k, d ≠ 94 → gI (sI M 94 p (opI c)) d k = gI M d k := fun d k hd => gI_ne _ _ _ _ _ _ hd
  refine ⟨by rw [g 90 _ (by decide)]; exact h1, MP_congr h3 h2 (fun i _ => g 91 _ (by decide)), h3, h4, setA_SW h5 hc, h6, h7, by rw [g 90 _ (by decide)]; exact h8, by rw [g 90 _ (by decide)]; exact h9, fun k hk => ⟨?_, ?_⟩, fun k hk j hj => ?_, fun k hk => ?_, h12b, bo, by rw [g 90 _ (by decide)]; exact h13, h14⟩
  · rw [setA_at]
    by_cases e : k = p
    · rw [e, gI_eq, if_pos rfl]
    · rw [gI_nk _ _ _ _ _ _ e, if_neg e]; exact (h10 k hk).1
  · rw [g 95 _ (by decide)]; exact (h10 k hk).2
  · rw [g (96 + j) _ (by omega)]; exact h11 k hk j hj
  · rw [g 101 _ (by decide)]; exact h12 k hk
theorem MS_setF {M : MM} {o : Nat} {P : PARD} {S : SCN} (h : MS M o P S) {s f : Nat} (hf : f < 8) : MS (sI M 98 s (nI f)) o P (setF S s f) := by
  obtain ⟨h1, h2, h3, h4, h5, h6, h7, h8, h9, h10, h11, h12, h12b, bo, h13, h14⟩ := h
  have g : ∀ d k, d ≠ 98 → gI (sI M 98 s (nI f)) d k = gI M d k := fun d k hd => gI_ne _ _ _ _ _ _ hd
  refine ⟨by rw [g 90 _ (by decide)]; exact h1, MP_congr h3 h2 (fun i _ => g 91 _ (by decide)), h3, h4, setF_SW h5 hf, h6, h7, by rw [g 90 _ (by decide)]; exact h8, by rw [g 90 _ (by decide)]; exact h9, fun k hk => ⟨?_, ?_⟩, fun k hk j hj => ?_, fun k hk => ?_, h12b, bo, by rw [g 90 _ (by decide)]; exact h13, h14⟩
  · rw [g 94 _ (by decide)]; exact (h10 k hk).1
  · rw [g 95 _ (by decide)]; exact (h10 k hk).2
  · rw [setF_sh]
    by_cases e : k = s ∧ j = 2
    · rw [if_pos e, e.1, e.2, gI_eq]
    · rw [if_neg e, gI_sI, if_neg (by omega)]; exact h11 k hk j hj
  · rw [g 101 _ (by decide)]; exact h12 k hk
theorem MS_setT {M : MM} {o : Nat} {P : PARD} {S : SCN} (h : MS M o P S) {s : Nat} {b : Bool} : MS (sI M 101 s (bI b)) o P (setT S s b) := by
  obtain ⟨h1, h2, h3, h4, h5, h6, h7, h8, h9, h10, h11, h12, h12b, bo, h13, h14⟩ := h
  have g : ∀ d k, d ≠ 101 → gI (sI M 101 s (bI b)) d k = gI M d k := fun d k hd => gI_ne _ _ _ _ _ _ hd
  refine ⟨by rw [g 90 _ (by decide)]; exact h1, MP_congr h3 h2 (fun i _ => g 91 _ (by decide)), h3, h4, h5, h6, h7, by rw [g 90 _ (by decide)]; exact h8, by rw [g 90 _ (by decide)]; exact h9, fun k hk => ⟨?_, ?_⟩, fun k hk j hj => ?_, fun k hk => ?_, h12b, bo, by rw [g 90 _ (by decide)]; exact h13, h14⟩
  · rw [g 94 _ (by decide)]; exact (h10 k hk).1
  · rw [g 95 _ (by decide)]; exact (h10 k hk).2
  · rw [g (96 + j) _ (by omega)]; exact h11 k hk j hj
  · rw [setT_st]
    by_cases e : k = s
    · rw [e, gI_eq, if_pos rfl]; rfl
    · rw [gI_nk _ _ _ _ _ _ e, if_neg e]; exact h12 k hk
