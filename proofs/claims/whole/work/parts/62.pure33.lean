/-! ===== walking ===== -/
/-- steps by place, the row of places, how many -/
abbrev BFS : Type := (Nat → Option Nat) × (Nat → Nat) × Nat
def updF {α : Type} (f : Nat → α) (k : Nat) (v : α) : Nat → α := fun i => if i = k then v else f i
theorem updF_eq {α : Type} (f : Nat → α) (k : Nat) (v : α) : updF f k v k = v := if_pos rfl
theorem updF_ne {α : Type} (f : Nat → α) {k i : Nat} (v : α) (h : i ≠ k) : updF f k v i = f i := if_neg h
def bfD (P : PARD) (B : BFS) (k d : Nat) : BFS := match stepP (pW P) (pH P) (B.2.1 k) d with
  | none => B
  | some c => if pWa P c = true ∨ (B.1 c).isSome = true then B else (updF B.1 c (some ((B.1 (B.2.1 k)).getD 0 + 1)), updF B.2.1 B.2.2 c, B.2.2 + 1)
def bfK (P : PARD) (B : BFS) (k : Nat) : BFS := if k < B.2.2 then bfD P (bfD P (bfD P (bfD P B k 0) k 2) k 4) k 6 else B
def bfN (P : PARD) (B : BFS) : Nat → BFS
  | 0 => B
  | k + 1 => bfK P (bfN P B k) k
theorem bfN_stop {P : PARD} {B : BFS} {k : Nat} (h : (bfN P B k).2.2 ≤ k) : ∀ m, k ≤ m → bfN P B m = bfN P B k := by
  intro m
  induction m with
  | zero => intro hm; rw [show k = 0 by omega]
  | succ m ih =>
    intro hm
    rcases Nat.lt_or_ge m k with c | c
    · rw [show k = m + 1 by omega]
    · have e := ih c
      rw [bfN, e]
      unfold bfK
      rw [if_neg (by omega)]
/-- what holds of it -/
def BI (P : PARD) (B : BFS) : Prop := (∀ j, j < B.2.2 → inP (pW P) (pH P) (B.2.1 j) ∧ ∃ v, v ≤ j ∧ B.1 (B.2.1 j) = some v) ∧ (∀ c v, B.1 c = some v → ∃ j, j < B.2.2 ∧ c = B.2.1 j) ∧ B.2.2 = cntN (fun q => (B.1 q).isSome) 64
theorem BI_64 {P : PARD} {B : BFS} (h : BI P B) : B.2.2 ≤ 64 := by rw [h.2.2]; exact cntN_le _ _
theorem BI_val {P : PARD} {B : BFS} (h : BI P B) {c v : Nat} (e : B.1 c = some v) : v ≤ 63 ∧ inP (pW P) (pH P) c := by
  obtain ⟨j, hj, rfl⟩ := h.2.1 c v e
  obtain ⟨h1, w, h2, h3⟩ := h.1 j hj
  rw [e] at h3
  cases h3
  have := BI_64 h
  exact ⟨by omega, h1⟩
theorem BI_lt {P : PARD} {B : BFS} (h : BI P B) {c : Nat} (hc : c < 64) (e : (B.1 c).isSome = false) : B.2.2 < 64 := by
  rw [h.2.2]
  have h1 := cntN_strict (a := fun q => (B.1 q).isSome) (b := fun _ => true) (n := 64) (s := c) (fun _ _ _ => rfl) hc rfl e
  have h2 : cntN (fun _ => true) 64 = 64 := by decide
  omega
theorem cnt_upd {f : Nat → Option Nat} {c v : Nat} (e : (f c).isSome = false) : ∀ n, cntN (fun q => (updF f c (some v) q).isSome) n = cntN (fun q => (f q).isSome) n + if c < n then 1 else 0
  | 0 => rfl
  | n + 1 => by
    rw [cntN, cntN, cnt_upd e n]
    by_cases h : n = c
    · subst h
      rw [updF_eq, if_neg (Nat.lt_irrefl n), if_pos (show n < n + 1 by omega)]
      rw [e]
      rfl
    · rw [updF_ne _ _ h]
      by_cases k : c < n
      · rw [if_pos k, if_pos (show c < n + 1 by omega)]; omega
      · rw [if_neg k, if_neg (show ¬ c < n + 1 by omega)]; omega
theorem bfD_new {P : PARD} {B : BFS} (hw8 : pH P ≤ 8) (h : BI P B) {k c : Nat} (hk : k < B.2.2) (hc : inP (pW P) (pH P) c) (e : (B.1 c).isSome = false) : BI P (updF B.1 c (some ((B.1 (B.2.1 k)).getD 0 + 1)), updF B.2.1 B.2.2 c, B.2.2 + 1) := by
  have hc64 := inP_64 hw8 hc
  have hne : ∀ j, j < B.2.2 → B.2.1 j ≠ c := fun j hj z => by
    obtain ⟨-, v, -, h2⟩ := h.1 j hj
    rw [z] at h2
    rw [h2] at e
    cases e
  refine ⟨fun j hj => ?_, fun x v hx => ?_, ?_⟩
  · have hj : j < B.2.2 + 1 := hj
    show inP (pW P) (pH P) (updF B.2.1 B.2.2 c j) ∧ ∃ v, v ≤ j ∧ updF B.1 c _ (updF B.2.1 B.2.2 c j) = some v
    by_cases z : j = B.2.2
    · rw [z, updF_eq, updF_eq]
      obtain ⟨-, v, h1, h2⟩ := h.1 k hk
      rw [h2]
      exact ⟨hc, v + 1, by omega, rfl⟩
    · rw [updF_ne _ _ z, updF_ne _ _ (hne j (by omega))]
      exact h.1 j (by omega)
  · have hx : updF B.1 c (some ((B.1 (B.2.1 k)).getD 0 + 1)) x = some v := hx
    by_cases z : x = c
    · exact ⟨B.2.2, by show B.2.2 < B.2.2 + 1; omega, by rw [z]; exact (updF_eq _ _ _).symm⟩
    · rw [updF_ne _ _ z] at hx
      obtain ⟨j, h1, h2⟩ := h.2.1 x v hx
      exact ⟨j, by show j < B.2.2 + 1; omega, by rw [h2]; exact (updF_ne _ _ (by omega)).symm⟩
  · show B.2.2 + 1 = cntN (fun q => (updF B.1 c _ q).isSome) 64
    rw [cnt_upd e 64, if_pos hc64, ← h.2.2]
theorem bfD_BI {P : PARD} (hP : PW P) {B : BFS} (h : BI P B) {k d : Nat} (hk : k < B.2.2) : BI P (bfD P B k d) ∧ k < (bfD P B k d).2.2 ∧ (bfD P B k d).2.1 k = B.2.1 k := by
  unfold bfD
  cases hs : stepP (pW P) (pH P) (B.2.1 k) d with
  | none => exact ⟨h, hk, rfl⟩
  | some c =>
    simp only []
    have hc := (stepP_in hP.1.2 hP.2.1.2 hs).1
    by_cases z : pWa P c = true ∨ (B.1 c).isSome = true
    · rw [if_pos z]; exact ⟨h, hk, rfl⟩
    · rw [if_neg z]
      refine ⟨bfD_new hP.2.1.2 h hk hc ?_, by show k < B.2.2 + 1; omega, updF_ne _ _ (by omega)⟩
      cases q : (B.1 c).isSome with
      | false => rfl
      | true => exact absurd (Or.inr q) z
theorem bfK_BI {P : PARD} (hP : PW P) {B : BFS} (h : BI P B) (k : Nat) : BI P (bfK P B k) := by
  unfold bfK
  split
  · rename_i hk
    obtain ⟨a1, a2, -⟩ := bfD_BI hP h (d := 0) hk
    obtain ⟨b1, b2, -⟩ := bfD_BI hP a1 (d := 2) a2
    obtain ⟨c1, c2, -⟩ := bfD_BI hP b1 (d := 4) b2
    exact (bfD_BI hP c1 (d := 6) c2).1
  · exact h
theorem bfN_BI {P : PARD} (hP : PW P) {B : BFS} (h : BI P B) : ∀ k, BI P (bfN P B k)
  | 0 => h
  | k + 1 => bfK_BI hP (bfN_BI hP h k) k
def bf0 (q : Nat) : BFS := (fun c => if c = q then some 0 else none, fun _ => q, 1)
theorem bf0_BI {P : PARD} (hP : PW P) {q : Nat} (hq : inP (pW P) (pH P) q) : BI P (bf0 q) := by
  refine ⟨fun j _ => ⟨hq, 0, Nat.zero_le _, if_pos rfl⟩, fun c v e => ⟨0, by show 0 < 1; decide, ?_⟩, ?_⟩
  · have e : (if c = q then some 0 else none) = some v := e
    by_cases z : c = q
    · exact z
    · rw [if_neg z] at e; cases e
  · show 1 = cntN (fun c => ((if c = q then some 0 else none : Option Nat)).isSome) 64
    have h1 := cnt_upd (f := fun _ => none) (c := q) (v := 0) rfl 64
    rw [if_pos (inP_64 hP.2.1.2 hq)] at h1
    have h2 : cntN (fun q => ((fun _ => none : Nat → Option Nat) q).isSome) 64 = 0 := cntN_tail (n := 0) (by omega) (fun _ _ _ => rfl)
    rw [h2] at h1
    exact h1.symm
/-- the steps from a place -/
def wlk (P : PARD) (q : Nat) : Nat → Option Nat := (bfN P (bf0 q) 64).1
/-! the class -/
def FC (P : PARD) (M : MM) (B : BFS) : Prop := (∀ q, inP (pW P) (pH P) q → gI M 84 (sqC (pW P) q) = opI (B.1 q)) ∧ ∀ j, j < B.2.2 → gI M 85 j = nI (sqC (pW P) (B.2.1 j))
theorem wall_on {P : PARD} (hP : PW P) {q : Nat} : onS (scnOf P) q = 1 ↔ pWa P q = true := by
  obtain ⟨-, -, -, -, -, -, -, -, -, -, h11, h12⟩ := id hP
  have hn8 := hP.2.2.1
  constructor
  · intro h
    unfold onS at h
    cases h1 : fstN (fun k => cAt (scnOf P) k == some q) (cN (scnOf P)) with
    | some k => rw [h1] at h; simp only [] at h; omega
    | none =>
      rw [h1] at h
      simp only [] at h
      cases h2 : fstN (fun k => cSh (scnOf P) k 1 == q && !cHd (scnOf P) k) (cS (scnOf P)) with
      | some k => rw [h2] at h; simp only [] at h; omega
      | none =>
        rw [h2] at h
        simp only [] at h
        cases z : pWa P q with
        | true => rfl
        | false =>
          have : cWa (scnOf P) q = false := z
          rw [this] at h
          simp at h
  · intro h
    unfold onS
    rw [fstN_none (fun k hk => ?_), fstN_none (fun s hs => ?_)]
    · show (if pWa P q = true then 1 else 0) = 1
      rw [if_pos h]
    · have : pSh P s 1 ≠ q := fun z => by have := h12 s hs; rw [z, h] at this; cases this
      show (pSh P s 1 == q && !false) = false
      simp [this]
    · have : pAt P k ≠ q := fun z => by have := h11 k hk; rw [z, h] at this; cases this
      show (some (pAt P k) == some q) = false
      simp [this]
theorem flood_d {M : MM} {P : PARD} (hP : PW P) (hB : BB M (scnOf P)) {B : BFS} (hI : BI P B) (hF : FC P M B) {k d : Nat} (hk : k < B.2.2) (hd : d < 8) : ∃ M2, Fr [84, 85] M M2 ∧ FC P M2 (bfD P B k d) ∧ ∀ (kk : MM → Int32 → Int32 → Option MM) f, fX10_flood_l48 kk (f + 1) M (nI B.2.2) (nI k) (nI (sqC (pW P) (B.2.1 k))) (nI d) = fX10_flood_l48 kk f M2 (nI (bfD P B k d).2.2) (nI k) (nI (sqC (pW P) (B.2.1 k))) (nI (d + 2)) := by
  have hw8 := hP.1.2
  have hh8 := hP.2.1.2
  obtain ⟨hin, v, hv, ev⟩ := hI.1 k hk
  have hl := sqC_lt hw8 hh8 hin
  have h64 := BI_64 hI
  have estep : fX0_stepFrom M (nI (sqC (pW P) (B.2.1 k))) (nI d) = some (cqI (pW P) (stepP (pW P) (pH P) (B.2.1 k) d)) := stepF hB hin hd
  have e2 : nI d + 2 = nI (d + 2) := by rw [nl2, nI_add]
  unfold bfD
  cases hs : stepP (pW P) (pH P) (B.2.1 k) d with
  | none =>
    refine ⟨M, Fr.rfl, hF, fun kk f => ?_⟩
    simp only []
    rw [fX10_flood_l48.eq_2, nl8, le_f hd (by decide), estep, hs, bd_s, if_pos (show cqI (pW P) none = -1 from rfl), e2]
  | some c =>
    simp only []
    have hc := (stepP_in hw8 hh8 hs).1
    have hlc := sqC_lt hw8 hh8 hc
    have e84 := hF.1 c hc
    have e69 : gI M 69 (sqC (pW P) c) = nI (onS (scnOf P) c) := hB.2.2.2.2.2.2.2.2.2 c hc
    have ho : onS (scnOf P) c < 28 := onS_lt hB.1 c
    have head : ∀ (kk : MM → Int32 → Int32 → Option MM) f, fX10_flood_l48 kk (f + 1) M (nI B.2.2) (nI k) (nI (sqC (pW P) (B.2.1 k))) (nI d) = (if opI (B.1 c) = -1 then (if nI (onS (scnOf P) c) = 1 then fX10_flood_l48 kk f M (nI B.2.2) (nI k) (nI (sqC (pW P) (B.2.1 k))) (nI (d + 2)) else (if nI B.2.2 < 64 then gd (inb (nI (sqC (pW P) (B.2.1 k))) 64) (gd (inb (nI (sqC (pW P) c)) 64) (bnd (sI M 84 (sqC (pW P) c) ((gI M 84 (ix (nI (sqC (pW P) (B.2.1 k))))) + 1)) (fun M35 => gd (inb (nI B.2.2) 64) (bnd (sI M35 85 (ix (nI B.2.2)) (nI (sqC (pW P) c))) (fun M38 => fX10_flood_l48 kk f M38 (nI B.2.2 + 1) (nI k) (nI (sqC (pW P) (B.2.1 k))) (nI (d + 2))))))) else fX10_flood_l48 kk f M (nI B.2.2) (nI k) (nI (sqC (pW P) (B.2.1 k))) (nI (d + 2)))) else fX10_flood_l48 kk f M (nI B.2.2) (nI k) (nI (sqC (pW P) (B.2.1 k))) (nI (d + 2))) := fun kk f => by
      rw [fX10_flood_l48.eq_2, nl8, le_f hd (by decide), estep, hs, bd_s, show cqI (pW P) (some c) = nI (sqC (pW P) c) from rfl, m1_iff (by omega), gd_inb hlc (by decide), ix_nI (by omega), e84, gd_inb hlc (by decide), e69, e2]
    cases hst : B.1 c with
    | some w =>
      have := (BI_val hI hst).1
      refine ⟨M, Fr.rfl, ?_, fun kk f => ?_⟩
      · rw [if_pos (show pWa P c = true ∨ (some w).isSome = true from Or.inr rfl)]; exact hF
      · rw [if_pos (show pWa P c = true ∨ (some w).isSome = true from Or.inr rfl), head kk f, hst, show opI (some w) = nI w from rfl, m1_iff (by omega)]
    | none =>
      have hsome : (none : Option Nat).isSome = false := rfl
      by_cases hw : pWa P c = true
      · refine ⟨M, Fr.rfl, ?_, fun kk f => ?_⟩
        · rw [if_pos (Or.inl hw)]; exact hF
        · rw [if_pos (Or.inl hw), head kk f, hst, if_pos (show opI none = -1 from rfl), (wall_on hP).mpr hw, if_pos (show nI 1 = 1 from rfl)]
      · have hno : ¬ (pWa P c = true ∨ (none : Option Nat).isSome = true) := fun z => by
          rcases z with z | z
          · exact hw z
          · cases z
        have hlt : B.2.2 < 64 := BI_lt hI (inP_64 hh8 hc) (by rw [hst]; rfl)
        have hon : ¬ onS (scnOf P) c = 1 := fun z => hw ((wall_on hP).mp z)
        have e84k : gI M 84 (sqC (pW P) (B.2.1 k)) = nI v := by rw [hF.1 _ hin, ev]; rfl
        rw [if_neg hno]
        refine ⟨sI (sI M 84 (sqC (pW P) c) (nI (v + 1))) 85 B.2.2 (nI (sqC (pW P) c)), (Fr.rfl.pI (by decide)).pI (by decide), ⟨fun q hq => ?_, fun j hj => ?_⟩, fun kk f => ?_⟩
        · show gI (sI (sI M 84 _ _) 85 _ _) 84 _ = opI (updF B.1 c _ q)
          rw [gI_ne _ _ _ _ _ _ (by decide)]
          by_cases z : q = c
          · rw [z, gI_eq, updF_eq, ev]; rfl
          · rw [gI_nk _ _ _ _ _ _ (fun y => z (sqC_inj hq hc y)), updF_ne _ _ z]; exact hF.1 q hq
        · have hj : j < B.2.2 + 1 := hj
          show gI (sI (sI M 84 _ _) 85 _ _) 85 j = nI (sqC (pW P) (updF B.2.1 B.2.2 c j))
          by_cases z : j = B.2.2
          · rw [z, gI_eq, updF_eq]
          · rw [gI_nk _ _ _ _ _ _ z, gI_ne _ _ _ _ _ _ (by decide), updF_ne _ _ z]; exact hF.2 j (by omega)
        · rw [head kk f, hst, if_pos (show opI none = -1 from rfl), nl1, eqn_f hon (by omega) (by decide), nl64, lt_t hlt (by decide), gd_inb hl (by decide), gd_inb hlc (by decide), ix_nI (by omega), bnd_r, gd_inb hlt (by decide), ix_nI (by omega), bnd_r, e84k, nI_add, nI_add]
theorem flood_k {M : MM} {P : PARD} (hP : PW P) (hB : BS M (scnOf P) aT) {B : BFS} (hI : BI P B) (hF : FC P M B) {k : Nat} (hk : k < B.2.2) : ∃ M2, Fr [84, 85] M M2 ∧ FC P M2 (bfK P B k) ∧ ∀ kk : MM → Int32 → Int32 → Option MM, fX10_flood_l48 kk FU M (nI B.2.2) (nI k) (nI (sqC (pW P) (B.2.1 k))) (nI 0) = kk M2 (nI (bfK P B k).2.2) (nI k) := by
  obtain ⟨i1, k1, q1⟩ := bfD_BI hP hI (d := 0) hk
  obtain ⟨i2, k2, q2⟩ := bfD_BI hP i1 (d := 2) k1
  obtain ⟨i3, k3, q3⟩ := bfD_BI hP i2 (d := 4) k2
  obtain ⟨i4, k4, q4⟩ := bfD_BI hP i3 (d := 6) k3
  obtain ⟨M1, a1, a2, a3⟩ := flood_d hP hB.1 hI hF (d := 0) hk (by decide)
  obtain ⟨M2, b1, b2, b3⟩ := flood_d hP (BB_fr hB.1 a1 (by decide)) i1 a2 (d := 2) k1 (by decide)
  obtain ⟨M3, c1, c2, c3⟩ := flood_d hP (BB_fr (BB_fr hB.1 a1 (by decide)) b1 (by decide)) i2 b2 (d := 4) k2 (by decide)
  obtain ⟨M4, d1, d2, d3⟩ := flood_d hP (BB_fr (BB_fr (BB_fr hB.1 a1 (by decide)) b1 (by decide)) c1 (by decide)) i3 c2 (d := 6) k3 (by decide)
  have ek : bfK P B k = bfD P (bfD P (bfD P (bfD P B k 0) k 2) k 4) k 6 := by unfold bfK; rw [if_pos hk]
  rw [ek]
  refine ⟨M4, ((a1.trans b1).trans c1).trans d1, d2, fun kk => ?_⟩
  show fX10_flood_l48 kk (4995 + 1 + 1 + 1 + 1 + 1) M (nI B.2.2) (nI k) (nI (sqC (pW P) (B.2.1 k))) (nI 0) = _
  rw [a3]
  rw [q1] at b3
  rw [b3]
  rw [q2, q1] at c3
  rw [c3]
  rw [q3, q2, q1] at d3
  rw [d3, fX10_flood_l48.eq_2, if_pos (by decide)]
theorem flood_spec {M : MM} {P : PARD} (hP : PW P) (hB : BS M (scnOf P) aT) {q : Nat} (hq : inP (pW P) (pH P) q) : ∃ M2, fX10_flood M (nI (sqC (pW P) q)) = some M2 ∧ Fr [84, 85] M M2 ∧ ∀ c, inP (pW P) (pH P) c → gI M2 84 (sqC (pW P) c) = opI (wlk P q c) := by
  have hw8 := hP.1.2
  have hh8 := hP.2.1.2
  have hl := sqC_lt hw8 hh8 hq
  obtain ⟨M1, a1, a2, a3, -⟩ := fill_spec (M := M) (a := 84) (n := 64) (v := -1) (by decide)
  have f2 : Fr [84, 85] M (sI (sI M1 84 (sqC (pW P) q) 0) 85 0 (nI (sqC (pW P) q))) := ((a2.mono (by decide)).pI (by decide)).pI (by decide)
  have hF0 : FC P (sI (sI M1 84 (sqC (pW P) q) 0) 85 0 (nI (sqC (pW P) q))) (bf0 q) := by
    refine ⟨fun c hc => ?_, fun j hj => ?_⟩
    · show _ = opI (if c = q then some 0 else none)
      rw [gI_ne _ _ _ _ _ _ (by decide)]
      by_cases z : c = q
      · rw [z, gI_eq, if_pos rfl]; rfl
      · rw [gI_nk _ _ _ _ _ _ (fun y => z (sqC_inj hc hq y)), if_neg z, a3 _ (sqC_lt hw8 hh8 hc)]; rfl
    · have hj : j < 1 := hj
      rw [show j = 0 by omega, gI_eq]
      rfl
  obtain ⟨N, hN⟩ : ∃ N : Nat, N = 64 := ⟨64, rfl⟩
  have key := lpk (κ := Unit) (σ := MM × Nat) (fun _ f st => fX10_flood_l26 f st.1 (nI (bfN P (bf0 q) st.2).2.2) (nI st.2)) (fun _ M2 => some M2) N
    (fun k st => k = st.2 ∧ Fr [84, 85] M st.1 ∧ FC P st.1 (bfN P (bf0 q) k)) (fun M2 => Fr [84, 85] M M2 ∧ FC P M2 (bfN P (bf0 q) N)) ?_ ?_ FU 0 (sI (sI M1 84 (sqC (pW P) q) 0) 85 0 (nI (sqC (pW P) q)), 0) (by omega) (by show _ < 5000; omega) ⟨rfl, f2, hF0⟩
  · obtain ⟨M2, ⟨h1, h2⟩, h3⟩ := key
    subst hN
    refine ⟨M2, ?_, h1, h2.1⟩
    unfold fX10_flood
    rw [a1, bd_s, gd_inb hl (by decide), ix_nI (by omega), bnd_r, bnd_r]
    exact h3 ()
  · rintro k ⟨M2, k2⟩ hk ⟨rfl, hF, b1⟩
    simp only [] at hF b1
    have hI := bfN_BI hP (bf0_BI hP hq) k
    have h64 := BI_64 hI
    rcases Nat.lt_or_ge k (bfN P (bf0 q) k).2.2 with c | c
    · obtain ⟨M3, d1, d2, d3⟩ := flood_k hP (BS_fr hB hF (by decide)) hI b1 c
      refine Or.inl ⟨(M3, k + 1), ⟨rfl, hF.trans d1, d2⟩, fun _ f => ?_⟩
      show fX10_flood_l26 (f + 1) M2 (nI (bfN P (bf0 q) k).2.2) (nI k) = fX10_flood_l26 f M3 (nI (bfK P (bfN P (bf0 q) k) k).2.2) (nI (k + 1))
      rw [fX10_flood_l26.eq_2, le_f c (by omega), nl64, le_f (show k < 64 by omega) (by decide), gd_inb (show k < 64 by omega) (by decide), ix_nI (by omega), bnd_r, b1.2 k c, nl0, d3, nI_1]
    · refine Or.inr ⟨M2, ⟨hF, by rw [bfN_stop c N (by omega)]; exact b1⟩, fun _ f => ?_⟩
      show fX10_flood_l26 (f + 1) M2 (nI (bfN P (bf0 q) k).2.2) (nI k) = _
      rw [fX10_flood_l26.eq_2, le_t c (by omega)]
  · rintro ⟨M2, k2⟩ ⟨rfl, hF, b1⟩
    have h64 := BI_64 (bfN_BI hP (bf0_BI hP hq) N)
    refine ⟨M2, ⟨hF, b1⟩, fun _ f => ?_⟩
    show fX10_flood_l26 (f + 1) M2 (nI (bfN P (bf0 q) N).2.2) (nI N) = _
    rw [fX10_flood_l26.eq_2, le_t (by omega) (by omega)]
