/-! ===== the best of several ===== -/
/-- where and how much; nothing yet -/
abbrev BST : Type := Option (Nat × Nat)
def bV (b : BST) : Nat := match b with
  | none => 0
  | some x => x.2
def bW (b : BST) : Int32 := match b with
  | none => -1
  | some x => nI x.1
def offB (fw : Bool) (b : BST) (v w : Nat) : BST := match b with
  | none => some (w, v)
  | some x => if (if fw then decide (v < x.2) else decide (x.2 < v)) = true then some (w, v) else some x
/-- the best of the first n candidates -/
def foldB (fw : Bool) (cand : Nat → Option Nat) : Nat → BST
  | 0 => none
  | n + 1 => match cand n with
    | none => foldB fw cand n
    | some v => offB fw (foldB fw cand n) v n
theorem foldB_none {fw : Bool} {cand : Nat → Option Nat} {n : Nat} (h : cand n = none) : foldB fw cand (n + 1) = foldB fw cand n := by rw [foldB, h]
theorem foldB_some {fw : Bool} {cand : Nat → Option Nat} {n v : Nat} (h : cand n = some v) : foldB fw cand (n + 1) = offB fw (foldB fw cand n) v n := by rw [foldB, h]
theorem foldB_skip {fw : Bool} {cand : Nat → Option Nat} {n : Nat} : ∀ m, n ≤ m → (∀ k, n ≤ k → k < m → cand k = none) → foldB fw cand m = foldB fw cand n := by
  intro m
  induction m with
  | zero => intro h _; rw [show n = 0 by omega]
  | succ m ih =>
    intro h hc
    rcases Nat.lt_or_ge m n with c | c
    · rw [show n = m + 1 by omega]
    · rw [foldB_none (hc m c (by omega)), ih c (fun k h1 h2 => hc k h1 (by omega))]
theorem foldB_lt {fw : Bool} {cand : Nat → Option Nat} {B : Nat} (hB : ∀ k v, cand k = some v → v ≤ B) : ∀ n x, foldB fw cand n = some x → x.1 < n ∧ x.2 ≤ B
  | 0, x, h => by cases h
  | n + 1, x, h => by
    have ih := foldB_lt (fw := fw) hB n
    cases hc : cand n with
    | none =>
      rw [foldB_none hc] at h
      have := ih x h
      omega
    | some v =>
      rw [foldB_some hc] at h
      have hv := hB n v hc
      cases hf : foldB fw cand n with
      | none =>
        rw [hf] at h
        cases h
        exact ⟨by show n < n + 1; omega, hv⟩
      | some y =>
        rw [hf] at h
        have hy := ih y hf
        unfold offB at h
        simp only [] at h
        by_cases c : (if fw then decide (v < y.2) else decide (y.2 < v)) = true
        · rw [if_pos c] at h
          cases h
          exact ⟨by show n < n + 1; omega, hv⟩
        · rw [if_neg c] at h
          cases h
          omega
/-- the class's choice -/
def BO (M : MM) (b : BST) : Prop := gI M 81 0 = nI (bV b) ∧ gI M 81 1 = bW b ∧ ∀ x, b = some x → x.1 < 5000 ∧ x.2 < 5000
theorem BO_fr {M M2 : MM} {b : BST} {P : List Nat} (h : BO M b) (hF : Fr P M M2) (hP : 81 ∉ P) : BO M2 b := ⟨by rw [hF.gi hP]; exact h.1, by rw [hF.gi hP]; exact h.2.1, h.2.2⟩
theorem choice_beg {M : MM} : ∃ M2, fX1_begin M = some M2 ∧ Fr [81] M M2 ∧ BO M2 none := ⟨sI (sI M 81 0 0) 81 1 (-1), rfl, (Fr.rfl.pI (by decide)).pI (by decide), by rw [gI_nk _ _ _ _ _ _ (by decide), gI_eq]; rfl, gI_eq _ _ _ _, fun x h => by cases h⟩
theorem offer_spec {M : MM} {b : BST} (h : BO M b) {fw : Bool} {v w : Nat} (hv : v < 5000) (hw : w < 5000) : ∃ M2, fX1_offer M (nI v) (nI w) (bI fw) = some M2 ∧ Fr [81] M M2 ∧ BO M2 (offB fw b v w) := by
  obtain ⟨h1, h2, h3⟩ := id h
  have take : ∃ M2, fX1_offer_j49 M (nI v) (nI w) = some M2 ∧ Fr [81] M M2 ∧ BO M2 (some (w, v)) := ⟨sI (sI M 81 0 (nI v)) 81 1 (nI w), rfl, (Fr.rfl.pI (by decide)).pI (by decide), by rw [gI_nk _ _ _ _ _ _ (by decide), gI_eq]; rfl, gI_eq _ _ _ _, fun x e => by cases e; exact ⟨hw, hv⟩⟩
  unfold fX1_offer fX1_offer_j33
  rw [h1, h2]
  cases b with
  | none =>
    obtain ⟨M2, t1, t2, t3⟩ := take
    refine ⟨M2, ?_, t2, t3⟩
    rw [if_pos (show bW none = -1 from rfl)]
    cases fw with
    | true =>
      rw [bI_t, if_neg i10]
      split <;> exact t1
    | false =>
      rw [bI_f, if_pos rfl]
      split <;> exact t1
  | some x =>
    obtain ⟨hx1, hx2⟩ := h3 x rfl
    rw [show bW (some x) = nI x.1 from rfl, show bV (some x) = x.2 from rfl, m1_iff (by omega), m1_iff (by omega)]
    unfold offB
    simp only []
    cases fw with
    | true =>
      rw [bI_t, if_neg i10, if_pos rfl]
      by_cases c : v < x.2
      · rw [le_f c (by omega), if_neg i10, if_pos (decide_eq_true c)]
        exact take
      · rw [le_t (by omega) (by omega), if_pos trivial, if_neg (by rw [decide_eq_false c]; decide)]
        exact ⟨M, rfl, Fr.rfl, h⟩
    | false =>
      rw [bI_f, if_pos rfl, if_neg (show ¬ false = true by decide)]
      by_cases c : x.2 < v
      · rw [le_f c (by omega), if_neg i10, if_pos (decide_eq_true c)]
        exact take
      · rw [le_t (by omega) (by omega), if_pos trivial, if_neg (by rw [decide_eq_false c]; decide)]
        exact ⟨M, rfl, Fr.rfl, h⟩
/-! ===== sums that stay ===== -/
theorem near_cong {S S2 : SCN} (e : cS S2 = cS S) (hs : ∀ s, s < cS S → seenN S2 s 8 = seenN S s 8 ∧ lookN S2 s 8 = lookN S s 8) : ∀ k s, s < cS S → nearM S2 k s = nearM S k s
  | 0, s, h => (hs s h).1
  | k + 1, s, h => by
    rw [nearM, nearM, near_cong e hs k s h, e, (hs s h).2]
    congr 1
    exact orN_cong (fun t ht => near_cong e hs k t ht) (fun t _ => rfl)
theorem count_cong {S S2 : SCN} (hE : SE S S2) {c s : Nat} (hn : nearM S2 c s = nearM S c s) (L : Nat → Nat) : countS S2 c L s = countS S c L s := by
  obtain ⟨e1, e2, e3, e4, e5, e6, e7⟩ := hE
  have h1 : headsS S2 c (L 1) s = headsS S c (L 1) s := by
    unfold headsS fstS nearB
    rw [hn, e3, e5]
  unfold countS soupS
  rw [h1, e6]
theorem sumN_cong {f g : Nat → Nat} : ∀ {n : Nat}, (∀ k, k < n → f k = g k) → sumN f n = sumN g n
  | 0, _ => rfl
  | n + 1, h => by rw [sumN, sumN, sumN_cong (fun k hk => h k (by omega)), h n (by omega)]
theorem sum_cong {S S2 : SCN} (hE : SE S S2) (hs : ∀ s, s < cS S → seenN S2 s 8 = seenN S s 8 ∧ lookN S2 s 8 = lookN S s 8) (c : Nat) (L : Nat → Nat) : sumS S2 c L = sumS S c L := by
  unfold sumS
  rw [hE.2.2.2.1]
  exact sumN_cong (fun s h => count_cong hE (near_cong hE.2.2.2.1 hs c s h) L)
theorem sumS_le {S : SCN} (hS : SW S) (c : Nat) (L : Nat → Nat) : sumS S c L ≤ 64 := by
  have h8 := hS.2.2.2.1
  have := sumN_le (f := countS S c L) (b := 8) (n := cS S) (fun k _ => countS_le hS c L k)
  unfold sumS
  omega
def anyN (f : Nat → Bool) : Nat → Bool
  | 0 => false
  | n + 1 => anyN f n || f n
theorem anyN_no {f : Nat → Bool} : ∀ {n : Nat}, anyN f n = false → ∀ k, k < n → f k = false
  | 0, _, k, hk => absurd hk (Nat.not_lt_zero k)
  | n + 1, h, k, hk => by
    rw [anyN, Bool.or_eq_false_iff] at h
    by_cases e : k = n
    · rw [e]; exact h.2
    · exact anyN_no h.1 k (by omega)
theorem anyN_yes {f : Nat → Bool} : ∀ {n k : Nat}, k < n → f k = true → anyN f n = true
  | 0, k, hk, _ => absurd hk (Nat.not_lt_zero k)
  | n + 1, k, hk, h => by
    rw [anyN, Bool.or_eq_true]
    by_cases e : k = n
    · rw [e] at h; exact Or.inr h
    · exact Or.inl (anyN_yes (show k < n by omega) h)
theorem inSight_spec {M : MM} {S : SCN} (h : BS M S aT) {q : Nat} (hq : inP (cW S) (cH S) q) : fX0_isInSight M (nI (sqC (cW S) q)) = some (bI (anyN (fun s => rchN S s 8 q) (cS S))) := by
  have hS := h.1.1
  have h8 := hS.2.2.2.1
  have hl := sqC_lt hS.1.2 hS.2.1.2 hq
  have h3 := h.1.2.2.2.2.2.1
  have key := lpk (κ := Unit) (σ := Nat) (fun _ f st => fX0_isInSight_l2 M f (nI (sqC (cW S) q)) (nI st)) (fun _ (v : Int32) => some v) (cS S)
    (fun s st => s = st ∧ anyN (fun s => rchN S s 8 q) s = false) (fun v => v = bI (anyN (fun s => rchN S s 8 q) (cS S))) ?_ ?_ FU 0 0 (by omega) (by show _ < 5000; omega) ⟨rfl, rfl⟩
  · obtain ⟨v, e, hh⟩ := key
    rw [e] at hh
    exact hh ()
  · rintro s s2 hs ⟨rfl, hn⟩
    obtain ⟨-, -, m, hm, em, hb⟩ := h.2 s hs rfl
    have head : ∀ f, fX0_isInSight_l2 M (f + 1) (nI (sqC (cW S) q)) (nI s) = if rchN S s 8 q then some 1 else fX0_isInSight_l2 M f (nI (sqC (cW S) q)) (nI (s + 1)) := fun f => by
      rw [fX0_isInSight_l2.eq_2, h3, le_f hs (by omega), gd_inb (by omega) (by decide), ix_nI (by omega), em, bit_l0 hm hl, hb q hq, nI_1]
    by_cases c : rchN S s 8 q = true
    · refine Or.inr ⟨1, ?_, fun _ f => by rw [head f, if_pos c]⟩
      rw [anyN_yes hs c, bI_t]
    · refine Or.inl ⟨s + 1, ⟨rfl, ?_⟩, fun _ f => by rw [head f, if_neg c]⟩
      rw [anyN, hn]
      cases z : rchN S s 8 q with
      | true => exact absurd z c
      | false => rfl
  · rintro s2 ⟨rfl, hn⟩
    refine ⟨0, by rw [hn, bI_f], fun _ f => ?_⟩
    rw [fX0_isInSight_l2.eq_2, h3, le_t (Nat.le_refl _) (by omega)]
theorem sumWith_spec {M : MM} {S : SCN} {a p q : Nat} {L : Nat → Nat} (h : BS M S aT) (hD : DI S) (hL : CLw M a L) (hp : p < cN S) (hn : cAt S p = none) (hq : inP (cW S) (cH S) q) (h0 : onS S q = 0) : ∃ M2, fX1_sumWith M (nI p) (nI (sqC (cW S) q)) a (nI (sumS S (L 0) L)) = some (nI (sumS (setA S p (some q)) (L 0) L), M2) ∧ Fr [69, 70, 74, 75, 76, 77] M M2 ∧ BS M2 S aT := by
  have hS := h.1.1
  unfold fX1_sumWith
  rw [inSight_spec h hq, bd_s]
  cases hc : anyN (fun s => rchN S s 8 q) (cS S) with
  | false =>
    have e : sumS (setA S p (some q)) (L 0) L = sumS S (L 0) L := sum_cong (setA_SE S p (some q)) (fun s hs => by
      obtain ⟨k1, k2, -⟩ := look_keep hS (setA_SE S p (some q)) hs (fun x _ hx => setA_on_ne (fun z => by rw [hn] at z; cases z) (fun z => hx (Option.some.inj z).symm)) (anyN_no hc s hs)
      exact ⟨k1, k2⟩) _ _
    exact ⟨M, by rw [bI_f, if_pos rfl, e], Fr.rfl, h⟩
  | true =>
    obtain ⟨M1, a1, a2, a3⟩ := lay_put h hp hn hq h0
    obtain ⟨M2, b1, b2, -, b4⟩ := sum_cls a3 (CLw_fr hL a2 (by decide))
    have hD2 : DI (setA S p (some q)) := setA_DI hD (fun x z => by cases z; rw [setA_id hn]; exact h0)
    obtain ⟨M3, c1, c2, c3⟩ := lay_away (S := setA S p (some q)) (p := p) (q := q) b4 hD2 hp (by rw [setA_at, if_pos rfl])
    rw [setA_twice, setA_id hn] at c3
    refine ⟨M3, ?_, ((a2.mono (by decide)).trans (b2.mono (by decide))).trans (c2.mono (by decide)), c3⟩
    have c1' : fX0_lay M2 (nI (sqC (cW S) q)) 0 = some M3 := c1
    rw [bI_t, if_neg i10, nl10, nI_add, a1, bd_s, b1, bd_s]
    show (fX0_lay M2 (nI (sqC (cW S) q)) 0).bind _ = _
    rw [c1']
    rfl
theorem squares_spec {M : MM} {S : SCN} (h : BB M S) : fX0_squares M = nI (cW S * cH S) := by
  unfold fX0_squares
  rw [h.2.2.1, h.2.2.2.1, pk_mul]
theorem isFree_spec {M : MM} {S : SCN} (h : BB M S) {c : Nat} (hc : c < cW S * cH S) : fX0_isFree M (nI c) = some (if onS S (sq8 (cW S) c) = 0 then 1 else 0) := by
  have hS := h.1
  have h64 := wh_64 hS
  have hq := sq8_inP (show 0 < cW S by have := hS.1.1; omega) hS.1.2 hc
  have e := h.2.2.2.2.2.2.2.2.2 _ hq
  rw [sqC_sq8 (by have := hS.1.1; omega) hS.1.2] at e
  have ho := onS_lt hS (sq8 (cW S) c)
  unfold fX0_isFree
  rw [gd_inb (by omega) (by decide), ix_nI (by omega), e, nl0]
  by_cases z : onS S (sq8 (cW S) c) = 0
  · rw [eqn_t z, if_pos z]
  · rw [eqn_f z (by omega) (by decide), if_neg z]
/-! ===== stand ===== -/
theorem freeFor {S : SCN} (hN8 : cN S ≤ 8) (hD : DI S) {p x : Nat} (hp : p < cN S) (hA : ∃ q, cAt S p = some q) : (onS S x = 0 ∨ onS S x = 10 + p) ↔ onS (setA S p none) x = 0 := by
  obtain ⟨q, hq⟩ := hA
  constructor
  · intro h
    by_cases e : x = q
    · rw [e]; exact setA_away hD hp hq
    · have hne : cAt S p ≠ some x := fun z => e (Option.some.inj (z.symm.trans hq))
      rw [setA_on_ne hne (fun z => by cases z)]
      rcases h with h | h
      · exact h
      · exfalso
        unfold onS at h
        cases h1 : fstN (fun k => cAt S k == some x) (cN S) with
        | some k =>
          rw [h1] at h
          simp only [] at h
          have := (fstN_out h1).2.1
          rw [show k = p by omega] at this
          simp [hne] at this
        | none =>
          rw [h1] at h
          simp only [] at h
          cases h2 : fstN (fun k => cSh S k 1 == x && !cHd S k) (cS S) with
          | some k => rw [h2] at h; simp only [] at h; have := hp; omega
          | none =>
            rw [h2] at h
            simp only [] at h
            split at h <;> omega
  · intro h
    by_cases e : x = q
    · refine Or.inr (onS_person hp (by rw [e]; exact hq) (fun j hj z => ?_))
      have := hD.1 j p x (by omega) hp z (by rw [e]; exact hq)
      omega
    · rw [setA_on_ne (fun z => e (Option.some.inj (z.symm.trans hq))) (fun z => by cases z)] at h
      exact Or.inl h
