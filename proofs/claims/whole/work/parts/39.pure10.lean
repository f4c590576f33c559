/-! ===== counts ===== -/
def allN (f : Nat → Bool) : Nat → Bool
  | 0 => true
  | n + 1 => allN f n && f n
def bI (b : Bool) : Int32 := if b then 1 else 0
theorem bI_t : bI true = 1 := rfl
theorem bI_f : bI false = 0 := rfl
def nearB (S : SCN) (c s p : Nat) : Bool := (nearM S c s).testBit p
/-- a person who counts: near, and (without twins) the first of that name -/
def fstS (S : SCN) (c tw s p : Nat) : Bool := nearB S c s p && (decide (tw ≠ 0) || allN (fun q => !(nearB S c s q && cNm S q == cNm S p)) p)
def headsS (S : SCN) (c tw s : Nat) : Nat := cntN (fun p => fstS S c tw s p) (cN S)
def soupS (S : SCN) (L : Nat → Nat) (s : Nat) : Bool := (L 2).testBit (cSh S s 0)
def countS (S : SCN) (c : Nat) (L : Nat → Nat) (s : Nat) : Nat := if soupS S L s then 0 else if headsS S c (L 1) s < cSh S s 3 then headsS S c (L 1) s else cSh S s 3
def sumN (f : Nat → Nat) : Nat → Nat
  | 0 => 0
  | n + 1 => sumN f n + f n
def sumS (S : SCN) (c : Nat) (L : Nat → Nat) : Nat := sumN (countS S c L) (cS S)
theorem cntN_tail {p : Nat → Bool} {n : Nat} : ∀ {m : Nat}, n ≤ m → (∀ k, n ≤ k → k < m → p k = false) → cntN p m = cntN p n := by
  intro m
  induction m with
  | zero => intro h _; rw [show n = 0 by omega]
  | succ m ih =>
    intro h hp
    rcases Nat.lt_or_ge m n with c | c
    · rw [show n = m + 1 by omega]
    · rw [cntN, hp m c (by omega), ih c (fun k h1 h2 => hp k h1 (by omega))]
      rfl
set_option maxRecDepth 100000 in
theorem bc10 : ∀ m, m < 1024 → fJ6_bitCount_0f7a4 (nI m) = nI (cntN (fun p => m.testBit p) 10) := by decide +kernel
theorem cnt_or {a k : Nat} : ∀ {N : Nat}, cntN (fun p => (a ||| 2 ^ k).testBit p) N = cntN (fun p => a.testBit p) N + if k < N ∧ a.testBit k = false then 1 else 0
  | 0 => by rw [cntN, cntN, if_neg (by omega)]
  | N + 1 => by
    rw [cntN, cntN, cnt_or, tb_or, tb_pow]
    by_cases e : k = N
    · subst e
      rw [if_neg (show ¬ (k < k ∧ a.testBit k = false) by omega), decide_eq_true rfl, Bool.or_true, if_pos rfl]
      cases h : a.testBit k with
      | true => rw [if_pos rfl, if_neg (by simp)]
      | false => rw [if_neg (by decide), if_pos ⟨by omega, rfl⟩]
    · rw [decide_eq_false e, Bool.or_false]
      by_cases c : k < N ∧ a.testBit k = false
      · rw [if_pos c, if_pos (show k < N + 1 ∧ a.testBit k = false from ⟨by omega, c.2⟩)]; omega
      · rw [if_neg c, if_neg (show ¬ (k < N + 1 ∧ a.testBit k = false) from fun z => c ⟨by omega, z.2⟩)]; omega
theorem orN_ltk {f : Nat → Nat} {g : Nat → Bool} {k : Nat} : ∀ {n : Nat}, (∀ t, t < n → f t < 2 ^ k) → orN f g n < 2 ^ k
  | 0, _ => by rw [orN]; exact Nat.two_pow_pos k
  | n + 1, h => by
    have ih := orN_ltk (f := f) (g := g) (k := k) (n := n) (fun t ht => h t (by omega))
    rw [orN]
    split
    · exact Nat.or_lt_two_pow ih (h n (by omega))
    · exact ih
theorem allN_iff {f : Nat → Bool} : ∀ {n : Nat}, allN f n = true ↔ ∀ k, k < n → f k = true
  | 0 => ⟨fun _ k hk => absurd hk (Nat.not_lt_zero k), fun _ => rfl⟩
  | n + 1 => by
    rw [allN, Bool.and_eq_true, allN_iff]
    constructor
    · rintro ⟨a, b⟩ k hk
      by_cases e : k = n
      · rw [e]; exact b
      · exact a k (by omega)
    · intro h
      exact ⟨fun k hk => h k (by omega), h n (by omega)⟩
/-- the mask of names of those near -/
def nmM (S : SCN) (c s n : Nat) : Nat := orN (fun p => 2 ^ cNm S p) (fun p => nearB S c s p) n
theorem nmM_cnt {S : SCN} (hS : SW S) (c s : Nat) : ∀ n, n ≤ cN S → cntN (fun p => (nmM S c s n).testBit p) 10 = cntN (fun p => fstS S c 0 s p) n
  | 0, _ => by
    unfold nmM
    rw [orN, cntN]
    exact cntN_tail (n := 0) (by omega) (fun k _ _ => tb_0 k)
  | n + 1, hn => by
    have ih := nmM_cnt hS c s n (by omega)
    have hnm := hS.2.2.2.2.2.1 n (by omega)
    rw [show cntN (fun p => fstS S c 0 s p) (n + 1) = cntN (fun p => fstS S c 0 s p) n + (if fstS S c 0 s n then 1 else 0) from rfl, ← ih]
    have e0 : nmM S c s (n + 1) = if nearB S c s n then nmM S c s n ||| 2 ^ cNm S n else nmM S c s n := rfl
    rw [e0]
    unfold fstS
    cases hb : nearB S c s n with
    | false => rw [if_neg (by decide), Bool.false_and]; rfl
    | true =>
      rw [if_pos rfl, cnt_or, Bool.true_and, show decide ((0 : Nat) ≠ 0) = false from rfl, Bool.false_or]
      congr 1
      by_cases cc : (nmM S c s n).testBit (cNm S n) = true
      · rw [if_neg (fun z => by rw [cc] at z; cases z.2)]
        rw [if_neg]
        intro z
        unfold nmM at cc
        obtain ⟨t, h1, h2, h3⟩ := orN_bit.mp cc
        have := allN_iff.mp z t h1
        rw [tb_pow] at h3
        have h3 := of_decide_eq_true h3
        simp only [h2, h3, beq_self_eq_true, Bool.and_true, Bool.not_true] at this
        cases this
      · have c2 : (nmM S c s n).testBit (cNm S n) = false := by
          cases z : (nmM S c s n).testBit (cNm S n) with
          | true => exact absurd z cc
          | false => rfl
        rw [if_pos ⟨hnm, c2⟩, if_pos]
        refine allN_iff.mpr (fun t ht => ?_)
        cases hq : nearB S c s t with
        | false => rfl
        | true =>
          by_cases e : cNm S t = cNm S n
          · refine absurd ?_ cc
            unfold nmM
            exact orN_bit.mpr ⟨t, ht, hq, by rw [e, tb_pow, decide_eq_true rfl]⟩
          · simp [e]
theorem heads_tw {S : SCN} (hS : SW S) (c s tw : Nat) (h : tw ≠ 0) : cntN (fun p => (nearM S c s).testBit p) 10 = headsS S c tw s := by
  have hN := hS.2.2.1
  unfold headsS
  rw [cntN_tail (n := cN S) (by omega) (fun k h1 _ => ?_)]
  · refine cntN_cong (fun p _ => ?_)
    unfold fstS nearB
    rw [decide_eq_true h, Bool.true_or, Bool.and_true]
  · cases z : (nearM S c s).testBit k with
    | false => rfl
    | true => have := near_bit hS z; omega
theorem soup_cls {M : MM} {S : SCN} {a : Nat} {L : Nat → Nat} (hB : BB M S) (hL : CLw M a L) {s : Nat} (hs : s < cS S) : fX4_isSoup M a (gI M 64 s) = bI (soupS S L s) := by
  have hS := hB.1
  have hk := (hS.2.2.2.2.2.2 s hs).1
  have h2 := hL.2.1.2.2.1
  unfold fX4_isSoup
  rw [(hB.2.2.2.2.2.2.2.2.1 s hs).1, hL.2.2 2 (by decide), bit_u0 (by omega) (by omega)]
  rfl
theorem heads_cls {M : MM} {S : SCN} {a c : Nat} {L : Nat → Nat} (hB : BB M S) (hN : NR M S c) (hL : CLw M a L) {s : Nat} (hs : s < cS S) : fX0_headsIn M (nI s) a = some (nI (if soupS S L s then 0 else headsS S c (L 1) s)) := by
  have hS := hB.1
  have h8 := hS.2.2.2.1
  have hn8 := hS.2.2.1
  have nl := nearM_lt hS c s
  unfold fX0_headsIn
  rw [gd_inb (by omega) (by decide), ix_nI (by omega), soup_cls hB hL hs]
  cases hsp : soupS S L s with
  | true => rw [bI_t, if_neg i10, if_pos rfl]; rfl
  | false =>
    rw [bI_f, if_pos rfl, if_neg (show ¬ false = true by decide), hL.2.2 1 (by decide)]
    by_cases h1 : L 1 = 0
    · rw [eqz_t h1]
      have key := lpk (κ := Unit) (σ := Nat × Nat) (fun _ f st => fX0_headsIn_l40 M a (fun y14 => some (fJ6_bitCount_0f7a4 y14)) f (nI s) (nI st.2) (nI st.1)) (fun _ v => some (fJ6_bitCount_0f7a4 (nI v))) (cN S)
        (fun p st => p = st.1 ∧ st.2 = nmM S c s p) (fun v => v = nmM S c s (cN S)) ?_ ?_ FU 0 (0, 0) (by omega) (by show _ < 5000; omega) ⟨rfl, rfl⟩
      · obtain ⟨v, e, h⟩ := key
        rw [e] at h
        have hlt : nmM S c s (cN S) < 1024 := orN_ltk (k := 10) (fun t ht => Nat.pow_lt_pow_right (by decide) (hS.2.2.2.2.2.1 t ht))
        have := h ()
        simp only [] at this
        rw [nl0, this, bc10 _ hlt, nmM_cnt hS c s _ (Nat.le_refl _), h1]
        rfl
      · rintro p ⟨p2, v⟩ hp ⟨rfl, hv⟩
        left
        simp only [] at hv
        by_cases c1 : nearB S c s p = true
        · refine ⟨(p + 1, v ||| 2 ^ cNm S p), ⟨rfl, ?_⟩, fun _ f => ?_⟩
          · show v ||| 2 ^ cNm S p = _
            rw [hv]
            unfold nmM
            rw [orN, if_pos c1]
          · show fX0_headsIn_l40 M a _ (f + 1) (nI s) (nI v) (nI p) = fX0_headsIn_l40 M a _ f (nI s) (nI (v ||| 2 ^ cNm S p)) (nI (p + 1))
            have hnm := hS.2.2.2.2.2.1 p hp
            rw [fX0_headsIn_l40.eq_2, hB.2.2.2.2.1, le_f hp (by omega), gd_inb (by omega) (by decide), ix_nI (by omega), hN s hs, bit_u0 (by omega) (by omega), if_pos (show (nearM S c s).testBit p = true from c1), gd_inb (by omega) (by decide), ix_nI (by omega), bnd_r, hB.2.2.2.2.2.2.2.1 p hp, shl_nI (by omega), or_nI, nI_1]
        · refine ⟨(p + 1, v), ⟨rfl, ?_⟩, fun _ f => ?_⟩
          · show v = _
            rw [hv]
            unfold nmM
            rw [orN, if_neg c1]
          · show fX0_headsIn_l40 M a _ (f + 1) (nI s) (nI v) (nI p) = fX0_headsIn_l40 M a _ f (nI s) (nI v) (nI (p + 1))
            rw [fX0_headsIn_l40.eq_2, hB.2.2.2.2.1, le_f hp (by omega), gd_inb (by omega) (by decide), ix_nI (by omega), hN s hs, bit_u0 (by omega) (by omega), if_neg (show ¬ (nearM S c s).testBit p = true from c1), nI_1]
      · rintro ⟨p2, v⟩ ⟨rfl, hv⟩
        refine ⟨v, hv, fun _ f => ?_⟩
        show fX0_headsIn_l40 M a _ (f + 1) (nI s) (nI v) (nI (cN S)) = _
        rw [fX0_headsIn_l40.eq_2, hB.2.2.2.2.1, le_t (Nat.le_refl _) (by omega)]
    · have hl1 := hL.2.1.2.1
      rw [eqz_f (by omega) (by omega), gd_inb (by omega) (by decide), hN s hs, bc10 _ (by omega), heads_tw hS c s (L 1) h1]
theorem heads_le {S : SCN} (hS : SW S) (c tw s : Nat) : headsS S c tw s ≤ 8 := Nat.le_trans (cntN_le _ _) hS.2.2.1
theorem countS_le {S : SCN} (hS : SW S) (c : Nat) (L : Nat → Nat) (s : Nat) : countS S c L s ≤ 8 := by
  have := heads_le hS c (L 1) s
  unfold countS
  split
  · omega
  · split <;> omega
theorem min_nI {a b : Nat} (ha : a < 2 ^ 31) (hb : b < 2 ^ 31) : jmin (nI a) (nI b) = nI (if a < b then a else b) := by
  unfold jmin
  by_cases c : b < a
  · rw [lt_t c ha, if_neg (by omega)]
  · rw [lt_f (by omega) hb]
    by_cases d : a < b
    · rw [if_pos d]
    · rw [if_neg d, show a = b by omega]
theorem count_cls {M : MM} {S : SCN} {a c : Nat} {L : Nat → Nat} (hB : BB M S) (hN : NR M S c) (hL : CLw M a L) {s : Nat} (hs : s < cS S) : fX0_countIn M (nI s) a = some (nI (countS S c L s)) := by
  have hS := hB.1
  have h8 := hS.2.2.2.1
  have hsz := (hS.2.2.2.2.2.2 s hs).2.2.2.1
  have hh := heads_le hS c (L 1) s
  unfold fX0_countIn
  rw [heads_cls hB hN hL hs, bd_s, gd_inb (by omega) (by decide), ix_nI (by omega), (hB.2.2.2.2.2.2.2.2.1 s hs).2.2.2.1]
  unfold countS
  cases hsp : soupS S L s with
  | true => rw [if_pos rfl, if_pos rfl, min_nI (by omega) (by omega), if_pos (by omega)]
  | false => rw [if_neg (by decide), if_neg (by decide), min_nI (by omega) (by omega)]
theorem sum_cls {M : MM} {S : SCN} {a : Nat} {L : Nat → Nat} (hB : BS M S aT) (hL : CLw M a L) : ∃ M2, fX0_sumBy M a = some (nI (sumS S (L 0) L), M2) ∧ Fr [70, 77] M M2 ∧ NR M2 S (L 0) ∧ BS M2 S aT := by
  have hS := hB.1.1
  have h8 := hS.2.2.2.1
  have h0 := hL.2.1.1
  obtain ⟨M2, r, a1, a2, a3, -, -, -, a7⟩ := spread_spec hB (c := L 0) (by omega)
  have hL2 : CLw M2 a L := CLw_fr hL a2 (by decide)
  refine ⟨M2, ?_, a2, a3, a7⟩
  have key := lpk (κ := Unit) (σ := Nat × Nat) (fun _ f st => fX0_sumBy_l13 a f M2 (nI st.2) (nI st.1)) (fun _ v => some (nI v, M2)) (cS S)
    (fun s st => s = st.1 ∧ st.2 = sumN (countS S (L 0) L) s) (fun v => v = sumS S (L 0) L) ?_ ?_ FU 0 (0, 0) (by omega) (by show _ < 5000; omega) ⟨rfl, rfl⟩
  · obtain ⟨v, e, h⟩ := key
    rw [e] at h
    unfold fX0_sumBy
    rw [hL.2.2 0 (by decide), a1, bd_s]
    exact h ()
  · rintro s ⟨s2, v⟩ hs ⟨rfl, hv⟩
    left
    refine ⟨(s + 1, v + countS S (L 0) L s), ⟨rfl, ?_⟩, fun _ f => ?_⟩
    · show v + countS S (L 0) L s = _
      rw [sumN, ← hv]
    · show fX0_sumBy_l13 a (f + 1) M2 (nI v) (nI s) = fX0_sumBy_l13 a f M2 (nI (v + countS S (L 0) L s)) (nI (s + 1))
      rw [fX0_sumBy_l13.eq_2, a7.1.2.2.2.2.2.1, le_f hs (by omega), count_cls a7.1 a3 hL2 hs, bd_s, bnd_r, nI_add, nI_1]
  · rintro ⟨s2, v⟩ ⟨rfl, hv⟩
    refine ⟨v, hv, fun _ f => ?_⟩
    show fX0_sumBy_l13 a (f + 1) M2 (nI v) (nI (cS S)) = _
    rw [fX0_sumBy_l13.eq_2, a7.1.2.2.2.2.2.1, le_t (Nat.le_refl _) (by omega)]
/-! ===== counts of the reference ===== -/
theorem near_ref {M : MM} {S : SCN} {l0 c : Nat} {L : Nat → Nat} (hS : SW S) (hO : LO M S) (hL : ML M l0 L c) {s p : Nat} (hs : s < cS S) (hp : p < 8) : fX12_isNear M (nI s) (nI p) = some (bI (nearB S c s p)) := by
  have h8 := hS.2.2.2.1
  have hc := hL.2.2.2.2.1
  have h99 := dg_99 S s p
  unfold fX12_isNear
  rw [nl8, pk_mul, nI_add, gd_inb (by omega) (by decide), ix_nI (by omega), hL.2.2.2.1, hO.1 s p hs hp]
  unfold nearB
  cases h : (nearM S c s).testBit p with
  | true => rw [lt_f ((dg_le hS hs (by omega)).mpr h) (by omega)]; rfl
  | false =>
    rw [lt_t ?_ (by omega)]
    · rfl
    · rcases Nat.lt_or_ge c (dgN S s p) with z | z
      · exact z
      · have := (dg_le hS hs (by omega)).mp z
        rw [h] at this
        cases this
theorem soup_ref {M : MM} {o l0 c : Nat} {P : PARD} {S : SCN} {L : Nat → Nat} (hM : MS M o P S) (hL : ML M l0 L c) {s : Nat} (hs : s < cS S) : fX12_isSoup M (nI s) = some (bI (soupS S L s)) := by
  have hS := hM.2.2.2.2.1
  have h8 := hS.2.2.2.1
  have hk := (hS.2.2.2.2.2.2 s hs).1
  have h2 := hL.2.2.2.2.2.2.2.1
  have hl := hL.2.1
  have e96 : gI M 96 s = nI (cSh S s 0) := hM.2.2.2.2.2.2.2.2.2.2.1 s hs 0 (by decide)
  unfold fX12_isSoup
  simp (disch := omega) only [hL.1, nl2, nI_add, gd_inb, ix_nI]
  rw [e96, hL.2.2.1 2 (by decide), bit_s1 (by omega) (by omega)]
  unfold soupS
  cases (L 2).testBit (cSh S s 0) <;> rfl
theorem count_in {M : MM} {o l0 c : Nat} {P : PARD} {S : SCN} {L : Nat → Nat} (hM : MS M o P S) (hO : LO M S) (hL : ML M l0 L c) {s p : Nat} (hs : s < cS S) (hp : p < cN S) (k97 : Int32 → Int32 → Int32 → Int32 → Option Int32) (y : Int32) (b0 : Bool) :
    fX12_countOf_l33 M k97 FU (nI s) y (nI p) (bI b0) (nI 0) = k97 (nI s) y (nI p) (bI (b0 && (decide (L 1 ≠ 0) || allN (fun q => !(nearB S c s q && cNm S q == cNm S p)) p))) := by
  have hS := hM.2.2.2.2.1
  have h8 := hS.2.2.2.1
  have hn8 := hS.2.2.1
  have hl := hL.2.1
  have hl1 := hL.2.2.2.2.2.2.1
  have tw : gI M 91 (l0 + 1) = nI (L 1) := hL.2.2.1 1 (by decide)
  by_cases h1 : L 1 = 0
  · rw [show decide (L 1 ≠ 0) = false from decide_eq_false (fun z => z h1), Bool.false_or]
    have key := lpk (κ := Unit) (σ := Nat × Bool) (fun _ f st => fX12_countOf_l33 M k97 f (nI s) y (nI p) (bI st.2) (nI st.1)) (fun _ (v : Bool) => k97 (nI s) y (nI p) (bI v)) p
      (fun q st => q = st.1 ∧ st.2 = (b0 && allN (fun q => !(nearB S c s q && cNm S q == cNm S p)) q)) (fun v => v = (b0 && allN (fun q => !(nearB S c s q && cNm S q == cNm S p)) p)) ?_ ?_ FU 0 (0, b0) (by omega) (by show _ < 5000; omega) ⟨rfl, by rw [allN, Bool.and_true]⟩
    · obtain ⟨v, e, h⟩ := key
      rw [e] at h
      exact h ()
    · rintro q ⟨q2, v⟩ hq ⟨rfl, hv⟩
      left
      simp only [] at hv
      refine ⟨(q + 1, v && !(nearB S c s q && cNm S q == cNm S p)), ⟨rfl, ?_⟩, fun _ f => ?_⟩
      · show (v && _) = _
        rw [allN, hv, Bool.and_assoc]
      · show fX12_countOf_l33 M k97 (f + 1) (nI s) y (nI p) (bI v) (nI q) = fX12_countOf_l33 M k97 f (nI s) y (nI p) (bI (v && !(nearB S c s q && cNm S q == cNm S p))) (nI (q + 1))
        have n1 := hS.2.2.2.2.2.1 q (by omega)
        have n2 := hS.2.2.2.2.2.1 p hp
        have e1 : gI M 95 q = nI (cNm S q) := (hM.2.2.2.2.2.2.2.2.2.1 q (by omega)).2
        have e2 : gI M 95 p = nI (cNm S p) := (hM.2.2.2.2.2.2.2.2.2.1 p hp).2
        rw [fX12_countOf_l33.eq_2, le_f hq (by omega)]
        unfold fX12_countOf_j88 fX12_countOf_j84 fX12_countOf_j89
        simp (disch := omega) only [hL.1, nl1, nI_add, gd_inb, ix_nI, tw]
        rw [eqz_t h1, near_ref hS hO hL hs (by omega), bd_s, e1, e2]
        cases v with
        | false => rw [bI_f, if_pos rfl, Bool.false_and]; rfl
        | true =>
          rw [bI_t, if_neg i10, Bool.true_and]
          cases nearB S c s q with
          | false => rw [bI_f, if_pos rfl]; rfl
          | true =>
            rw [bI_t, if_neg i10]
            by_cases e : cNm S q = cNm S p
            · rw [eqn_t e]; simp [e, bI]
            · rw [eqn_f e (by omega) (by omega)]
              have : (cNm S q == cNm S p) = false := by simp [e]
              rw [this]
              rfl
    · rintro ⟨q2, v⟩ ⟨rfl, hv⟩
      refine ⟨v, hv, fun _ f => ?_⟩
      show fX12_countOf_l33 M k97 (f + 1) (nI s) y (nI p) (bI v) (nI p) = _
      rw [fX12_countOf_l33.eq_2, le_t (Nat.le_refl _) (by omega)]
  · rw [show decide (L 1 ≠ 0) = true from decide_eq_true h1, Bool.true_or, Bool.and_true]
    show fX12_countOf_l33 M k97 (4999 + 1) (nI s) y (nI p) (bI b0) (nI 0) = _
    rw [fX12_countOf_l33.eq_2]
    rcases Nat.eq_zero_or_pos p with z | z
    · rw [le_t (by omega) (by omega)]
    · rw [le_f z (by omega)]
      simp (disch := omega) only [hL.1, nl1, nI_add, gd_inb, ix_nI, tw]
      rw [eqz_f (by omega) (by omega)]
theorem count_ref {M : MM} {o l0 c : Nat} {P : PARD} {S : SCN} {L : Nat → Nat} (hM : MS M o P S) (hO : LO M S) (hL : ML M l0 L c) {s : Nat} (hs : s < cS S) : fX12_countOf M (nI s) = some (nI (countS S c L s)) := by
  have hS := hM.2.2.2.2.1
  have h8 := hS.2.2.2.1
  have hn8 := hS.2.2.1
  have hsz := (hS.2.2.2.2.2.2 s hs).2.2.2.1
  have hh := heads_le hS c (L 1) s
  have e99 : gI M 99 s = nI (cSh S s 3) := hM.2.2.2.2.2.2.2.2.2.2.1 s hs 3 (by decide)
  have h13 := hM.2.2.2.2.2.2.2.1
  unfold fX12_countOf countS
  rw [soup_ref hM hL hs, bd_s]
  cases hsp : soupS S L s with
  | true => rw [bI_t, if_neg i10, if_pos rfl]; rfl
  | false =>
    rw [bI_f, if_pos rfl, if_neg (by decide)]
    have key := lpk (κ := Int32 → Int32 → Option Int32) (σ := Nat × Nat) (fun k f st => fX12_countOf_l14 M k f (nI s) (nI st.2) (nI st.1)) (fun k v => k (nI s) (nI v)) (cN S)
      (fun p st => p = st.1 ∧ st.2 = cntN (fun p => fstS S c (L 1) s p) p) (fun v => v = headsS S c (L 1) s) ?_ ?_ FU 0 (0, 0) (by omega) (by show _ < 5000; omega) ⟨rfl, rfl⟩
    · obtain ⟨v, e, h⟩ := key
      rw [e] at h
      simp only [] at h
      rw [nl0, h, gd_inb (by omega) (by decide), ix_nI (by omega), e99]
      by_cases d : headsS S c (L 1) s < cSh S s 3
      · rw [le_f d (by omega), if_pos d]
      · rw [le_t (by omega) (by omega), gd_inb (by omega) (by decide), if_neg d]
    · rintro p ⟨p2, v⟩ hp ⟨rfl, hv⟩
      left
      refine ⟨(p + 1, v + if fstS S c (L 1) s p then 1 else 0), ⟨rfl, ?_⟩, fun k f => ?_⟩
      · show v + _ = _
        rw [cntN, ← hv]
      · show fX12_countOf_l14 M k (f + 1) (nI s) (nI v) (nI p) = fX12_countOf_l14 M k f (nI s) (nI (v + if fstS S c (L 1) s p then 1 else 0)) (nI (p + 1))
        rw [fX12_countOf_l14.eq_2, h13, le_f hp (by omega), near_ref hS hO hL hs (by omega), bd_s, nl0, count_in hM hO hL hs hp]
        unfold fX12_countOf_j97 fX12_countOf_j108
        show _ = fX12_countOf_l14 M k f (nI s) (nI (v + if (nearB S c s p && (decide (L 1 ≠ 0) || allN (fun q => !(nearB S c s q && cNm S q == cNm S p)) p)) then 1 else 0)) (nI (p + 1))
        cases (nearB S c s p && (decide (L 1 ≠ 0) || allN (fun q => !(nearB S c s q && cNm S q == cNm S p)) p)) with
        | true => rw [bI_t, if_neg i10, bnd_r, if_pos rfl, nI_1, nI_1]
        | false => rw [bI_f, if_pos rfl, bnd_r, show nI v + 0 = nI v by rw [nl0, nI_add]; rfl, nI_1, if_neg (by decide)]; rfl
    · rintro ⟨p2, v⟩ ⟨rfl, hv⟩
      refine ⟨v, hv, fun k f => ?_⟩
      show fX12_countOf_l14 M k (f + 1) (nI s) (nI v) (nI (cN S)) = _
      rw [fX12_countOf_l14.eq_2, h13, le_t (Nat.le_refl _) (by omega)]
theorem sum_ref {M : MM} {o l0 c : Nat} {P : PARD} {S : SCN} {L : Nat → Nat} (hM : MS M o P S) (hL : ML M l0 L c) : ∃ M2, fX12_sum M = some (nI (sumS S c L), M2) ∧ Fr [102, 103] M M2 ∧ LO M2 S ∧ MS M2 o P S ∧ ML M2 l0 L c := by
  obtain ⟨M2, a1, a2, a3, a4⟩ := laysOut_spec hM
  have hL2 : ML M2 l0 L c := ML_fr hL a2 (by decide) (by decide)
  have hS := hM.2.2.2.2.1
  have h8 := hS.2.2.2.1
  have h14 := a4.2.2.2.2.2.2.2.2.1
  refine ⟨M2, ?_, a2, a3, a4, hL2⟩
  have key := lpk (κ := Unit) (σ := Nat × Nat) (fun _ f st => fX12_sum_l8 f M2 (nI st.2) (nI st.1)) (fun _ v => some (nI v, M2)) (cS S)
    (fun s st => s = st.1 ∧ st.2 = sumN (countS S c L) s) (fun v => v = sumS S c L) ?_ ?_ FU 0 (0, 0) (by omega) (by show _ < 5000; omega) ⟨rfl, rfl⟩
  · obtain ⟨v, e, h⟩ := key
    rw [e] at h
    unfold fX12_sum
    rw [a1, bd_s]
    exact h ()
  · rintro s ⟨s2, v⟩ hs ⟨rfl, hv⟩
    left
    refine ⟨(s + 1, v + countS S c L s), ⟨rfl, ?_⟩, fun _ f => ?_⟩
    · show v + countS S c L s = _
      rw [sumN, ← hv]
    · show fX12_sum_l8 (f + 1) M2 (nI v) (nI s) = fX12_sum_l8 f M2 (nI (v + countS S c L s)) (nI (s + 1))
      rw [fX12_sum_l8.eq_2, h14, le_f hs (by omega), count_ref a4 a3 hL2 hs, bd_s, bnd_r, nI_add, nI_1]
  · rintro ⟨s2, v⟩ ⟨rfl, hv⟩
    refine ⟨v, hv, fun _ f => ?_⟩
    show fX12_sum_l8 (f + 1) M2 (nI v) (nI (cS S)) = _
    rw [fX12_sum_l8.eq_2, h14, le_t (Nat.le_refl _) (by omega)]
