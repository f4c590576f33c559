/-! ===== known ===== -/
def knS (S : SCN) (c p : Nat) : Nat := sumN (fun s => if nearB S c s p then 1 else 0) (cS S)
theorem knS_le {S : SCN} (hS : SW S) (c p : Nat) : knS S c p ≤ 8 := by
  have h8 := hS.2.2.2.1
  have := sumN_le (f := fun s => if nearB S c s p then 1 else 0) (b := 1) (n := cS S) (fun k _ => by show (if nearB S c k p then 1 else 0) ≤ 1; split <;> omega)
  unfold knS
  omega
theorem known_cls {M : MM} {S : SCN} {c p : Nat} (hB : BB M S) (hN : NR M S c) (hp : p < 8) : fX0_knownIn M (nI p) = some (nI (knS S c p)) := by
  have hS := hB.1
  have h8 := hS.2.2.2.1
  have key := lpk (κ := Unit) (σ := Nat × Nat) (fun _ f st => fX0_knownIn_l4 M f (nI p) (nI st.2) (nI st.1)) (fun _ v => some (nI v)) (cS S)
    (fun s st => s = st.1 ∧ st.2 = sumN (fun s => if nearB S c s p then 1 else 0) s) (fun v => v = knS S c p) ?_ ?_ FU 0 (0, 0) (by omega) (by show _ < 5000; omega) ⟨rfl, rfl⟩
  · obtain ⟨v, e, h⟩ := key
    rw [e] at h
    exact h ()
  · rintro s ⟨s2, v⟩ hs ⟨rfl, hv⟩
    left
    have nl := nearM_lt hS c s
    refine ⟨(s + 1, v + if nearB S c s p then 1 else 0), ⟨rfl, by show v + _ = _; rw [sumN, ← hv]⟩, fun _ f => ?_⟩
    show fX0_knownIn_l4 M (f + 1) (nI p) (nI v) (nI s) = fX0_knownIn_l4 M f (nI p) (nI (v + if nearB S c s p then 1 else 0)) (nI (s + 1))
    rw [fX0_knownIn_l4.eq_2, hB.2.2.2.2.2.1, le_f hs (by omega), gd_inb (by omega) (by decide), ix_nI (by omega), bnd_r, hN s hs, bit_un (by omega) (by omega), nI_add, nI_1]
    rfl
  · rintro ⟨s2, v⟩ ⟨rfl, hv⟩
    refine ⟨v, hv, fun _ f => ?_⟩
    show fX0_knownIn_l4 M (f + 1) (nI p) (nI v) (nI (cS S)) = _
    rw [fX0_knownIn_l4.eq_2, hB.2.2.2.2.2.1, le_t (Nat.le_refl _) (by omega)]
theorem known_ref {M : MM} {o l0 c p : Nat} {P : PARD} {S : SCN} {L : Nat → Nat} (hM : MS M o P S) (hO : LO M S) (hL : ML M l0 L c) (hp : p < 8) : fX12_knownIn M (nI p) = some (nI (knS S c p)) := by
  have hS := hM.2.2.2.2.1
  have h8 := hS.2.2.2.1
  have h14 := hM.2.2.2.2.2.2.2.2.1
  have key := lpk (κ := Unit) (σ := Nat × Nat) (fun _ f st => fX12_knownIn_l4 M f (nI p) (nI st.2) (nI st.1)) (fun _ v => some (nI v)) (cS S)
    (fun s st => s = st.1 ∧ st.2 = sumN (fun s => if nearB S c s p then 1 else 0) s) (fun v => v = knS S c p) ?_ ?_ FU 0 (0, 0) (by omega) (by show _ < 5000; omega) ⟨rfl, rfl⟩
  · obtain ⟨v, e, h⟩ := key
    rw [e] at h
    exact h ()
  · rintro s ⟨s2, v⟩ hs ⟨rfl, hv⟩
    left
    refine ⟨(s + 1, v + if nearB S c s p then 1 else 0), ⟨rfl, by show v + _ = _; rw [sumN, ← hv]⟩, fun _ f => ?_⟩
    show fX12_knownIn_l4 M (f + 1) (nI p) (nI v) (nI s) = fX12_knownIn_l4 M f (nI p) (nI (v + if nearB S c s p then 1 else 0)) (nI (s + 1))
    rw [fX12_knownIn_l4.eq_2, h14, le_f hs (by omega), near_ref hS hO hL hs hp, bd_s]
    unfold fX12_knownIn_j27
    cases nearB S c s p with
    | true => rw [bI_t, if_neg i10, bnd_r, if_pos rfl, nI_1, nI_1]
    | false => rw [bI_f, if_pos rfl, bnd_r, if_neg (show ¬ false = true by decide), show nI v + 0 = nI v by rw [nl0, nI_add]; rfl, nI_1]; rfl
  · rintro ⟨s2, v⟩ ⟨rfl, hv⟩
    refine ⟨v, hv, fun _ f => ?_⟩
    show fX12_knownIn_l4 M (f + 1) (nI p) (nI v) (nI (cS S)) = _
    rw [fX12_knownIn_l4.eq_2, h14, le_t (Nat.le_refl _) (by omega)]
theorem foldB_bst (kn : Nat → Nat) : ∀ k, foldB false (fun p => some (kn p)) (k + 1) = some (bstN (fun b p => decide (kn b < kn p)) k, kn (bstN (fun b p => decide (kn b < kn p)) k))
  | 0 => rfl
  | k + 1 => by
    rw [foldB_some (cand := fun p => some (kn p)) (n := k + 1) (v := kn (k + 1)) rfl, foldB_bst kn k, bstN]
    unfold offB
    simp only []
    rw [if_neg (show ¬ false = true by decide)]
    by_cases c : kn (bstN (fun b p => decide (kn b < kn p)) k) < kn (k + 1)
    · rw [if_pos (decide_eq_true c), if_pos (decide_eq_true c)]
    · rw [if_neg (by rw [decide_eq_false c]; decide), if_neg (by rw [decide_eq_false c]; decide)]
theorem known_loop {M : MM} {S : SCN} {a1 c : Nat} (hB : BS M S aT) (hN : NR M S c) (h2 : gI M a1 2 = nI (cN S)) (ha1 : a1 < 40) (hb : BO M none) : ∃ M2, (Fr [81] M M2 ∧ BO M2 (foldB false (fun p => some (knS S c p)) (cN S))) ∧ ∀ _k : Unit, fX1_findKnown_l6 a1 FU M (nI 0) = some M2 := by
  have hS := hB.1.1
  have h8 := hS.2.2.1
  refine lpk (κ := Unit) (σ := MM × Nat) (fun _ f st => fX1_findKnown_l6 a1 f st.1 (nI st.2)) (fun _ M2 => some M2) (cN S)
    (fun p st => p = st.2 ∧ Fr [81] M st.1 ∧ BO st.1 (foldB false (fun p => some (knS S c p)) p)) _ ?_ ?_ FU 0 (M, 0) (by omega) (by show _ < 5000; omega) ⟨rfl, Fr.rfl, hb⟩
  · rintro p ⟨M1, p2⟩ hp ⟨rfl, hF, b2⟩
    left
    simp only [] at hF b2
    have hv := knS_le hS c p
    have e3 : gI M1 a1 2 = nI (cN S) := by rw [hF.gi (by simp; omega)]; exact h2
    have hh := known_cls (p := p) (BS_fr hB hF (by decide)).1 (fun s hs => by rw [hF.gi (by decide)]; exact hN s hs) (by omega)
    obtain ⟨M4, g1, g2, g3⟩ := offer_spec b2 (fw := false) (v := knS S c p) (w := p) (by omega) (by omega)
    refine ⟨(M4, p + 1), ⟨rfl, hF.trans g2, by rw [foldB_some (cand := fun p => some (knS S c p)) (n := p) (v := knS S c p) rfl]; exact g3⟩, fun _ f => ?_⟩
    show fX1_findKnown_l6 a1 (f + 1) M1 (nI p) = _
    rw [fX1_findKnown_l6.eq_2, e3, le_f hp (by omega), hh, bd_s]
    show (fX1_offer M1 _ (nI p) (bI false)).bind _ = _
    rw [g1, bd_s, nI_1]
  · rintro ⟨M1, p2⟩ ⟨rfl, hF, b2⟩
    simp only [] at hF
    refine ⟨M1, ⟨hF, b2⟩, fun _ f => ?_⟩
    have e3 : gI M1 a1 2 = nI (cN S) := by rw [hF.gi (by simp; omega)]; exact h2
    show fX1_findKnown_l6 a1 (f + 1) M1 (nI (cN S)) = _
    rw [fX1_findKnown_l6.eq_2, e3, le_t (Nat.le_refl _) (by omega)]
theorem most_ref {M : MM} {o l0 c : Nat} {P : PARD} {S : SCN} {L : Nat → Nat} (hM : MS M o P S) (hO : LO M S) (hL : ML M l0 L c) : (if gI M 90 13 = 0 then fX12_known_j51 M (-1) else fX12_known_j51 M 0) = some (bW (foldB false (fun p => some (knS S c p)) (cN S)), M) := by
  have hS := hM.2.2.2.2.1
  have h8 := hS.2.2.1
  have h13 := hM.2.2.2.2.2.2.2.1
  rw [h13]
  unfold fX12_known_j51
  rcases Nat.eq_zero_or_pos (cN S) with z | z
  · rw [eqz_t z, z]
    show fX12_known_l56 (4999 + 1) M (-1) 1 = _
    rw [fX12_known_l56.eq_2, h13, z, if_pos (by decide)]
    rfl
  · rw [eqz_f z (by omega)]
    have key := lpk (κ := Unit) (σ := Nat × Nat) (fun _ f st => fX12_known_l56 f M (nI st.2) (nI (st.1 + 1))) (fun _ v => some (nI v, M)) (cN S - 1)
      (fun i st => i = st.1 ∧ st.2 = bstN (fun b p => decide (knS S c b < knS S c p)) i) (fun v => v = bstN (fun b p => decide (knS S c b < knS S c p)) (cN S - 1)) ?_ ?_ FU 0 (0, 0) (by omega) (by show _ < 5000; omega) ⟨rfl, rfl⟩
    · obtain ⟨v, e, h⟩ := key
      have hf := foldB_bst (knS S c) (cN S - 1)
      rw [show cN S - 1 + 1 = cN S by omega] at hf
      rw [hf]
      rw [e] at h
      exact h ()
    · rintro i ⟨i2, b⟩ hi ⟨rfl, hb⟩
      left
      simp only [] at hb
      have hle := bstN_le (fun b p => decide (knS S c b < knS S c p)) i
      rw [← hb] at hle
      have v1 := knS_le hS c b
      have v2 := knS_le hS c (i + 1)
      refine ⟨(i + 1, bstN (fun b p => decide (knS S c b < knS S c p)) (i + 1)), ⟨rfl, rfl⟩, fun _ f => ?_⟩
      show fX12_known_l56 (f + 1) M (nI b) (nI (i + 1)) = fX12_known_l56 f M (nI (bstN (fun b p => decide (knS S c b < knS S c p)) (i + 1))) (nI (i + 1 + 1))
      rw [fX12_known_l56.eq_2, h13, le_f (show i + 1 < cN S by omega) (by omega), known_ref hM hO hL (show i + 1 < 8 by omega), bd_s, known_ref hM hO hL (show b < 8 by omega), bd_s, bstN, ← hb]
      unfold fX12_known_j87
      by_cases cc : knS S c b < knS S c (i + 1)
      · rw [le_f cc (by omega), decide_eq_true cc, if_pos rfl, nI_1]
      · rw [le_t (by omega) (by omega), decide_eq_false cc, if_neg (by decide), nI_1]
    · rintro ⟨i2, b⟩ ⟨rfl, hb⟩
      refine ⟨b, hb, fun _ f => ?_⟩
      show fX12_known_l56 (f + 1) M (nI b) (nI (cN S - 1 + 1)) = _
      rw [fX12_known_l56.eq_2, h13, le_t (by omega) (by omega)]
theorem e30 : E30 Inv := by
  intro K M x1 x2 x3 hI
  refine pl_case (v := -1) hI (C := fX11_known M x1 x2 x3) (R := fun M1 => fX12_known M1 x1 x2 x3) rfl (fun _ => rfl) ?_
  intro T j l hW hC hM hB hj hl e1 e2
  have hP := hW.2.2.2.1 j hj
  have hn8 := hP.2.2.1
  have h2 := num_lt hW (s := 0) (by decide)
  have c3 := (hC.2.2.2.2.2.1 j hj).2.2.1
  obtain ⟨M1, a1, a2, a3, a4, -⟩ := par_beg hW hC hB hj
  have hL1 := CLw_fr (told_law hC hW hl) a2 (by decide)
  have h0 := hL1.2.1.1
  obtain ⟨M2, r, d1, d2, d3, -, -, -, d7⟩ := spread_spec a3 (c := tLaw T l 0) (by omega)
  have hF2 : Fr cL M M2 := a2.trans (d2.mono (by decide))
  by_cases h : x3 = -1
  · obtain ⟨M3, b1, b2, b3⟩ := choice_beg (M := M2)
    have hF3 : Fr cL M M3 := hF2.trans (b2.mono (by decide))
    have e3 : gI M3 (1 + (6 + 16 * j)) 2 = nI (pN (tPar T j)) := by rw [hF3.gi (by simp; omega)]; exact c3
    have hB3 := BS_fr d7 b2 (by decide)
    obtain ⟨M5, ⟨g1, g2⟩, g3⟩ := known_loop (a1 := 1 + (6 + 16 * j)) hB3 (fun s hs => by rw [b2.gi (by decide)]; exact d3 s hs) e3 (by omega) b3
    refine ⟨bW (foldB false (fun p => some (knS (scnOf (tPar T j)) (tLaw T l 0) p)) (cN (scnOf (tPar T j)))), M5, ?_, hF3.trans (g1.mono (by decide)), BS_BN (BS_fr hB3 g1 (by decide)), fun M4 _ hS hL => ?_⟩
    · rw [if_pos h]
      unfold fX11_known_j48 fX1_findKnown
      rw [a1, bd_s, hL1.2.2 0 (by decide), d1, bd_s, if_pos h]
      show (((fX1_begin M2).bind _).bind _) = _
      rw [b1, bd_s]
      show ((fX1_findKnown_l6 (1 + (6 + 16 * j)) FU M3 (nI 0)).bind _) = _
      rw [g3 (), bd_s, g2.2.1]
    · obtain ⟨M6, f1, f2, f3, f4⟩ := laysOut_spec hS
      refine ⟨M6, ?_, f2.mono (by decide)⟩
      rw [if_pos h]
      unfold fX12_known_j24
      rw [f1, bd_s, if_pos h]
      exact most_ref f4 f3 (ML_fr hL f2 (by decide) (by decide))
  · rcases rng x3 (n := pN (tPar T j)) (by omega) with q | ⟨p, hp, rfl⟩
    · refine ⟨-1, M, by rw [if_neg h, hasPerson_no c3 q, if_pos rfl], Fr.rfl, hB, fun M3 _ hS _ => ⟨M3, ?_, Fr.rfl⟩⟩
      rw [if_neg h, isPerson_no hS q, bd_s, if_pos rfl]
    · refine ⟨nI (knS (scnOf (tPar T j)) (tLaw T l 0) p), M2, ?_, hF2, BN_fr a4 d2 (by decide) (by decide), fun M3 _ hS hL => ?_⟩
      · rw [if_neg h, hasPerson_yes c3 (by omega) hp, if_neg i10]
        unfold fX11_known_j48
        rw [a1, bd_s, hL1.2.2 0 (by decide), d1, bd_s, if_neg h]
        show ((fX0_knownIn M2 (nI p)).bind _) = _
        rw [known_cls d7.1 d3 (by omega)]
        rfl
      · obtain ⟨M6, f1, f2, f3, f4⟩ := laysOut_spec hS
        refine ⟨M6, ?_, f2.mono (by decide)⟩
        rw [if_neg h, isPerson_yes hS hp, bd_s, if_neg i10]
        unfold fX12_known_j24
        rw [f1, bd_s, if_neg h, known_ref f4 f3 (ML_fr hL f2 (by decide) (by decide)) (by omega)]
        rfl
/-! ===== clan ===== -/
/-- one round over the first n shines -/
def clR (S : SCN) (m : Nat) : Nat → Nat
  | 0 => m
  | n + 1 => if (clR S m n).testBit n then clR S m n ||| lookN S n 8 else clR S m n
def clN (S : SCN) (m : Nat) : Nat → Nat
  | 0 => m
  | r + 1 => clR S (clN S m r) (cS S)
theorem clR_lt {S : SCN} (hS : SW S) {m : Nat} (hm : m < 256) : ∀ n, clR S m n < 256
  | 0 => hm
  | n + 1 => by
    have := clR_lt hS hm n
    rw [clR]
    split
    · exact or_lt8 this (lookN_lt hS n 8)
    · exact this
theorem clR_bit {S : SCN} (hS : SW S) {m : Nat} (hm : ∀ p, m.testBit p = true → p < cS S) : ∀ n p, (clR S m n).testBit p = true → p < cS S
  | 0, p, h => hm p h
  | n + 1, p, h => by
    rw [clR] at h
    split at h
    · rw [tb_or, Bool.or_eq_true] at h
      rcases h with h | h
      · exact clR_bit hS hm n p h
      · exact lookN_bit hS h
    · exact clR_bit hS hm n p h
theorem clR_mono {S : SCN} {m p : Nat} (h : m.testBit p = true) : ∀ n, (clR S m n).testBit p = true
  | 0 => h
  | n + 1 => by
    have ih := clR_mono (S := S) h n
    rw [clR]
    split
    · rw [tb_or, ih, Bool.true_or]
    · exact ih
theorem clN_lt {S : SCN} (hS : SW S) {m : Nat} (hm : m < 256) : ∀ r, clN S m r < 256
  | 0 => hm
  | r + 1 => clR_lt hS (clN_lt hS hm r) (cS S)
theorem clN_bit {S : SCN} (hS : SW S) {m : Nat} (hm : ∀ p, m.testBit p = true → p < cS S) : ∀ r p, (clN S m r).testBit p = true → p < cS S
  | 0 => hm
  | r + 1 => clR_bit hS (clN_bit hS hm r) (cS S)
theorem clN_grow {S : SCN} (hS : SW S) {m p0 : Nat} (hm : m < 256) (hb : ∀ p, m.testBit p = true → p < cS S) (h0 : m.testBit p0 = true) : ∀ r, clN S m (r + 1) = clN S m r ∨ r + 1 ≤ cntN (fun p => (clN S m r).testBit p) (cS S)
  | 0 => by
    have := cntN_strict (a := fun _ => false) (b := fun p => m.testBit p) (n := cS S) (s := p0) (fun s _ h => by cases h) (hb p0 h0) h0 rfl
    exact Or.inr (by show 0 + 1 ≤ cntN (fun p => m.testBit p) (cS S); omega)
  | r + 1 => by
    rcases clN_grow hS hm hb h0 r with e | e
    · left
      rw [clN, e]
      exact e
    · by_cases c : clN S m (r + 1) = clN S m r
      · left
        rw [clN, c]
        exact c
      · right
        have mono : ∀ s, s < cS S → (clN S m r).testBit s = true → (clN S m (r + 1)).testBit s = true := fun s _ h => clR_mono h (cS S)
        have hex : ∃ p, p < 8 ∧ (clN S m (r + 1)).testBit p ≠ (clN S m r).testBit p := by
          refine Classical.byContradiction (fun hn => c (mask_ext (clN_lt hS hm (r + 1)) (clN_lt hS hm r) (fun p hp => ?_)))
          refine Classical.byContradiction (fun hne => hn ⟨p, hp, hne⟩)
        obtain ⟨p, hp, hne⟩ := hex
        have h1 : (clN S m r).testBit p = false := by
          cases z : (clN S m r).testBit p with
          | false => rfl
          | true => rw [z, clR_mono z (cS S) |> (fun h => (h : (clN S m (r + 1)).testBit p = true))] at hne; exact absurd rfl hne
        have h2 : (clN S m (r + 1)).testBit p = true := by
          cases z : (clN S m (r + 1)).testBit p with
          | true => rfl
          | false => rw [z, h1] at hne; exact absurd rfl hne
        have := cntN_strict (a := fun p => (clN S m r).testBit p) (b := fun p => (clN S m (r + 1)).testBit p) (n := cS S) (s := p) mono (clN_bit hS hb (r + 1) p h2) h2 h1
        omega
theorem clN_stop {S : SCN} {m r : Nat} (h : clN S m (r + 1) = clN S m r) : ∀ k, r ≤ k → clN S m k = clN S m r := by
  intro k
  induction k with
  | zero => intro hk; rw [show r = 0 by omega]
  | succ k ih =>
    intro hk
    rcases Nat.lt_or_ge k r with c | c
    · rw [show r = k + 1 by omega]
    · rw [clN, ih c]; exact h
theorem clN_8 {S : SCN} (hS : SW S) {m p0 : Nat} (hm : m < 256) (hb : ∀ p, m.testBit p = true → p < cS S) (h0 : m.testBit p0 = true) : clN S m 8 = clN S m (cS S) := by
  have h8 := hS.2.2.2.1
  rcases clN_grow hS hm hb h0 (cS S) with e | e
  · exact clN_stop e 8 h8
  · have := cntN_le (fun p => (clN S m (cS S)).testBit p) (cS S)
    omega
theorem clan_cls {M : MM} {S : SCN} (hB : BS M S aT) {s : Nat} (hs : s < cS S) : fX0_clanOf M (nI s) = some (nI (clN S (2 ^ s) 8)) := by
  have hS := hB.1.1
  have h8 := hS.2.2.2.1
  have h3 := hB.1.2.2.2.2.2.1
  have hp : 2 ^ s < 256 := pow_lt8 (by omega)
  have inner : ∀ (m : Nat) (y : Int32), m < 256 → ∀ k : Int32 → Int32 → Option Int32, fX0_clanOf_l15 M k FU (nI m) y (nI 0) = k (nI (clR S m (cS S))) y := fun m y hm k => by
    have key := lpk (κ := Unit) (σ := Nat) (fun _ f st => fX0_clanOf_l15 M k f (nI (clR S m st)) y (nI st)) (fun _ (_ : Unit) => k (nI (clR S m (cS S))) y) (cS S)
      (fun i st => i = st) (fun _ => True) ?_ ?_ FU 0 0 (by omega) (by show _ < 5000; omega) rfl
    · obtain ⟨_, -, h⟩ := key
      exact h ()
    · rintro i i2 hi rfl
      left
      have cl := clR_lt hS hm i
      refine ⟨i + 1, rfl, fun _ f => ?_⟩
      show fX0_clanOf_l15 M k (f + 1) (nI (clR S m i)) y (nI i) = fX0_clanOf_l15 M k f (nI (clR S m (i + 1))) y (nI (i + 1))
      rw [fX0_clanOf_l15.eq_2, h3, le_f hi (by omega), bit_u0 (by omega) (by omega), clR]
      by_cases c : (clR S m i).testBit i = true
      · rw [if_pos c, if_pos c, gd_inb (by omega) (by decide), ix_nI (by omega), bnd_r, (hB.2 i hi rfl).2.1, or_nI, nI_1]
      · rw [if_neg c, if_neg c, nI_1]
    · rintro i rfl
      refine ⟨(), trivial, fun _ f => ?_⟩
      show fX0_clanOf_l15 M k (f + 1) _ y (nI (cS S)) = _
      rw [fX0_clanOf_l15.eq_2, h3, le_t (Nat.le_refl _) (by omega)]
  unfold fX0_clanOf
  rw [shl_nI (by omega), bnd_r]
  have key := lpk (κ := Unit) (σ := Nat) (fun _ f st => fX0_clanOf_l6 M f (nI (clN S (2 ^ s) st)) (nI st)) (fun _ (_ : Unit) => some (nI (clN S (2 ^ s) 8))) 8
    (fun i st => i = st) (fun _ => True) ?_ ?_ FU 0 0 (by omega) (by decide) rfl
  · obtain ⟨_, -, h⟩ := key
    exact h ()
  · rintro i i2 hi rfl
    left
    refine ⟨i + 1, rfl, fun _ f => ?_⟩
    show fX0_clanOf_l6 M (f + 1) (nI (clN S (2 ^ s) i)) (nI i) = fX0_clanOf_l6 M f (nI (clN S (2 ^ s) (i + 1))) (nI (i + 1))
    rw [fX0_clanOf_l6.eq_2, nl8, le_f hi (by decide), nl0, inner _ _ (clN_lt hS hp i), nI_1]
    rfl
  · rintro i rfl
    refine ⟨(), trivial, fun _ f => ?_⟩
    show fX0_clanOf_l6 M (f + 1) _ (nI 8) = _
    rw [fX0_clanOf_l6.eq_2, nl8, le_t (Nat.le_refl _) (by decide)]
theorem clan_ref {M : MM} {o : Nat} {P : PARD} {S : SCN} (hM : MS M o P S) (hO : LO M S) {s : Nat} (hs : s < cS S) : fX12_clan_l29 FU M (nI (2 ^ s)) (nI 0) = some (nI (clN S (2 ^ s) (cS S)), M) := by
  have hS := hM.2.2.2.2.1
  have h8 := hS.2.2.2.1
  have h14 := hM.2.2.2.2.2.2.2.2.1
  have hp : 2 ^ s < 256 := pow_lt8 (by omega)
  have inner : ∀ (m : Nat) (y : Int32), m < 256 → ∀ k : MM → Int32 → Int32 → Option (Int32 × MM), fX12_clan_l41 k FU M (nI m) y (nI 0) = k M (nI (clR S m (cS S))) y := fun m y hm k => by
    have key := lpk (κ := Unit) (σ := Nat) (fun _ f st => fX12_clan_l41 k f M (nI (clR S m st)) y (nI st)) (fun _ (_ : Unit) => k M (nI (clR S m (cS S))) y) (cS S)
      (fun i st => i = st) (fun _ => True) ?_ ?_ FU 0 0 (by omega) (by show _ < 5000; omega) rfl
    · obtain ⟨_, -, h⟩ := key
      exact h ()
    · rintro i i2 hi rfl
      left
      have cl := clR_lt hS hm i
      refine ⟨i + 1, rfl, fun _ f => ?_⟩
      show fX12_clan_l41 k (f + 1) M (nI (clR S m i)) y (nI i) = fX12_clan_l41 k f M (nI (clR S m (i + 1))) y (nI (i + 1))
      rw [fX12_clan_l41.eq_2, h14, le_f hi (by omega), bit_s1 (by omega) (by omega), clR]
      unfold fX12_clan_j72
      by_cases c : (clR S m i).testBit i = true
      · rw [if_pos c, if_pos c, gd_inb (by omega) (by decide), ix_nI (by omega), bnd_r, hO.2 i hi, or_nI, nI_1]
      · rw [if_neg c, if_neg c, bnd_r, show nI (clR S m i) ||| 0 = nI (clR S m i) by rw [nl0, or_nI, Nat.or_zero], nI_1]
    · rintro i rfl
      refine ⟨(), trivial, fun _ f => ?_⟩
      show fX12_clan_l41 k (f + 1) M _ y (nI (cS S)) = _
      rw [fX12_clan_l41.eq_2, h14, le_t (Nat.le_refl _) (by omega)]
  have key := lpk (κ := Unit) (σ := Nat) (fun _ f st => fX12_clan_l29 f M (nI (clN S (2 ^ s) st)) (nI st)) (fun _ (_ : Unit) => some (nI (clN S (2 ^ s) (cS S)), M)) (cS S)
    (fun i st => i = st) (fun _ => True) ?_ ?_ FU 0 0 (by omega) (by show _ < 5000; omega) rfl
  · obtain ⟨_, -, h⟩ := key
    exact h ()
  · rintro i i2 hi rfl
    left
    refine ⟨i + 1, rfl, fun _ f => ?_⟩
    show fX12_clan_l29 (f + 1) M (nI (clN S (2 ^ s) i)) (nI i) = fX12_clan_l29 f M (nI (clN S (2 ^ s) (i + 1))) (nI (i + 1))
    rw [fX12_clan_l29.eq_2, h14, le_f hi (by omega), nl0, inner _ _ (clN_lt hS hp i), nI_1]
    rfl
  · rintro i rfl
    refine ⟨(), trivial, fun _ f => ?_⟩
    show fX12_clan_l29 (f + 1) M _ (nI (cS S)) = _
    rw [fX12_clan_l29.eq_2, h14, le_t (Nat.le_refl _) (by omega)]
theorem e25 : E25 Inv := by
  intro K M x1 x2 hI
  refine p_case (v := -1) hI (C := fX11_clan M x1 x2) (R := fun M1 => fX12_clan M1 x1 x2) rfl (fun _ => rfl) ?_
  intro T j hW hC hM hB hj e
  have hP := hW.2.2.2.1 j hj
  have hs8 := hP.2.2.2.1
  have c4 := (hC.2.2.2.2.2.1 j hj).2.2.2.1
  rcases rng x2 (n := pS (tPar T j)) (by omega) with h | ⟨s, hs, rfl⟩
  · refine ⟨-1, M, by rw [hasShine_no c4 h, if_pos rfl], Fr.rfl, hB, fun M3 _ hS => ⟨M3, ?_, Fr.rfl⟩⟩
    rw [isShine_no hS h, bd_s, if_pos rfl]
  · obtain ⟨M1, a1, a2, a3, a4, -⟩ := par_beg hW hC hB hj
    refine ⟨nI (clN (scnOf (tPar T j)) (2 ^ s) 8), M1, ?_, a2, a4, fun M3 _ hS => ?_⟩
    · rw [hasShine_yes c4 (by omega) hs, if_neg i10, a1, bd_s, clan_cls a3 hs]
      rfl
    · obtain ⟨M4, d1, d2, d3, d4⟩ := laysOut_spec hS
      refine ⟨M4, ?_, d2.mono (by decide)⟩
      rw [isShine_yes hS hs, bd_s, if_neg i10, d1, bd_s, shl_nI (by omega), bnd_r, clN_8 (scn_SW hP) (p0 := s) (pow_lt8 (by omega)) (fun p hb => by rw [tb_pow] at hb; have := of_decide_eq_true hb; show p < pS (tPar T j); omega) (by rw [tb_pow, decide_eq_true rfl])]
      exact clan_ref d4 d3 hs
