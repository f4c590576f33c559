/-! ===== seats of the reference ===== -/
def TR (M : MM) (tot giv : Nat → Nat) : Prop := (∀ p, p < 4 → gI M 104 p = nI (tot p)) ∧ ∀ p, p < 4 → gI M 105 p = nI (giv p)
theorem by_ref {M : MM} {l0 c : Nat} {L : Nat → Nat} {tot giv : Nat → Nat} (hL : ML M l0 L c) (h2 : L 4 ≠ 2) (hT : TR M tot giv) {p : Nat} (hp : p < 4) : fX12_by M (nI p) = some (nI (divS (L 4) (giv p))) := by
  have hl := hL.2.1
  have h4 := hL.2.2.2.2.2.2.2.2.2.1
  unfold fX12_by divS
  simp (disch := omega) only [hL.1, nl4, nI_add, gd_inb, ix_nI]
  rw [hL.2.2.1 4 (by decide), hT.2 p hp]
  by_cases z : L 4 = 0
  · rw [eqz_t z, if_neg (by omega), nI_1]
  · rw [eqz_f (by omega) (by omega), if_pos (by omega), nl2, pk_mul, nI_1]
theorem next_ref {M : MM} {l0 c : Nat} {L : Nat → Nat} {tot giv : Nat → Nat} (hL : ML M l0 L c) (h2 : L 4 ≠ 2) (hT : TR M tot giv) (ht : ∀ p, tot p ≤ 64) (hg : ∀ p, giv p ≤ 20) (y : Int32) (k : MM → Int32 → Int32 → Int32 → Option MM) : fX12_gives_l168 k FU M y 0 (nI 0) (nI 1) = k M y 0 (nI (bstN (lt01 tot (L 4) giv) 3)) := by
  have key := lpk (κ := Unit) (σ := Nat × Nat) (fun _ f st => fX12_gives_l168 k f M y 0 (nI st.2) (nI (st.1 + 1))) (fun _ v => k M y 0 (nI v)) 3
    (fun i st => i = st.1 ∧ st.2 = bstN (lt01 tot (L 4) giv) i) (fun v => v = bstN (lt01 tot (L 4) giv) 3) ?_ ?_ FU 0 (0, 0) (by omega) (by decide) ⟨rfl, rfl⟩
  · obtain ⟨v, e, h⟩ := key
    rw [e] at h
    exact h ()
  · rintro i ⟨i2, b⟩ hi ⟨rfl, hb⟩
    left
    simp only [] at hb
    have hle := bstN_le (lt01 tot (L 4) giv) i
    rw [← hb] at hle
    refine ⟨(i + 1, bstN (lt01 tot (L 4) giv) (i + 1)), ⟨rfl, rfl⟩, fun _ f => ?_⟩
    show fX12_gives_l168 k (f + 1) M y 0 (nI b) (nI (i + 1)) = fX12_gives_l168 k f M y 0 (nI (bstN (lt01 tot (L 4) giv) (i + 1))) (nI (i + 1 + 1))
    have m1 := mul_lt31 (ht (i + 1)) (Nat.le_trans (divS_le (w := L 4) (hg b)) (by decide : 41 ≤ 100))
    have m2 := mul_lt31 (ht b) (Nat.le_trans (divS_le (w := L 4) (hg (i + 1))) (by decide : 41 ≤ 100))
    rw [fX12_gives_l168.eq_2, nl4, le_f (show i + 1 < 4 by omega) (by decide), if_pos rfl, gd_inb (by omega) (by decide), by_ref hL h2 hT (show b < 4 by omega), bd_s, gd_inb (by omega) (by decide), by_ref hL h2 hT (show i + 1 < 4 by omega), bd_s, ix_nI (by omega), ix_nI (by omega), hT.1 (i + 1) (by omega), hT.1 b (by omega), pk_mul, pk_mul, bstN, ← hb]
    unfold lt01 fX12_gives_j229
    by_cases cc : tot b * divS (L 4) (giv (i + 1)) < tot (i + 1) * divS (L 4) (giv b)
    · rw [le_f cc m1, decide_eq_true cc, if_pos rfl, nI_1]
    · rw [le_t (by omega) m2, decide_eq_false cc, if_neg (by decide), nI_1]
  · rintro ⟨i2, b⟩ ⟨rfl, hb⟩
    refine ⟨b, hb, fun _ f => ?_⟩
    show fX12_gives_l168 k (f + 1) M y 0 (nI b) (nI (3 + 1)) = _
    rw [fX12_gives_l168.eq_2, nl4, le_t (Nat.le_refl _) (by decide)]
theorem dec_nI {n : Nat} (h : 0 < n) : nI n + (-1) = nI (n - 1) := by
  rw [show nI n + (-1) = nI n - 1 by rw [Int32.sub_eq_add_neg], nl1, pk_sub h]
theorem le0_t {α : Type} {n : Nat} {x y : α} (h : n = 0) : (if nI n ≤ 0 then x else y) = x := if_pos (by rw [h]; decide)
theorem le0_f {α : Type} {n : Nat} {x y : α} (h : 0 < n) (hn : n < 2 ^ 31) : (if nI n ≤ 0 then x else y) = y := if_neg (nI_ge (a := 0) h hn)
theorem gives01_ref {M : MM} {l0 c : Nat} {L : Nat → Nat} {tot : Nat → Nat} (hL : ML M l0 L c) (h2 : L 4 ≠ 2) (hT : TR M tot (fun _ => 0)) (ht : ∀ p, tot p ≤ 64) : ∃ M2, (Fr [105, 106] M M2 ∧ TR M2 tot (giv01 tot (L 4) (L 3))) ∧ ∀ _k : Unit, fX12_gives_l158 FU M (nI (L 3)) 0 = some M2 := by
  have h3 := hL.2.2.2.2.2.2.2.2.1
  refine lpk (κ := Unit) (σ := MM × Nat) (fun _ f st => fX12_gives_l158 f st.1 (nI (L 3 - st.2)) 0) (fun _ M2 => some M2) (L 3)
    (fun k st => k = st.2 ∧ Fr [105, 106] M st.1 ∧ TR st.1 tot (giv01 tot (L 4) k)) _ ?_ ?_ FU 0 (M, 0) (by omega) (by show _ < 5000; omega) ⟨rfl, Fr.rfl, hT⟩
  · rintro k ⟨M1, k2⟩ hk ⟨rfl, hF, a1⟩
    left
    simp only [] at hF a1
    have hL1 : ML M1 l0 L c := ML_fr hL hF (by decide) (by decide)
    have e1 : ∀ kk : MM → Int32 → Int32 → Int32 → Option MM, fX12_gives_l168 kk FU M1 (nI (L 3 - k)) 0 0 1 = kk M1 (nI (L 3 - k)) 0 (nI (bstN (lt01 tot (L 4) (giv01 tot (L 4) k)) 3)) := next_ref hL1 h2 a1 ht (fun p => Nat.le_trans (giv01_le tot (L 4) k p) (by omega)) (nI (L 3 - k))
    have hb : bstN (lt01 tot (L 4) (giv01 tot (L 4) k)) 3 ≤ 3 := bstN_le _ 3
    refine ⟨(sI (sI M1 105 (bstN (lt01 tot (L 4) (giv01 tot (L 4) k)) 3) (gI M1 105 (bstN (lt01 tot (L 4) (giv01 tot (L 4) k)) 3) + 1)) 106 (bstN (lt01 tot (L 4) (giv01 tot (L 4) k)) 3) (-1), k + 1), ⟨rfl, (hF.pI (by decide)).pI (by decide), fun p hp => ?_, fun p hp => ?_⟩, fun _ f => ?_⟩
    · show gI (sI (sI M1 105 _ _) 106 _ _) 104 p = _
      rw [gI_ne _ _ _ _ _ _ (by decide), gI_ne _ _ _ _ _ _ (by decide)]; exact a1.1 p hp
    · show gI (sI (sI M1 105 _ _) 106 _ _) 105 p = _
      rw [gI_ne _ _ _ _ _ _ (by decide)]
      exact add_one 105 p _ 1 (giv01 tot (L 4) k) M1 (a1.2 p hp)
    · show fX12_gives_l158 (f + 1) M1 (nI (L 3 - k)) 0 = fX12_gives_l158 f _ (nI (L 3 - (k + 1))) 0
      rw [fX12_gives_l158.eq_2, le0_f (by omega) (by omega), e1, gd_inb (by omega) (by decide), gd_inb (by omega) (by decide), ix_nI (by omega), bnd_r, gd_inb (by omega) (by decide), bnd_r, dec_nI (by omega), Nat.sub_sub]
  · rintro ⟨M1, k2⟩ ⟨rfl, hF, a1⟩
    refine ⟨M1, ⟨hF, a1⟩, fun _ f => ?_⟩
    show fX12_gives_l158 (f + 1) M1 (nI (L 3 - L 3)) 0 = _
    rw [fX12_gives_l158.eq_2, le0_t (by omega)]
/-- the reference's rests -/
def RS (M : MM) (rem : Nat → Nat) (tk : Nat → Bool) : Prop := ∀ p, p < 4 → gI M 106 p = m1I (val2 rem tk p)
theorem m1I_le {a b : Nat} (ha : a < 2000) (hb : b < 2000) : m1I a ≤ m1I b ↔ a ≤ b := by
  unfold m1I
  rw [Int32.le_iff_toInt_le, sub1_toInt (by omega), sub1_toInt (by omega)]
  omega
theorem best_ref {M : MM} {rem : Nat → Nat} {tk : Nat → Bool} (hR : RS M rem tk) (hr : ∀ p, p < 4 → rem p ≤ 1280) (y : Int32) (k : MM → Int32 → Int32 → Int32 → Option MM) : fX12_gives_l168 k FU M y 1 (nI 0) (nI 1) = k M y 1 (nI (bst2 rem tk)) := by
  have hv : ∀ p, p < 4 → val2 rem tk p < 2000 := fun p hp => by
    have := hr p hp
    unfold val2
    split <;> omega
  have key := lpk (κ := Unit) (σ := Nat × Nat) (fun _ f st => fX12_gives_l168 k f M y 1 (nI st.2) (nI (st.1 + 1))) (fun _ v => k M y 1 (nI v)) 3
    (fun i st => i = st.1 ∧ st.2 = bstN (fun b p => decide (val2 rem tk b < val2 rem tk p)) i) (fun v => v = bst2 rem tk) ?_ ?_ FU 0 (0, 0) (by omega) (by decide) ⟨rfl, rfl⟩
  · obtain ⟨v, e, h⟩ := key
    rw [e] at h
    exact h ()
  · rintro i ⟨i2, b⟩ hi ⟨rfl, hb⟩
    left
    simp only [] at hb
    have hle := bstN_le (fun b p => decide (val2 rem tk b < val2 rem tk p)) i
    rw [← hb] at hle
    refine ⟨(i + 1, bstN (fun b p => decide (val2 rem tk b < val2 rem tk p)) (i + 1)), ⟨rfl, rfl⟩, fun _ f => ?_⟩
    show fX12_gives_l168 k (f + 1) M y 1 (nI b) (nI (i + 1)) = fX12_gives_l168 k f M y 1 (nI (bstN (fun b p => decide (val2 rem tk b < val2 rem tk p)) (i + 1))) (nI (i + 1 + 1))
    rw [fX12_gives_l168.eq_2, nl4, le_f (show i + 1 < 4 by omega) (by decide), if_neg i10, gd_inb (by omega) (by decide), gd_inb (by omega) (by decide), ix_nI (by omega), ix_nI (by omega), hR (i + 1) (by omega), hR b (by omega), bstN, ← hb]
    unfold fX12_gives_j229
    by_cases cc : val2 rem tk b < val2 rem tk (i + 1)
    · rw [if_neg (fun z => by have := (m1I_le (hv (i + 1) (by omega)) (hv b (by omega))).mp z; omega), decide_eq_true cc, if_pos rfl, nI_1]
    · rw [if_pos ((m1I_le (hv (i + 1) (by omega)) (hv b (by omega))).mpr (by omega)), decide_eq_false cc, if_neg (by decide), nI_1]
  · rintro ⟨i2, b⟩ ⟨rfl, hb⟩
    refine ⟨b, hb, fun _ f => ?_⟩
    show fX12_gives_l168 k (f + 1) M y 1 (nI b) (nI (3 + 1)) = _
    rw [fX12_gives_l168.eq_2, nl4, le_t (Nat.le_refl _) (by decide)]
theorem gives2_ref {M : MM} {L : Nat → Nat} {tot : Nat → Nat} (hT : TR M tot (quo2 tot (L 3) (sumN tot 4))) (hR : RS M (rem2 tot (L 3) (sumN tot 4)) (fun _ => false)) (h3 : L 3 ≤ 20) (ht : ∀ p, tot p ≤ 64) (h0 : 0 < sumN tot 4) : ∃ M2, (Fr [105, 106] M M2 ∧ TR M2 tot (fun p => quo2 tot (L 3) (sumN tot 4) p + if tk2 (rem2 tot (L 3) (sumN tot 4)) (lft2 tot (L 3) (sumN tot 4)) p then 1 else 0)) ∧ ∀ _k : Unit, fX12_gives_l158 FU M (nI (lft2 tot (L 3) (sumN tot 4))) 1 = some M2 := by
  have hlf := (lft_b (st := L 3) h0).2
  refine lpk (κ := Unit) (σ := MM × Nat) (fun _ f st => fX12_gives_l158 f st.1 (nI (lft2 tot (L 3) (sumN tot 4) - st.2)) 1) (fun _ M2 => some M2) (lft2 tot (L 3) (sumN tot 4))
    (fun k st => k = st.2 ∧ Fr [105, 106] M st.1 ∧ RS st.1 (rem2 tot (L 3) (sumN tot 4)) (tk2 (rem2 tot (L 3) (sumN tot 4)) k) ∧ TR st.1 tot (fun p => quo2 tot (L 3) (sumN tot 4) p + if tk2 (rem2 tot (L 3) (sumN tot 4)) k p then 1 else 0)) _ ?_ ?_ FU 0 (M, 0) (by omega) (by show _ < 5000; omega) ⟨rfl, Fr.rfl, hR, hT⟩
  · rintro k ⟨M1, k2⟩ hk ⟨rfl, hF, hm, a1⟩
    left
    simp only [] at hF hm a1
    have e1 : ∀ kk : MM → Int32 → Int32 → Int32 → Option MM, fX12_gives_l168 kk FU M1 (nI (lft2 tot (L 3) (sumN tot 4) - k)) 1 0 1 = kk M1 (nI (lft2 tot (L 3) (sumN tot 4) - k)) 1 (nI (bst2 (rem2 tot (L 3) (sumN tot 4)) (tk2 (rem2 tot (L 3) (sumN tot 4)) k))) := best_ref hm (fun p hp => (quo_le (all := sumN tot 4) (ht p) h3).2.2) (nI (lft2 tot (L 3) (sumN tot 4) - k))
    have hfree := bst_free (rem := rem2 tot (L 3) (sumN tot 4)) (k := k) (by omega)
    have hb3 : bst2 (rem2 tot (L 3) (sumN tot 4)) (tk2 (rem2 tot (L 3) (sumN tot 4)) k) ≤ 3 := bstN_le _ 3
    generalize hbb : bst2 (rem2 tot (L 3) (sumN tot 4)) (tk2 (rem2 tot (L 3) (sumN tot 4)) k) = b at *
    refine ⟨(sI (sI M1 105 b (gI M1 105 b + 1)) 106 b (-1), k + 1), ⟨rfl, (hF.pI (by decide)).pI (by decide), fun p hp => ?_, fun p hp => ?_, fun p hp => ?_⟩, fun _ f => ?_⟩
    · show gI (sI (sI M1 105 _ _) 106 b (-1)) 106 p = m1I (if (tk2 (rem2 tot (L 3) (sumN tot 4)) k p || decide (bst2 (rem2 tot (L 3) (sumN tot 4)) (tk2 (rem2 tot (L 3) (sumN tot 4)) k) = p)) = true then 0 else rem2 tot (L 3) (sumN tot 4) p + 1)
      rw [hbb]
      by_cases e : p = b
      · rw [e, gI_eq, decide_eq_true rfl, Bool.or_true, if_pos rfl]
        rfl
      · rw [gI_nk _ _ _ _ _ _ e, gI_ne _ _ _ _ _ _ (by decide), hm p hp, decide_eq_false (fun z => e z.symm), Bool.or_false]
        rfl
    · show gI (sI (sI M1 105 _ _) 106 _ _) 104 p = _
      rw [gI_ne _ _ _ _ _ _ (by decide), gI_ne _ _ _ _ _ _ (by decide)]; exact a1.1 p hp
    · have := add_one 105 p b 1 (fun p => quo2 tot (L 3) (sumN tot 4) p + if tk2 (rem2 tot (L 3) (sumN tot 4)) k p then 1 else 0) M1 (a1.2 p hp)
      show gI (sI (sI M1 105 b (gI M1 105 b + nI 1)) 106 b (-1)) 105 p = _
      rw [gI_ne _ _ _ _ _ _ (by decide), this]
      congr 1
      simp only []
      rw [tk2, hbb, Nat.add_assoc]
      congr 1
      by_cases e : b = p
      · rw [e] at hfree
        rw [hfree, if_neg (by decide), if_pos e, decide_eq_true e, Bool.or_true, if_pos rfl]
      · rw [if_neg e, decide_eq_false e, Bool.or_false, Nat.add_zero]
    · show fX12_gives_l158 (f + 1) M1 (nI (lft2 tot (L 3) (sumN tot 4) - k)) 1 = fX12_gives_l158 f (sI (sI M1 105 b (gI M1 105 b + 1)) 106 b (-1)) (nI (lft2 tot (L 3) (sumN tot 4) - (k + 1))) 1
      rw [fX12_gives_l158.eq_2, le0_f (by omega) (by omega), e1, gd_inb (by omega) (by decide), gd_inb (by omega) (by decide), ix_nI (by omega), bnd_r, gd_inb (by omega) (by decide), bnd_r, dec_nI (by omega), Nat.sub_sub]
  · rintro ⟨M1, k2⟩ ⟨rfl, hF, hm, a1⟩
    refine ⟨M1, ⟨hF, a1⟩, fun _ f => ?_⟩
    show fX12_gives_l158 (f + 1) M1 (nI (lft2 tot (L 3) (sumN tot 4) - lft2 tot (L 3) (sumN tot 4))) 1 = _
    rw [fX12_gives_l158.eq_2, le0_t (by omega)]
theorem quo_ref {M : MM} {l0 c : Nat} {L : Nat → Nat} {tot : Nat → Nat} (hL : ML M l0 L c) (hT : TR M tot (fun _ => 0)) (ht : ∀ p, tot p ≤ 64) (h0 : 0 < sumN tot 4) : ∃ M2, (Fr [105, 106] M M2 ∧ TR M2 tot (quo2 tot (L 3) (sumN tot 4)) ∧ RS M2 (rem2 tot (L 3) (sumN tot 4)) (fun _ => false)) ∧ ∀ k : MM → Int32 → Int32 → Option MM, fX12_gives_l76 k FU M (nI (sumN tot 4)) (nI (L 3)) 1 (nI 0) = k M2 (nI (lft2 tot (L 3) (sumN tot 4))) 1 := by
  have h3 := hL.2.2.2.2.2.2.2.2.1
  have hl := hL.2.1
  have hs : sumN tot 4 ≤ 256 := sumN_le (fun k _ => ht k)
  have key := lpk (κ := MM → Int32 → Int32 → Option MM) (σ := MM × Nat) (fun k f st => fX12_gives_l76 k f st.1 (nI (sumN tot 4)) (nI (L 3 - sumN (quo2 tot (L 3) (sumN tot 4)) st.2)) 1 (nI st.2)) (fun k M2 => k M2 (nI (lft2 tot (L 3) (sumN tot 4))) 1) 4
    (fun i st => i = st.2 ∧ Fr [105, 106] M st.1 ∧ (∀ p, p < 4 → gI st.1 104 p = nI (tot p)) ∧ (∀ p, p < i → gI st.1 105 p = nI (quo2 tot (L 3) (sumN tot 4) p)) ∧ ∀ p, p < i → gI st.1 106 p = nI (rem2 tot (L 3) (sumN tot 4) p)) (fun M2 => Fr [105, 106] M M2 ∧ TR M2 tot (quo2 tot (L 3) (sumN tot 4)) ∧ RS M2 (rem2 tot (L 3) (sumN tot 4)) (fun _ => false)) ?_ ?_ FU 0 (M, 0) (by omega) (by decide) ⟨rfl, Fr.rfl, hT.1, fun p hp => absurd hp (Nat.not_lt_zero p), fun p hp => absurd hp (Nat.not_lt_zero p)⟩
  · exact key
  · rintro i ⟨M1, i2⟩ hi ⟨rfl, hF, a1, a2, a3⟩
    left
    simp only [] at hF a1 a2 a3
    have hL1 : ML M1 l0 L c := ML_fr hL hF (by decide) (by decide)
    obtain ⟨q1, q2, q3⟩ := quo_le (all := sumN tot 4) (ht i) h3.2
    have hp1 := quo_part (st := L 3) h0 (show i + 1 ≤ 4 by omega)
    have e104 := a1 i hi
    have e91 : gI M1 91 (l0 + 3) = nI (L 3) := hL1.2.2.1 3 (by decide)
    refine ⟨(sI (sI M1 105 i (nI (quo2 tot (L 3) (sumN tot 4) i))) 106 i (nI (rem2 tot (L 3) (sumN tot 4) i)), i + 1), ⟨rfl, (hF.pI (by decide)).pI (by decide), fun p hp => ?_, fun p hp => ?_, fun p hp => ?_⟩, fun k f => ?_⟩
    · show gI (sI (sI M1 105 _ _) 106 _ _) 104 p = _
      rw [gI_ne _ _ _ _ _ _ (by decide), gI_ne _ _ _ _ _ _ (by decide)]; exact a1 p hp
    · show gI (sI (sI M1 105 _ _) 106 _ _) 105 p = _
      rw [gI_ne _ _ _ _ _ _ (by decide)]
      by_cases e : p = i
      · rw [e, gI_eq]
      · rw [gI_nk _ _ _ _ _ _ e]; exact a2 p (by omega)
    · show gI (sI (sI M1 105 _ _) 106 _ _) 106 p = _
      by_cases e : p = i
      · rw [e, gI_eq]
      · rw [gI_nk _ _ _ _ _ _ e, gI_ne _ _ _ _ _ _ (by decide)]; exact a3 p (by omega)
    · show fX12_gives_l76 k (f + 1) M1 (nI (sumN tot 4)) (nI (L 3 - sumN (quo2 tot (L 3) (sumN tot 4)) i)) 1 (nI i) = fX12_gives_l76 k f (sI (sI M1 105 i (nI (quo2 tot (L 3) (sumN tot 4) i))) 106 i (nI (rem2 tot (L 3) (sumN tot 4) i))) (nI (sumN tot 4)) (nI (L 3 - sumN (quo2 tot (L 3) (sumN tot 4)) (i + 1))) 1 (nI (i + 1))
      have es : sumN (quo2 tot (L 3) (sumN tot 4)) (i + 1) = sumN (quo2 tot (L 3) (sumN tot 4)) i + quo2 tot (L 3) (sumN tot 4) i := rfl
      rw [es] at hp1 ⊢
      have eq1 : nI (tot i) * nI (L 3) / nI (sumN tot 4) = nI (quo2 tot (L 3) (sumN tot 4) i) := by
        rw [pk_mul, pk_div (by omega) h0 (by omega)]
        rfl
      have er1 : nI (tot i) * nI (L 3) - nI (quo2 tot (L 3) (sumN tot 4) i) * nI (sumN tot 4) = nI (rem2 tot (L 3) (sumN tot 4) i) := by
        rw [← eq1, pk_mul, pk_rem (by omega) h0 (by omega)]
        rfl
      rw [fX12_gives_l76.eq_2, nl4, le_f hi (by decide), if_neg i10]
      simp (disch := omega) only [hL1.1, nl3, nI_add, gd_inb, ix_nI, gd_t (nz_nI h0 (show sumN tot 4 < 2 ^ 31 by omega)), bnd_r, gI_ne, e104, e91, eq1, er1, gI_eq]
      rw [pk_sub (by omega), Nat.sub_sub, nI_1]
  · rintro ⟨M1, i2⟩ ⟨rfl, hF, a1, a2, a3⟩
    refine ⟨M1, ⟨hF, ⟨a1, a2⟩, fun p hp => ?_⟩, fun k f => ?_⟩
    · rw [a3 p hp]
      exact (m1I_s _).symm
    · show fX12_gives_l76 k (f + 1) M1 (nI (sumN tot 4)) (nI (L 3 - sumN (quo2 tot (L 3) (sumN tot 4)) 4)) 1 (nI 4) = _
      rw [fX12_gives_l76.eq_2, nl4, le_t (Nat.le_refl _) (by decide)]
      rfl
theorem all_ref {M : MM} {tot : Nat → Nat} (hT : ∀ p, p < 4 → gI M 104 p = nI (tot p)) : ∃ M2, (Fr [105, 106] M M2 ∧ TR M2 tot (fun _ => 0)) ∧ ∀ k : MM → Int32 → Option MM, fX12_gives_l8 k FU M (nI 0) (nI 0) = k M2 (nI (sumN tot 4)) := by
  have key := lpk (κ := MM → Int32 → Option MM) (σ := MM × Nat) (fun k f st => fX12_gives_l8 k f st.1 (nI (sumN tot st.2)) (nI st.2)) (fun k M2 => k M2 (nI (sumN tot 4))) 4
    (fun i st => i = st.2 ∧ Fr [105, 106] M st.1 ∧ ∀ p, p < i → gI st.1 105 p = nI 0) (fun M2 => Fr [105, 106] M M2 ∧ TR M2 tot (fun _ => 0)) ?_ ?_ FU 0 (M, 0) (by omega) (by decide) ⟨rfl, Fr.rfl, fun p hp => absurd hp (Nat.not_lt_zero p)⟩
  · exact key
  · rintro i ⟨M1, i2⟩ hi ⟨rfl, hF, a1⟩
    left
    simp only [] at hF a1
    refine ⟨(sI M1 105 i 0, i + 1), ⟨rfl, hF.pI (by decide), fun p hp => ?_⟩, fun k f => ?_⟩
    · show gI (sI M1 105 i 0) 105 p = _
      by_cases e : p = i
      · rw [e, gI_eq]; rfl
      · rw [gI_nk _ _ _ _ _ _ e]; exact a1 p (by omega)
    · show fX12_gives_l8 k (f + 1) M1 (nI (sumN tot i)) (nI i) = fX12_gives_l8 k f (sI M1 105 i 0) (nI (sumN tot i + tot i)) (nI (i + 1))
      rw [fX12_gives_l8.eq_2, nl4, le_f hi (by decide), gd_inb hi (by decide), ix_nI (by omega), bnd_r, gd_inb hi (by decide), bnd_r, hF.gi (by decide), hT i hi, nI_add, nI_1]
  · rintro ⟨M1, i2⟩ ⟨rfl, hF, a1⟩
    refine ⟨M1, ⟨hF, fun p hp => by rw [hF.gi (by decide)]; exact hT p hp, a1⟩, fun k f => ?_⟩
    show fX12_gives_l8 k (f + 1) M1 (nI (sumN tot 4)) (nI 4) = _
    rw [fX12_gives_l8.eq_2, nl4, le_t (Nat.le_refl _) (by decide)]
theorem seat_0 {tot L : Nat → Nat} {p : Nat} (z : sumN tot 4 = 0) : seatS tot L p = 0 := by unfold seatS; rw [if_pos z]
theorem seat_2 {tot L : Nat → Nat} {p : Nat} (z : 0 < sumN tot 4) (h : L 4 = 2) : seatS tot L p = quo2 tot (L 3) (sumN tot 4) p + if tk2 (rem2 tot (L 3) (sumN tot 4)) (lft2 tot (L 3) (sumN tot 4)) p then 1 else 0 := by unfold seatS; rw [if_neg (by omega), if_pos h]
theorem seat_1 {tot L : Nat → Nat} {p : Nat} (z : 0 < sumN tot 4) (h : L 4 ≠ 2) : seatS tot L p = giv01 tot (L 4) (L 3) p := by unfold seatS; rw [if_neg (by omega), if_neg h]
theorem gives_ref {M : MM} {o l0 c : Nat} {P : PARD} {S : SCN} {L : Nat → Nat} (hM : MS M o P S) (hL : ML M l0 L c) : ∃ M2, fX12_gives M = some M2 ∧ Fr [102, 103, 104, 105, 106] M M2 ∧ (∀ p, p < 4 → gI M2 104 p = nI (totS S c L p)) ∧ (∀ p, p < 4 → gI M2 105 p = nI (seatS (totS S c L) L p)) ∧ MS M2 o P S ∧ ML M2 l0 L c := by
  obtain ⟨M1, a1, a2, a3, a4, a5, a6⟩ := totals_ref hM hL
  have ht : ∀ p, totS S c L p ≤ 64 := fun p => totS_le hM.2.2.2.2.1 c L p
  generalize totS S c L = tot at *
  have hs : sumN tot 4 ≤ 256 := sumN_le (fun k _ => ht k)
  have h3 := hL.2.2.2.2.2.2.2.2.1
  have h4 := hL.2.2.2.2.2.2.2.2.2.1
  have hl := hL.2.1
  obtain ⟨M2, ⟨b1, b2⟩, b3⟩ := all_ref a4
  have hL2 : ML M2 l0 L c := ML_fr a6 b1 (by decide) (by decide)
  have hM2 : MS M2 o P S := MS_fr a5 b1 (by decide)
  have pack : ∀ M3, Fr [105, 106] M2 M3 → TR M3 tot (fun p => seatS tot L p) → Fr [102, 103, 104, 105, 106] M M3 ∧ (∀ p, p < 4 → gI M3 104 p = nI (tot p)) ∧ (∀ p, p < 4 → gI M3 105 p = nI (seatS tot L p)) ∧ MS M3 o P S ∧ ML M3 l0 L c := fun M3 hF hT => ⟨((a2.mono (by decide)).trans (b1.mono (by decide))).trans (hF.mono (by decide)), hT.1, hT.2, MS_fr hM2 hF (by decide), ML_fr hL2 hF (by decide) (by decide)⟩
  unfold fX12_gives
  rw [a1, bd_s, nl0, b3]
  rcases Nat.eq_zero_or_pos (sumN tot 4) with z | z
  · refine ⟨M2, by rw [eqn_t z], pack M2 Fr.rfl ⟨b2.1, fun p hp => (b2.2 p hp).trans (congrArg nI (seat_0 z).symm)⟩⟩
  · rw [eqn_f (by omega) (by omega) (by decide)]
    simp (disch := omega) only [hL2.1, nl3, nl4, nI_add, gd_inb, ix_nI, bnd_r]
    rw [hL2.2.2.1 3 (by decide), hL2.2.2.1 4 (by decide), nl2]
    unfold fX12_gives_j72
    by_cases cc : L 4 = 2
    · obtain ⟨M3, ⟨d1, d2, d3⟩, d4⟩ := quo_ref hL2 b2 ht z
      obtain ⟨M4, ⟨f1, f2⟩, f3⟩ := gives2_ref d2 d3 h3.2 ht z
      refine ⟨M4, ?_, pack M4 (d1.trans f1) ⟨f2.1, fun p hp => (f2.2 p hp).trans (congrArg nI (seat_2 z cc).symm)⟩⟩
      rw [eqn_t cc, nl0, d4, f3 ()]
    · obtain ⟨M3, ⟨d1, d2⟩, d3⟩ := gives01_ref hL2 cc b2 ht
      refine ⟨M3, ?_, pack M3 d1 ⟨d2.1, fun p hp => (d2.2 p hp).trans (congrArg nI (seat_1 z cc).symm)⟩⟩
      rw [eqn_f cc (by omega) (by decide)]
      show fX12_gives_l76 _ (4999 + 1) M2 _ _ _ _ = _
      rw [fX12_gives_l76.eq_2, if_neg (by decide), if_pos (show nI 0 = 0 from rfl)]
      exact d3 ()
/-! ===== party ===== -/
theorem isParty_yes {p : Nat} (hp : p < 4) : fX11_isParty (nI p) = 1 := by
  unfold fX11_isParty
  rw [if_neg (nI_pos (by omega)), nl4, le_f hp (by decide)]
theorem isParty_no {x : Int32} (h : x < 0 ∨ nI 4 ≤ x) : fX11_isParty x = 0 := by
  unfold fX11_isParty
  by_cases c : x < 0
  · rw [if_pos c]
  · rw [if_neg c, nl4, if_pos (h.resolve_left c)]
theorem isIn3_no {x : Int32} {n : Nat} (hn : n + 1 < 2 ^ 31) (h : x < 0 ∨ nI (n + 1) ≤ x) : fX12_isIn x 0 (nI n) = 0 := by
  refine isIn_f ?_
  rcases h with h | h
  · exact Or.inl h
  · rw [le_toInt hn] at h
    exact Or.inr ((gt_toInt (by omega)).mpr (by omega))
theorem isIn3_yes {k n : Nat} (hn : n < 2 ^ 31) (h : k ≤ n) : fX12_isIn (nI k) 0 (nI n) = 1 := isIn_t (nI_pos (by omega)) (nI_nlt (by omega) (by omega))
theorem e11 : E11 Inv := by
  intro K M x1 x2 x3 x4 hx4 hI
  refine pl_case (v := -1) hI (C := fX11_party M x1 x2 x3 x4) (R := fun M1 => fX12_party M1 x1 x2 x3 x4) rfl (fun _ => rfl) ?_
  intro T j l hW hC hM hB hj hl e1 e2
  rcases rng x3 (n := 4) (by decide) with h | ⟨p, hp, rfl⟩
  · refine ⟨-1, M, by rw [isParty_no h, if_pos rfl], Fr.rfl, hB, fun M3 _ hS _ => ⟨M3, ?_, Fr.rfl⟩⟩
    rw [nl3, isIn3_no (by decide) h, if_pos rfl]
  · obtain ⟨M1, a1, a2, a3, a4, -⟩ := par_beg hW hC hB hj
    have hL := CLw_fr (told_law hC hW hl) a2 (by decide)
    rw [isParty_yes hp, if_neg i10, a1, bd_s]
    by_cases h0 : x4 = 0
    · obtain ⟨M2, b1, b2, b3, b4⟩ := totals_cls a3 hL
      refine ⟨nI (totS (scnOf (tPar T j)) (tLaw T l 0) (tLaw T l) p), M2, ?_, a2.trans (b2.mono (by decide)), BN_fr a4 b2 (by decide) (by decide), fun M3 _ hS hL3 => ?_⟩
      · rw [if_pos h0, b1, bd_s, gd_inb hp (by decide), ix_nI (by omega), b3 p hp]
      · obtain ⟨M4, d1, d2, d3, d4, -⟩ := gives_ref hS hL3
        refine ⟨M4, ?_, d2.mono (by decide)⟩
        rw [nl3, isIn3_yes (by decide) (by omega), if_neg i10, d1, bd_s, if_pos h0, gd_inb hp (by decide), ix_nI (by omega), d3 p hp]
    · obtain ⟨M2, b1, b2, b3⟩ := seats_cls a3 hL hp
      refine ⟨nI (seatS (totS (scnOf (tPar T j)) (tLaw T l 0) (tLaw T l)) (tLaw T l) p), M2, ?_, a2.trans (b2.mono (by decide)), BN_fr a4 b2 (by decide) (by decide), fun M3 _ hS hL3 => ?_⟩
      · rw [if_neg h0, b1, bd_s]
      · obtain ⟨M4, d1, d2, d3, d4, -⟩ := gives_ref hS hL3
        refine ⟨M4, ?_, d2.mono (by decide)⟩
        rw [nl3, isIn3_yes (by decide) (by omega), if_neg i10, d1, bd_s, if_neg h0, gd_inb hp (by decide), ix_nI (by omega), d4 p hp]
