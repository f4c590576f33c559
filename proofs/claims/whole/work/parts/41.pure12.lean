/-! ===== seats ===== -/
/-- the best of 0 .. k by a comparison -/
def bstN (lt : Nat → Nat → Bool) : Nat → Nat
  | 0 => 0
  | k + 1 => if lt (bstN lt k) (k + 1) then k + 1 else bstN lt k
theorem bstN_le (lt : Nat → Nat → Bool) : ∀ k, bstN lt k ≤ k
  | 0 => Nat.le_refl 0
  | k + 1 => by
    have := bstN_le lt k
    rw [bstN]
    split <;> omega
def divS (way had : Nat) : Nat := if way = 1 then 2 * had + 1 else had + 1
def lt01 (tot : Nat → Nat) (way : Nat) (giv : Nat → Nat) (b p : Nat) : Bool := decide (tot b * divS way (giv p) < tot p * divS way (giv b))
/-- ways 0 and 1: behind k seats -/
def giv01 (tot : Nat → Nat) (way : Nat) : Nat → Nat → Nat
  | 0, _ => 0
  | k + 1, p => giv01 tot way k p + if bstN (lt01 tot way (giv01 tot way k)) 3 = p then 1 else 0
theorem giv01_le (tot : Nat → Nat) (way : Nat) : ∀ k p, giv01 tot way k p ≤ k
  | 0, _ => Nat.le_refl 0
  | k + 1, p => by
    have := giv01_le tot way k p
    rw [giv01]
    split <;> omega
/-- way 2: quotient, remainder, who has got one of the rest -/
def quo2 (tot : Nat → Nat) (st all p : Nat) : Nat := tot p * st / all
def rem2 (tot : Nat → Nat) (st all p : Nat) : Nat := tot p * st % all
def val2 (rem : Nat → Nat) (tk : Nat → Bool) (p : Nat) : Nat := if tk p then 0 else rem p + 1
def bst2 (rem : Nat → Nat) (tk : Nat → Bool) : Nat := bstN (fun b p => decide (val2 rem tk b < val2 rem tk p)) 3
def tk2 (rem : Nat → Nat) : Nat → Nat → Bool
  | 0, _ => false
  | k + 1, p => tk2 rem k p || decide (bst2 rem (tk2 rem k) = p)
def lft2 (tot : Nat → Nat) (st all : Nat) : Nat := st - sumN (quo2 tot st all) 4
def seatS (tot : Nat → Nat) (L : Nat → Nat) (p : Nat) : Nat :=
  if sumN tot 4 = 0 then 0 else if L 4 = 2 then quo2 tot (L 3) (sumN tot 4) p + (if tk2 (rem2 tot (L 3) (sumN tot 4)) (lft2 tot (L 3) (sumN tot 4)) p then 1 else 0) else giv01 tot (L 4) (L 3) p
theorem sum4 (f : Nat → Nat) : sumN f 4 = f 0 + f 1 + f 2 + f 3 := by
  show 0 + f 0 + f 1 + f 2 + f 3 = _
  omega
theorem lft_b {tot : Nat → Nat} {st : Nat} (h : 0 < sumN tot 4) : sumN (quo2 tot st (sumN tot 4)) 4 ≤ st ∧ lft2 tot st (sumN tot 4) ≤ 4 := by
  have d : ∀ p, tot p * st = sumN tot 4 * quo2 tot st (sumN tot 4) p + rem2 tot st (sumN tot 4) p ∧ rem2 tot st (sumN tot 4) p < sumN tot 4 := fun p => ⟨(Nat.div_add_mod _ _).symm, Nat.mod_lt _ h⟩
  obtain ⟨d0, f0⟩ := d 0
  obtain ⟨d1, f1⟩ := d 1
  obtain ⟨d2, f2⟩ := d 2
  obtain ⟨d3, f3⟩ := d 3
  have e : sumN tot 4 * st = sumN tot 4 * sumN (quo2 tot st (sumN tot 4)) 4 + (rem2 tot st (sumN tot 4) 0 + rem2 tot st (sumN tot 4) 1 + rem2 tot st (sumN tot 4) 2 + rem2 tot st (sumN tot 4) 3) := by
    have e1 : sumN tot 4 * st = tot 0 * st + tot 1 * st + tot 2 * st + tot 3 * st := by rw [sum4, Nat.add_mul, Nat.add_mul, Nat.add_mul]
    rw [e1, d0, d1, d2, d3, sum4 (quo2 tot st (sumN tot 4)), Nat.mul_add, Nat.mul_add, Nat.mul_add]
    omega
  have h1 : sumN (quo2 tot st (sumN tot 4)) 4 ≤ st := by
    refine Nat.le_of_mul_le_mul_left (c := sumN tot 4) ?_ h
    omega
  refine ⟨h1, ?_⟩
  unfold lft2
  have h2 : sumN tot 4 * (st - sumN (quo2 tot st (sumN tot 4)) 4) < sumN tot 4 * 4 := by
    rw [Nat.mul_sub]
    omega
  have := Nat.lt_of_mul_lt_mul_left h2
  omega
theorem quo_part {tot : Nat → Nat} {st : Nat} (h : 0 < sumN tot 4) {k : Nat} (hk : k ≤ 4) : sumN (quo2 tot st (sumN tot 4)) k ≤ st := by
  have h1 := (lft_b (st := st) h).1
  rw [sum4] at h1
  rcases (show k = 0 ∨ k = 1 ∨ k = 2 ∨ k = 3 ∨ k = 4 by omega) with rfl | rfl | rfl | rfl | rfl
  · show 0 ≤ st; omega
  · show 0 + quo2 tot st (sumN tot 4) 0 ≤ st; omega
  · show 0 + quo2 tot st (sumN tot 4) 0 + quo2 tot st (sumN tot 4) 1 ≤ st; omega
  · show 0 + quo2 tot st (sumN tot 4) 0 + quo2 tot st (sumN tot 4) 1 + quo2 tot st (sumN tot 4) 2 ≤ st; omega
  · rw [sum4]; exact h1
/-- as long as fewer than four have got one, the best has not -/
theorem bst_max (v : Nat → Nat) : ∀ k p, p ≤ k → v p ≤ v (bstN (fun b p => decide (v b < v p)) k)
  | 0, p, hp => by rw [show p = 0 by omega]; exact Nat.le_refl _
  | k + 1, p, hp => by
    have ih := bst_max v k
    rw [bstN]
    by_cases c : v (bstN (fun b p => decide (v b < v p)) k) < v (k + 1)
    · rw [if_pos (by exact decide_eq_true c)]
      by_cases e : p = k + 1
      · rw [e]; exact Nat.le_refl _
      · have := ih p (by omega)
        omega
    · rw [if_neg (by rw [decide_eq_false c]; decide)]
      by_cases e : p = k + 1
      · rw [e]; omega
      · exact ih p (by omega)
theorem tk_cnt (rem : Nat → Nat) : ∀ k, cntN (tk2 rem k) 4 ≤ k
  | 0 => by
    have : cntN (tk2 rem 0) 4 = 0 := cntN_tail (n := 0) (by omega) (fun _ _ _ => rfl)
    omega
  | k + 1 => by
    have ih := tk_cnt rem k
    have hb : bst2 rem (tk2 rem k) ≤ 3 := bstN_le _ 3
    have key : ∀ N b, cntN (fun p => tk2 rem k p || decide (b = p)) N ≤ cntN (tk2 rem k) N + if b < N then 1 else 0 := by
      intro N b
      induction N with
      | zero => exact Nat.zero_le _
      | succ N ih2 =>
        rw [cntN, cntN]
        by_cases e : b = N
        · subst e
          rw [decide_eq_true rfl, Bool.or_true, if_pos rfl, if_pos (show b < b + 1 by omega)]
          rw [if_neg (Nat.lt_irrefl b)] at ih2
          omega
        · rw [decide_eq_false e, Bool.or_false]
          by_cases c : b < N
          · rw [if_pos c] at ih2
            rw [if_pos (show b < N + 1 by omega)]
            omega
          · rw [if_neg c] at ih2
            rw [if_neg (show ¬ b < N + 1 by omega)]
            omega
    have := key 4 (bst2 rem (tk2 rem k))
    rw [if_pos (by omega)] at this
    show cntN (fun p => tk2 rem k p || decide (bst2 rem (tk2 rem k) = p)) 4 ≤ k + 1
    omega
theorem bst_free {rem : Nat → Nat} {k : Nat} (hk : k < 4) : tk2 rem k (bst2 rem (tk2 rem k)) = false := by
  cases h : tk2 rem k (bst2 rem (tk2 rem k)) with
  | false => rfl
  | true =>
    exfalso
    have all : ∀ p, p < 4 → tk2 rem k p = true := fun p hp => by
      cases z : tk2 rem k p with
      | true => rfl
      | false =>
        have := bst_max (val2 rem (tk2 rem k)) 3 p (by omega)
        have e1 : val2 rem (tk2 rem k) p = rem p + 1 := by unfold val2; rw [z, if_neg (by decide)]
        have e2 : val2 rem (tk2 rem k) (bst2 rem (tk2 rem k)) = 0 := by unfold val2; rw [h, if_pos rfl]
        have e3 : val2 rem (tk2 rem k) (bstN (fun b p => decide (val2 rem (tk2 rem k) b < val2 rem (tk2 rem k) p)) 3) = 0 := e2
        omega
    have h1 := tk_cnt rem k
    have h2 : cntN (tk2 rem k) 4 = cntN (fun _ => true) 4 := cntN_cong (fun s hs => all s hs)
    have h3 : cntN (fun _ => true) 4 = 4 := rfl
    omega
/-! the class -/
/-- totals and what is given, of the class -/
def TG (M : MM) (tot giv : Nat → Nat) : Prop := (∀ p, p < 4 → gI M 71 p = nI (tot p)) ∧ ∀ p, p < 4 → gI M 72 p = nI (giv p)
theorem div_cls {M : MM} {a : Nat} {L : Nat → Nat} (hL : CLw M a L) (g : Nat) : fX4_divisor M a (nI g) = nI (divS (L 4) g) := by
  have h4 := hL.2.1.2.2.2.2.1
  unfold fX4_divisor divS
  rw [hL.2.2 4 (by decide), nl1]
  by_cases c : L 4 = 1
  · rw [eqn_t c, if_pos c, nl2, pk_mul, nI_add]
  · rw [eqn_f c (by omega) (by decide), if_neg c, nI_add]
theorem mul_lt31 {a b : Nat} (ha : a ≤ 64) (hb : b ≤ 100) : a * b < 2 ^ 31 := by
  have := Nat.mul_le_mul ha hb
  omega
theorem divS_le {w g : Nat} (h : g ≤ 20) : divS w g ≤ 41 := by
  unfold divS
  split <;> omega
theorem next_cls {M : MM} {a : Nat} {L : Nat → Nat} {tot giv : Nat → Nat} (hL : CLw M a L) (hT : TG M tot giv) (ht : ∀ p, tot p ≤ 64) (hg : ∀ p, giv p ≤ 20) : fX4_nextParty M a = some (nI (bstN (lt01 tot (L 4) giv) 3)) := by
  have key := lpk (κ := Unit) (σ := Nat × Nat) (fun _ f st => fX4_nextParty_l5 M a f (nI st.2) (nI (st.1 + 1))) (fun _ v => some (nI v)) 3
    (fun i st => i = st.1 ∧ st.2 = bstN (lt01 tot (L 4) giv) i) (fun v => v = bstN (lt01 tot (L 4) giv) 3) ?_ ?_ FU 0 (0, 0) (by omega) (by decide) ⟨rfl, rfl⟩
  · obtain ⟨v, e, h⟩ := key
    rw [e] at h
    exact h ()
  · rintro i ⟨i2, b⟩ hi ⟨rfl, hb⟩
    left
    simp only [] at hb
    have hle := bstN_le (lt01 tot (L 4) giv) i
    rw [← hb] at hle
    refine ⟨(i + 1, bstN (lt01 tot (L 4) giv) (i + 1)), ⟨rfl, rfl⟩, fun _ f => ?_⟩
    show fX4_nextParty_l5 M a (f + 1) (nI b) (nI (i + 1)) = fX4_nextParty_l5 M a f (nI (bstN (lt01 tot (L 4) giv) (i + 1))) (nI (i + 1 + 1))
    have m1 := mul_lt31 (ht (i + 1)) (Nat.le_trans (divS_le (w := L 4) (hg b)) (by decide : 41 ≤ 100))
    have m2 := mul_lt31 (ht b) (Nat.le_trans (divS_le (w := L 4) (hg (i + 1))) (by decide : 41 ≤ 100))
    rw [fX4_nextParty_l5.eq_2, nl4, le_f (show i + 1 < 4 by omega) (by decide)]
    simp (disch := omega) only [gd_inb, ix_nI]
    rw [hT.1 (i + 1) (by omega), hT.1 b (by omega), hT.2 (i + 1) (by omega), hT.2 b (by omega), div_cls hL, div_cls hL, pk_mul, pk_mul, bstN, ← hb]
    unfold lt01
    by_cases c : tot b * divS (L 4) (giv (i + 1)) < tot (i + 1) * divS (L 4) (giv b)
    · rw [le_f c m1, decide_eq_true c, if_pos rfl, nI_1]
    · rw [le_t (by omega) m2, decide_eq_false c, if_neg (by decide), nI_1]
  · rintro ⟨i2, b⟩ ⟨rfl, hb⟩
    refine ⟨b, hb, fun _ f => ?_⟩
    show fX4_nextParty_l5 M a (f + 1) (nI b) (nI (3 + 1)) = _
    rw [fX4_nextParty_l5.eq_2, nl4, le_t (Nat.le_refl _) (by decide)]
theorem share01_cls {M : MM} {a : Nat} {L : Nat → Nat} {tot : Nat → Nat} (hL : CLw M a L) (hT : TG M tot (fun _ => 0)) (ht : ∀ p, tot p ≤ 64) : ∃ M2, (Fr [72] M M2 ∧ TG M2 tot (giv01 tot (L 4) (L 3))) ∧ ∀ _k : Unit, fX4_share_l54 a FU M (nI 0) = some M2 := by
  have h3 := hL.2.1.2.2.2.1
  refine lpk (κ := Unit) (σ := MM × Nat) (fun _ f st => fX4_share_l54 a f st.1 (nI st.2)) (fun _ M2 => some M2) (L 3)
    (fun k st => k = st.2 ∧ Fr [72] M st.1 ∧ TG st.1 tot (giv01 tot (L 4) k)) _ ?_ ?_ FU 0 (M, 0) (by omega) (by show _ < 5000; omega) ⟨rfl, Fr.rfl, hT⟩
  · rintro k ⟨M1, k2⟩ hk ⟨rfl, hF, a1⟩
    left
    simp only [] at hF a1
    have hL1 : CLw M1 a L := CLw_fr hL hF (by decide)
    have e1 := next_cls hL1 a1 ht (fun p => Nat.le_trans (giv01_le tot (L 4) k p) (by omega))
    have hb : bstN (lt01 tot (L 4) (giv01 tot (L 4) k)) 3 ≤ 3 := bstN_le _ 3
    refine ⟨(sI M1 72 (bstN (lt01 tot (L 4) (giv01 tot (L 4) k)) 3) (gI M1 72 (bstN (lt01 tot (L 4) (giv01 tot (L 4) k)) 3) + nI 1), k + 1), ⟨rfl, hF.pI (by decide), fun p hp => ?_, fun p hp => ?_⟩, fun _ f => ?_⟩
    · show gI (sI M1 72 _ _) 71 p = _
      rw [gI_ne _ _ _ _ _ _ (by decide)]; exact a1.1 p hp
    · exact add_one 72 p _ 1 (giv01 tot (L 4) k) M1 (a1.2 p hp)
    · show fX4_share_l54 a (f + 1) M1 (nI k) = fX4_share_l54 a f _ (nI (k + 1))
      rw [fX4_share_l54.eq_2, hL1.2.2 3 (by decide), le_f hk (by omega), e1, bd_s, gd_inb (by omega) (by decide), gd_inb (by omega) (by decide), ix_nI (by omega), bnd_r, nI_1]
      rfl
  · rintro ⟨M1, k2⟩ ⟨rfl, hF, a1⟩
    refine ⟨M1, ⟨hF, a1⟩, fun _ f => ?_⟩
    simp only [] at hF
    show fX4_share_l54 a (f + 1) M1 (nI (L 3)) = _
    rw [fX4_share_l54.eq_2, (CLw_fr hL hF (by decide)).2.2 3 (by decide), le_t (Nat.le_refl _) (by omega)]
theorem quo_le {tot : Nat → Nat} {st all p : Nat} (ht : tot p ≤ 64) (hs : st ≤ 20) : tot p * st ≤ 1280 ∧ quo2 tot st all p ≤ 1280 ∧ rem2 tot st all p ≤ 1280 := by
  have h := Nat.mul_le_mul ht hs
  refine ⟨h, ?_, ?_⟩
  · exact Nat.le_trans (Nat.div_le_self _ _) h
  · exact Nat.le_trans (Nat.mod_le _ _) h
/-- way 2, first: the quotients -/
theorem quo_cls {M : MM} {a : Nat} {L : Nat → Nat} {tot : Nat → Nat} (hL : CLw M a L) (hT : TG M tot (fun _ => 0)) (ht : ∀ p, tot p ≤ 64) (h0 : 0 < sumN tot 4) : ∃ M2, (Fr [72] M M2 ∧ TG M2 tot (quo2 tot (L 3) (sumN tot 4))) ∧ ∀ k : MM → Int32 → Int32 → Option MM, fX4_shareByRemainders_l15 a k FU M (nI (sumN tot 4)) (nI (L 3)) (nI 0) = k M2 (nI (sumN tot 4)) (nI (lft2 tot (L 3) (sumN tot 4))) := by
  have h3 := hL.2.1.2.2.2.1
  have hs : sumN tot 4 ≤ 256 := sumN_le (fun k _ => ht k)
  have key := lpk (κ := MM → Int32 → Int32 → Option MM) (σ := MM × Nat) (fun k f st => fX4_shareByRemainders_l15 a k f st.1 (nI (sumN tot 4)) (nI (L 3 - sumN (quo2 tot (L 3) (sumN tot 4)) st.2)) (nI st.2)) (fun k M2 => k M2 (nI (sumN tot 4)) (nI (lft2 tot (L 3) (sumN tot 4)))) 4
    (fun i st => i = st.2 ∧ Fr [72] M st.1 ∧ TG st.1 tot (fun p => if p < i then quo2 tot (L 3) (sumN tot 4) p else 0)) (fun M2 => Fr [72] M M2 ∧ TG M2 tot (quo2 tot (L 3) (sumN tot 4))) ?_ ?_ FU 0 (M, 0) (by omega) (by decide) ⟨rfl, Fr.rfl, hT.1, fun p hp => (hT.2 p hp).trans (congrArg nI (if_neg (Nat.not_lt_zero p)).symm)⟩
  · exact key
  · rintro i ⟨M1, i2⟩ hi ⟨rfl, hF, a1, a2⟩
    left
    simp only [] at hF a1 a2
    have hL1 : CLw M1 a L := CLw_fr hL hF (by decide)
    obtain ⟨q1, q2, q3⟩ := quo_le (all := sumN tot 4) (ht i) h3.2
    have hp1 := quo_part (st := L 3) h0 (show i + 1 ≤ 4 by omega)
    have ev : gI M1 71 i * gI M1 a 3 / nI (sumN tot 4) = nI (quo2 tot (L 3) (sumN tot 4) i) := by
      rw [a1 i hi, hL1.2.2 3 (by decide), pk_mul, pk_div (by omega) h0 (by omega)]
      rfl
    refine ⟨(sI M1 72 i (nI (quo2 tot (L 3) (sumN tot 4) i)), i + 1), ⟨rfl, hF.pI (by decide), fun p hp => ?_, fun p hp => ?_⟩, fun k f => ?_⟩
    · show gI (sI M1 72 _ _) 71 p = _
      rw [gI_ne _ _ _ _ _ _ (by decide)]; exact a1 p hp
    · show gI (sI M1 72 _ _) 72 p = nI (if p < i + 1 then quo2 tot (L 3) (sumN tot 4) p else 0)
      by_cases e : p = i
      · rw [e, gI_eq, if_pos (by omega)]
      · rw [gI_nk _ _ _ _ _ _ e, a2 p hp]
        by_cases c : p < i
        · rw [if_pos c, if_pos (by omega)]
        · rw [if_neg c, if_neg (by omega)]
    · show fX4_shareByRemainders_l15 a k (f + 1) M1 (nI (sumN tot 4)) (nI (L 3 - sumN (quo2 tot (L 3) (sumN tot 4)) i)) (nI i) = fX4_shareByRemainders_l15 a k f (sI M1 72 i (nI (quo2 tot (L 3) (sumN tot 4) i))) (nI (sumN tot 4)) (nI (L 3 - sumN (quo2 tot (L 3) (sumN tot 4)) (i + 1))) (nI (i + 1))
      rw [fX4_shareByRemainders_l15.eq_2, nl4, le_f hi (by decide), gd_inb hi (by decide), gd_t (nz_nI h0 (by omega)), gd_inb hi (by decide), ix_nI (by omega), ev, bnd_r, gd_inb hi (by decide), bnd_r, gI_eq]
      have es : sumN (quo2 tot (L 3) (sumN tot 4)) (i + 1) = sumN (quo2 tot (L 3) (sumN tot 4)) i + quo2 tot (L 3) (sumN tot 4) i := rfl
      rw [es] at hp1 ⊢
      rw [pk_sub (by omega), Nat.sub_sub, nI_1]
  · rintro ⟨M1, i2⟩ ⟨rfl, hF, a1, a2⟩
    refine ⟨M1, ⟨hF, a1, fun p hp => (a2 p hp).trans (congrArg nI (if_pos hp))⟩, fun k f => ?_⟩
    show fX4_shareByRemainders_l15 a k (f + 1) M1 (nI (sumN tot 4)) (nI (L 3 - sumN (quo2 tot (L 3) (sumN tot 4)) 4)) (nI 4) = _
    rw [fX4_shareByRemainders_l15.eq_2, nl4, le_t (Nat.le_refl _) (by decide)]
    rfl
/-- the greatest so far, less 1; -1 for none -/
def m1I (v : Nat) : Int32 := nI v - 1
theorem m1I_s (v : Nat) : m1I (v + 1) = nI v := by unfold m1I; rw [nl1, pk_sub (by omega)]; rfl
theorem m1I_0 : m1I 0 = -1 := rfl
/-- the best among 0 .. i - 1, for a value that is 0 where there is none: the number and 1, 0 for none -/
def cb2 (v : Nat → Nat) : Nat → Nat
  | 0 => 0
  | i + 1 => if v i ≤ (if cb2 v i = 0 then 0 else v (cb2 v i - 1)) then cb2 v i else i + 1
theorem cb2_le (v : Nat → Nat) : ∀ i, cb2 v i ≤ i
  | 0 => Nat.le_refl 0
  | i + 1 => by
    have := cb2_le v i
    rw [cb2]
    by_cases c : v i ≤ (if cb2 v i = 0 then 0 else v (cb2 v i - 1))
    · rw [if_pos c]; omega
    · rw [if_neg c]; omega
theorem cb2_b (v : Nat → Nat) : ∀ i, (cb2 v (i + 1) = 0 ∧ ∀ p, p ≤ i → v p = 0) ∨ cb2 v (i + 1) = bstN (fun b p => decide (v b < v p)) i + 1
  | 0 => by
    rw [cb2, cb2, if_pos rfl]
    by_cases c : v 0 ≤ 0
    · rw [if_pos c]
      exact Or.inl ⟨rfl, fun p hp => by rw [show p = 0 by omega]; omega⟩
    · rw [if_neg c]
      exact Or.inr rfl
  | i + 1 => by
    rw [cb2, bstN]
    rcases cb2_b v i with ⟨a, b⟩ | a
    · rw [a, if_pos rfl]
      have hz : v (bstN (fun b p => decide (v b < v p)) i) = 0 := b _ (bstN_le _ i)
      by_cases c : v (i + 1) ≤ 0
      · rw [if_pos c]
        refine Or.inl ⟨rfl, fun p hp => ?_⟩
        by_cases e : p = i + 1
        · rw [e]; omega
        · exact b p (by omega)
      · rw [if_neg c, hz, decide_eq_true (by omega), if_pos rfl]
        exact Or.inr rfl
    · rw [a, if_neg (show ¬ bstN (fun b p => decide (v b < v p)) i + 1 = 0 by omega), Nat.add_sub_cancel]
      by_cases c : v (i + 1) ≤ v (bstN (fun b p => decide (v b < v p)) i)
      · rw [if_pos c, decide_eq_false (by omega), if_neg (by decide)]
        exact Or.inr rfl
      · rw [if_neg c, decide_eq_true (by omega), if_pos rfl]
        exact Or.inr rfl
/-- a mask of those who have got one -/
def MK (m : Nat) (tk : Nat → Bool) : Prop := m < 16 ∧ ∀ p, p < 4 → m.testBit p = tk p
theorem best_cls {M : MM} {a m : Nat} {L : Nat → Nat} {tot giv : Nat → Nat} {tk : Nat → Bool} (hL : CLw M a L) (hT : TG M tot giv) (ht : ∀ p, tot p ≤ 64) (h0 : 0 < sumN tot 4) (hm : MK m tk) (y31 y33 : Int32) (k : MM → Int32 → Int32 → Int32 → Int32 → Int32 → Option MM) :
    fX4_shareByRemainders_l73 a k FU M (nI (sumN tot 4)) y31 (nI m) y33 (-1) (-1) (nI 0) = k M (nI (sumN tot 4)) y31 (nI m) y33 (m1I (cb2 (val2 (rem2 tot (L 3) (sumN tot 4)) tk) 4)) := by
  have h3 := hL.2.1.2.2.2.1
  have hs : sumN tot 4 ≤ 256 := sumN_le (fun k _ => ht k)
  have key := lpk (κ := Unit) (σ := Nat) (fun _ f i => fX4_shareByRemainders_l73 a k f M (nI (sumN tot 4)) y31 (nI m) y33 (m1I (cb2 (val2 (rem2 tot (L 3) (sumN tot 4)) tk) i)) (m1I (if cb2 (val2 (rem2 tot (L 3) (sumN tot 4)) tk) i = 0 then 0 else val2 (rem2 tot (L 3) (sumN tot 4)) tk (cb2 (val2 (rem2 tot (L 3) (sumN tot 4)) tk) i - 1))) (nI i)) (fun _ (_ : Unit) => k M (nI (sumN tot 4)) y31 (nI m) y33 (m1I (cb2 (val2 (rem2 tot (L 3) (sumN tot 4)) tk) 4))) 4
    (fun i st => i = st) (fun _ => True) ?_ ?_ FU 0 0 (by omega) (by decide) rfl
  · obtain ⟨v, -, h⟩ := key
    exact h ()
  · rintro i i2 hi rfl
    left
    obtain ⟨q1, q2, q3⟩ := quo_le (all := sumN tot 4) (ht i) h3.2
    have ev : gI M 71 i * gI M a 3 - gI M 71 i * gI M a 3 / nI (sumN tot 4) * nI (sumN tot 4) = nI (rem2 tot (L 3) (sumN tot 4) i) := by
      rw [hT.1 i hi, hL.2.2 3 (by decide), pk_mul, pk_rem (by omega) h0 (by omega)]
      rfl
    have hle := cb2_le (val2 (rem2 tot (L 3) (sumN tot 4)) tk) i
    have hvb : ∀ p, p < 4 → val2 (rem2 tot (L 3) (sumN tot 4)) tk p ≤ 1281 := fun p _ => by
      have := (quo_le (all := sumN tot 4) (ht p) h3.2).2.2
      unfold val2
      split <;> omega
    refine ⟨i + 1, rfl, fun _ f => ?_⟩
    show fX4_shareByRemainders_l73 a k (f + 1) M (nI (sumN tot 4)) y31 (nI m) y33 (m1I (cb2 (val2 (rem2 tot (L 3) (sumN tot 4)) tk) i)) (m1I (if cb2 (val2 (rem2 tot (L 3) (sumN tot 4)) tk) i = 0 then 0 else val2 (rem2 tot (L 3) (sumN tot 4)) tk (cb2 (val2 (rem2 tot (L 3) (sumN tot 4)) tk) i - 1))) (nI i) = fX4_shareByRemainders_l73 a k f M (nI (sumN tot 4)) y31 (nI m) y33 (m1I (cb2 (val2 (rem2 tot (L 3) (sumN tot 4)) tk) (i + 1))) (m1I (if cb2 (val2 (rem2 tot (L 3) (sumN tot 4)) tk) (i + 1) = 0 then 0 else val2 (rem2 tot (L 3) (sumN tot 4)) tk (cb2 (val2 (rem2 tot (L 3) (sumN tot 4)) tk) (i + 1) - 1))) (nI (i + 1))
    rw [fX4_shareByRemainders_l73.eq_2, nl4, le_f hi (by decide), gd_inb hi (by decide), gd_t (nz_nI h0 (by omega)), bnd_r, ix_nI (by omega), ev]
    have hbit : ∀ {α : Type} (x y : α), (if jshr (nI m) (nI i) &&& 1 = 0 then x else y) = if tk i then y else x := fun x y => by
      rw [shr_nI (by have := hm.1; omega) (by omega), and1_nI, ← hm.2 i hi, tb_div]
      rcases (show m / 2 ^ i % 2 = 0 ∨ m / 2 ^ i % 2 = 1 by omega) with z | z
      · rw [z, if_pos (by rfl), if_neg (by decide)]
      · rw [z, if_neg (by decide), if_pos (by decide)]
    rw [hbit]
    have hcase : ∀ w, (w = if cb2 (val2 (rem2 tot (L 3) (sumN tot 4)) tk) i = 0 then 0 else val2 (rem2 tot (L 3) (sumN tot 4)) tk (cb2 (val2 (rem2 tot (L 3) (sumN tot 4)) tk) i - 1)) → w ≤ 1281 := fun w hw => by
      rw [hw]
      split
      · omega
      · exact hvb _ (by omega)
    rw [cb2]
    cases htk : tk i with
    | true =>
      have ez : val2 (rem2 tot (L 3) (sumN tot 4)) tk i = 0 := by unfold val2; rw [htk, if_pos rfl]
      rw [ez, if_pos rfl, if_pos (Nat.zero_le _), nI_1]
    | false =>
      have ez : val2 (rem2 tot (L 3) (sumN tot 4)) tk i = rem2 tot (L 3) (sumN tot 4) i + 1 := by unfold val2; rw [htk, if_neg (by decide)]
      rw [if_neg (show ¬ false = true by decide)]
      generalize hw : (if cb2 (val2 (rem2 tot (L 3) (sumN tot 4)) tk) i = 0 then 0 else val2 (rem2 tot (L 3) (sumN tot 4)) tk (cb2 (val2 (rem2 tot (L 3) (sumN tot 4)) tk) i - 1)) = w
      have hwl := hcase w hw.symm
      have cmp : nI (rem2 tot (L 3) (sumN tot 4) i) ≤ m1I w ↔ rem2 tot (L 3) (sumN tot 4) i + 1 ≤ w := by
        rw [Int32.le_iff_toInt_le, nI_toInt (by omega)]
        unfold m1I
        rw [sub1_toInt (by omega)]
        omega
      rw [ez]
      by_cases c : rem2 tot (L 3) (sumN tot 4) i + 1 ≤ w
      · rw [if_pos (cmp.mpr c), if_pos c, hw, nI_1]
      · rw [if_neg (fun z => c (cmp.mp z)), if_neg c, if_neg (by omega), m1I_s, Nat.add_sub_cancel, ez, m1I_s, nI_1]
  · rintro i rfl
    refine ⟨(), trivial, fun _ f => ?_⟩
    show fX4_shareByRemainders_l73 a k (f + 1) M (nI (sumN tot 4)) y31 (nI m) y33 _ _ (nI 4) = _
    rw [fX4_shareByRemainders_l73.eq_2, nl4, le_t (Nat.le_refl _) (by decide)]
theorem share2_cls {M : MM} {a : Nat} {L : Nat → Nat} {tot : Nat → Nat} (hL : CLw M a L) (hT : TG M tot (quo2 tot (L 3) (sumN tot 4))) (ht : ∀ p, tot p ≤ 64) (h0 : 0 < sumN tot 4) : ∃ M2, (Fr [72] M M2 ∧ TG M2 tot (fun p => quo2 tot (L 3) (sumN tot 4) p + if tk2 (rem2 tot (L 3) (sumN tot 4)) (lft2 tot (L 3) (sumN tot 4)) p then 1 else 0)) ∧ ∀ _k : Unit, fX4_shareByRemainders_l57 a FU M (nI (sumN tot 4)) (nI (lft2 tot (L 3) (sumN tot 4))) (nI 0) (nI 0) = some M2 := by
  have h3 := hL.2.1.2.2.2.1
  have hs : sumN tot 4 ≤ 256 := sumN_le (fun k _ => ht k)
  have hlf := (lft_b (st := L 3) h0).2
  refine lpk (κ := Unit) (σ := MM × Nat × Nat) (fun _ f st => fX4_shareByRemainders_l57 a f st.1 (nI (sumN tot 4)) (nI (lft2 tot (L 3) (sumN tot 4))) (nI st.2.1) (nI st.2.2)) (fun _ M2 => some M2) (lft2 tot (L 3) (sumN tot 4))
    (fun k st => k = st.2.2 ∧ Fr [72] M st.1 ∧ MK st.2.1 (tk2 (rem2 tot (L 3) (sumN tot 4)) k) ∧ TG st.1 tot (fun p => quo2 tot (L 3) (sumN tot 4) p + if tk2 (rem2 tot (L 3) (sumN tot 4)) k p then 1 else 0)) _ ?_ ?_ FU 0 (M, 0, 0) (by omega) (by show _ < 5000; omega) ⟨rfl, Fr.rfl, ⟨show (0 : Nat) < 16 by decide, fun p _ => tb_0 p⟩, hT⟩
  · rintro k ⟨M1, m, k2⟩ hk ⟨rfl, hF, hm, a1⟩
    left
    simp only [] at hF hm a1
    have hL1 : CLw M1 a L := CLw_fr hL hF (by decide)
    have e1 := best_cls hL1 a1 ht h0 hm (nI (lft2 tot (L 3) (sumN tot 4))) (nI k)
    have hfree := bst_free (rem := rem2 tot (L 3) (sumN tot 4)) (k := k) (by omega)
    have hb3 : bst2 (rem2 tot (L 3) (sumN tot 4)) (tk2 (rem2 tot (L 3) (sumN tot 4)) k) ≤ 3 := bstN_le _ 3
    have ecb : cb2 (val2 (rem2 tot (L 3) (sumN tot 4)) (tk2 (rem2 tot (L 3) (sumN tot 4)) k)) 4 = bst2 (rem2 tot (L 3) (sumN tot 4)) (tk2 (rem2 tot (L 3) (sumN tot 4)) k) + 1 := by
      rcases cb2_b (val2 (rem2 tot (L 3) (sumN tot 4)) (tk2 (rem2 tot (L 3) (sumN tot 4)) k)) 3 with ⟨-, z⟩ | z
      · have := z _ hb3
        unfold val2 at this
        rw [hfree, if_neg (by decide)] at this
        omega
      · exact z
    generalize hbb : bst2 (rem2 tot (L 3) (sumN tot 4)) (tk2 (rem2 tot (L 3) (sumN tot 4)) k) = b at *
    refine ⟨(sI M1 72 b (gI M1 72 b + nI 1), m ||| 2 ^ b, k + 1), ⟨rfl, hF.pI (by decide), ⟨Nat.or_lt_two_pow (n := 4) hm.1 (Nat.pow_lt_pow_right (n := 4) (by decide) (by omega)), fun p hp => ?_⟩, fun p hp => ?_, fun p hp => ?_⟩, fun _ f => ?_⟩
    · show (m ||| 2 ^ b).testBit p = _
      rw [tb_or, tb_pow, hm.2 p hp, tk2, hbb]
    · show gI (sI M1 72 _ _) 71 p = _
      rw [gI_ne _ _ _ _ _ _ (by decide)]; exact a1.1 p hp
    · have := add_one 72 p b 1 (fun p => quo2 tot (L 3) (sumN tot 4) p + if tk2 (rem2 tot (L 3) (sumN tot 4)) k p then 1 else 0) M1 (a1.2 p hp)
      show gI (sI M1 72 b (gI M1 72 b + nI 1)) 72 p = _
      rw [this]
      congr 1
      simp only []
      rw [tk2, hbb, Nat.add_assoc]
      congr 1
      by_cases e : b = p
      · rw [e] at hfree
        rw [hfree, if_neg (by decide), if_pos e, decide_eq_true e, Bool.or_true, if_pos rfl]
      · rw [if_neg e, decide_eq_false e, Bool.or_false, Nat.add_zero]
    · show fX4_shareByRemainders_l57 a (f + 1) M1 (nI (sumN tot 4)) (nI (lft2 tot (L 3) (sumN tot 4))) (nI m) (nI k) = fX4_shareByRemainders_l57 a f (sI M1 72 b (gI M1 72 b + nI 1)) (nI (sumN tot 4)) (nI (lft2 tot (L 3) (sumN tot 4))) (nI (m ||| 2 ^ b)) (nI (k + 1))
      rw [fX4_shareByRemainders_l57.eq_2, le_f hk (by omega), nl0, e1, ecb, m1I_s, m1_iff (by omega), gd_inb (by omega) (by decide), gd_inb (by omega) (by decide), ix_nI (by omega), bnd_r, bnd_r, shl_nI (by omega), or_nI, nI_1]
      rfl
  · rintro ⟨M1, m, k2⟩ ⟨rfl, hF, hm, a1⟩
    refine ⟨M1, ⟨hF, a1⟩, fun _ f => ?_⟩
    show fX4_shareByRemainders_l57 a (f + 1) M1 (nI (sumN tot 4)) (nI (lft2 tot (L 3) (sumN tot 4))) (nI m) (nI (lft2 tot (L 3) (sumN tot 4))) = _
    rw [fX4_shareByRemainders_l57.eq_2, le_t (Nat.le_refl _) (by omega)]
theorem share_all {M : MM} {a : Nat} {tot : Nat → Nat} (hT : ∀ p, p < 4 → gI M 71 p = nI (tot p)) : ∃ M2, (Fr [72] M M2 ∧ TG M2 tot (fun _ => 0)) ∧ ∀ k : MM → Int32 → Option MM, fX4_share_l5 a k FU M (nI 0) (nI 0) = k M2 (nI (sumN tot 4)) := by
  have key := lpk (κ := MM → Int32 → Option MM) (σ := MM × Nat) (fun k f st => fX4_share_l5 a k f st.1 (nI (sumN tot st.2)) (nI st.2)) (fun k M2 => k M2 (nI (sumN tot 4))) 4
    (fun i st => i = st.2 ∧ Fr [72] M st.1 ∧ ∀ p, p < i → gI st.1 72 p = nI 0) (fun M2 => Fr [72] M M2 ∧ TG M2 tot (fun _ => 0)) ?_ ?_ FU 0 (M, 0) (by omega) (by decide) ⟨rfl, Fr.rfl, fun p hp => absurd hp (Nat.not_lt_zero p)⟩
  · exact key
  · rintro i ⟨M1, i2⟩ hi ⟨rfl, hF, a1⟩
    left
    simp only [] at hF a1
    refine ⟨(sI M1 72 i 0, i + 1), ⟨rfl, hF.pI (by decide), fun p hp => ?_⟩, fun k f => ?_⟩
    · show gI (sI M1 72 i 0) 72 p = _
      by_cases e : p = i
      · rw [e, gI_eq]; rfl
      · rw [gI_nk _ _ _ _ _ _ e]; exact a1 p (by omega)
    · show fX4_share_l5 a k (f + 1) M1 (nI (sumN tot i)) (nI i) = fX4_share_l5 a k f (sI M1 72 i 0) (nI (sumN tot i + tot i)) (nI (i + 1))
      rw [fX4_share_l5.eq_2, nl4, le_f hi (by decide), gd_inb hi (by decide), ix_nI (by omega), bnd_r, gd_inb hi (by decide), bnd_r, hF.gi (by decide), hT i hi, nI_add, nI_1]
  · rintro ⟨M1, i2⟩ ⟨rfl, hF, a1⟩
    refine ⟨M1, ⟨hF, fun p hp => by rw [hF.gi (by decide)]; exact hT p hp, a1⟩, fun k f => ?_⟩
    show fX4_share_l5 a k (f + 1) M1 (nI (sumN tot 4)) (nI 4) = _
    rw [fX4_share_l5.eq_2, nl4, le_t (Nat.le_refl _) (by decide)]
theorem share_cls {M : MM} {a : Nat} {L : Nat → Nat} {tot : Nat → Nat} (hL : CLw M a L) (hT : ∀ p, p < 4 → gI M 71 p = nI (tot p)) (ht : ∀ p, tot p ≤ 64) : ∃ M2, fX4_share M a = some M2 ∧ Fr [72] M M2 ∧ ∀ p, p < 4 → gI M2 72 p = nI (seatS tot L p) := by
  have hs : sumN tot 4 ≤ 256 := sumN_le (fun k _ => ht k)
  have h4 := hL.2.1.2.2.2.2.1
  obtain ⟨M1, ⟨a1, a2⟩, a3⟩ := share_all (a := a) hT
  have hL1 : CLw M1 a L := CLw_fr hL a1 (by decide)
  unfold fX4_share seatS
  rw [nl0, a3, nl1]
  rcases Nat.eq_zero_or_pos (sumN tot 4) with z | z
  · refine ⟨M1, by rw [le_f (by omega) (by decide)], a1, fun p hp => by rw [if_pos z]; exact a2.2 p hp⟩
  · rw [le_t (show 1 ≤ sumN tot 4 by omega) (by omega), hL1.2.2 4 (by decide), nl2]
    by_cases c : L 4 = 2
    · obtain ⟨M2, ⟨b1, b2⟩, b3⟩ := quo_cls hL1 a2 ht z
      obtain ⟨M3, ⟨d1, d2⟩, d3⟩ := share2_cls (CLw_fr hL1 b1 (by decide)) b2 ht z
      refine ⟨M3, ?_, (a1.trans b1).trans d1, fun p hp => by rw [if_neg (by omega), if_pos c]; exact d2.2 p hp⟩
      rw [eqn_t c]
      unfold fX4_shareByRemainders
      rw [nl1, le_t (show 1 ≤ sumN tot 4 by omega) (by omega), bnd_r, hL1.2.2 3 (by decide), nl0, b3, d3 ()]
      rfl
    · obtain ⟨M2, ⟨b1, b2⟩, b3⟩ := share01_cls hL1 a2 ht
      refine ⟨M2, ?_, a1.trans b1, fun p hp => by rw [if_neg (by omega), if_neg c]; exact b2.2 p hp⟩
      rw [eqn_f c (by omega) (by decide), b3 ()]
theorem seats_cls {M : MM} {S : SCN} {a : Nat} {L : Nat → Nat} (hB : BS M S aT) (hL : CLw M a L) {p : Nat} (hp : p < 4) : ∃ M2, fX0_seatsOf M (nI p) a = some (nI (seatS (totS S (L 0) L) L p), M2) ∧ Fr [70, 71, 72, 77] M M2 ∧ BS M2 S aT := by
  obtain ⟨M1, a1, a2, a3, a4⟩ := totals_cls hB hL
  obtain ⟨M2, b1, b2, b3⟩ := share_cls (CLw_fr hL a2 (by decide)) a3 (fun p => totS_le hB.1.1 (L 0) L p)
  refine ⟨M2, ?_, (a2.mono (by decide)).trans (b2.mono (by decide)), BS_fr a4 b2 (by decide)⟩
  unfold fX0_seatsOf
  rw [a1, bd_s, b1, bd_s, gd_inb hp (by decide), ix_nI (by omega), b3 p hp]
