/-! ===== something is laid on a square ===== -/
/-- scenes that differ in people's places, walls, hidden ones alone -/
def SE (S S2 : SCN) : Prop := cW S2 = cW S ∧ cH S2 = cH S ∧ cN S2 = cN S ∧ cS S2 = cS S ∧ cNm S2 = cNm S ∧ cSh S2 = cSh S ∧ cSt S2 = cSt S
theorem ray_keep {S S2 : SCN} (hS : SW S) (hE : SE S S2) {q d : Nat} (hon : ∀ x, inP (cW S) (cH S) x → x ≠ q → onS S2 x = onS S x) : ∀ (n : Nat) (c : Option Nat), (∀ x, c = some x → inP (cW S) (cH S) x) → rayR S d n c q = false → rayV S2 d n c = rayV S d n c ∧ ∀ x, rayR S2 d n c x = rayR S d n c x := by
  obtain ⟨e1, e2, -⟩ := hE
  intro n
  induction n with
  | zero => intro c _ _; exact ⟨rfl, fun _ => rfl⟩
  | succ n ih =>
    intro c hc hr
    cases c with
    | none => exact ⟨rfl, fun _ => rfl⟩
    | some x =>
      have hx := hc x rfl
      rw [rayR] at hr
      have h1 : ¬ x = q := fun z => by rw [z] at hr; simp at hr
      have ho := hon x hx h1
      unfold rayV
      rw [rayS, rayS]
      by_cases e0 : onS S x = 0
      · have hr2 : rayR S d n (stepP (cW S) (cH S) x d) q = false := by
          rw [decide_eq_true e0, Bool.true_and, Bool.or_eq_false_iff] at hr
          exact hr.2
        obtain ⟨a, b⟩ := ih _ (fun y e => (stepP_in hS.1.2 hS.2.1.2 e).1) hr2
        rw [if_pos e0, if_pos (by rw [ho]; exact e0), e1, e2]
        refine ⟨a, fun y => ?_⟩
        rw [rayR, rayR, ho, e1, e2, b y]
      · rw [if_neg e0, if_neg (by rw [ho]; exact e0)]
        refine ⟨ho, fun y => ?_⟩
        rw [rayR, rayR, ho, decide_eq_false e0, Bool.false_and, Bool.false_and]
theorem rch_no {S : SCN} {s q : Nat} : ∀ {D : Nat}, rchN S s D q = false → ∀ d, d < D → (!cSt S s && opensS S s d) = true → rayR S d 8 (stepP (cW S) (cH S) (cSh S s 1) d) q = false
  | 0, _, d, hd, _ => absurd hd (Nat.not_lt_zero d)
  | D + 1, h, d, hd, ho => by
    rw [rchN, Bool.or_eq_false_iff] at h
    rcases Nat.lt_or_ge d D with c | c
    · exact rch_no h.1 d c ho
    · have e : d = D := by omega
      subst e
      have := h.2
      rw [ho, Bool.true_and] at this
      exact this
theorem look_keep {S S2 : SCN} (hS : SW S) (hE : SE S S2) {q s : Nat} (hs : s < cS S) (hon : ∀ x, inP (cW S) (cH S) x → x ≠ q → onS S2 x = onS S x) (hr : rchN S s 8 q = false) : seenN S2 s 8 = seenN S s 8 ∧ lookN S2 s 8 = lookN S s 8 ∧ ∀ x, rchN S2 s 8 x = rchN S s 8 x := by
  have hE0 := hE
  obtain ⟨e1, e2, e3, e4, e5, e6, e7⟩ := hE
  have ho : ∀ d, opensS S2 s d = opensS S s d := fun d => by unfold opensS; rw [e6]
  have hm : ∀ d, d < 8 → metS S2 s d = metS S s d ∧ ((!cSt S s && opensS S s d) = true → ∀ x, rayR S2 d 8 (stepP (cW S) (cH S) (cSh S s 1) d) x = rayR S d 8 (stepP (cW S) (cH S) (cSh S s 1) d) x) := fun d hd => by
    unfold metS
    rw [ho d, e7]
    by_cases c : (!cSt S s && opensS S s d) = true
    · obtain ⟨a, b⟩ := ray_keep hS hE0 hon 8 (stepP (cW S) (cH S) (cSh S s 1) d) (fun y e => (stepP_in hS.1.2 hS.2.1.2 e).1) (rch_no hr d hd c)
      rw [if_pos c, if_pos c]
      refine ⟨?_, fun _ => b⟩
      unfold meetsS
      rw [e1, e2, e6]
      exact a
    · rw [if_neg c, if_neg c]
      exact ⟨rfl, fun z => absurd z c⟩
  have key : ∀ D, D ≤ 8 → seenN S2 s D = seenN S s D ∧ lookN S2 s D = lookN S s D ∧ ∀ x, rchN S2 s D x = rchN S s D x := by
    intro D
    induction D with
    | zero => intro _; exact ⟨rfl, rfl, fun _ => rfl⟩
    | succ D ih =>
      intro hD
      obtain ⟨a, b, c⟩ := ih (by omega)
      obtain ⟨m1, m2⟩ := hm D (by omega)
      refine ⟨by rw [seenN, seenN, m1, a], by rw [lookN, lookN, m1, b], fun x => ?_⟩
      rw [rchN, rchN, c x, ho D, e7, e1, e2, e6]
      by_cases k : (!cSt S s && opensS S s D) = true
      · rw [m2 k x]
      · rw [Bool.not_eq_true] at k
        rw [k, Bool.false_and, Bool.false_and]
  exact key 8 (Nat.le_refl 8)
theorem cmp0 {α : Type} {n : Nat} {x y : α} (hn : n < 2) : (if lg_cmp (lN n) 0 = 0 then x else y) = if n = 0 then x else y := by
  rcases (show n = 0 ∨ n = 1 by omega) with rfl | rfl
  · rw [if_pos (by decide), if_pos rfl]
  · rw [if_neg (by decide), if_neg (by decide)]
/-- a bit of a shine's reach, as the class asks for it -/
theorem bit_l0 {α : Type} {m k : Nat} {x y : α} (hm : m < 2 ^ 64) (hk : k < 64) : (if lg_cmp (jlushr (lN m) (nI k) &&& 1) 0 = 0 then x else y) = if m.testBit k then y else x := by
  unfold jlushr
  rw [wb_bit hm hk, cmp0 (by omega), tb_div]
  rcases (show m / 2 ^ k % 2 = 0 ∨ m / 2 ^ k % 2 = 1 by omega) with h | h
  · rw [h, if_pos rfl, if_neg (by decide)]
  · rw [h, if_neg (by decide), if_pos (by decide)]
theorem SE_BB {M : MM} {S S2 : SCN} {q : Nat} {v : Int32} (hB : BB M S) (hE : SE S S2) (hS2 : SW S2) (hq : inP (cW S) (cH S) q) (hon : ∀ x, inP (cW S) (cH S) x → x ≠ q → onS S2 x = onS S x) (hv : v = nI (onS S2 q)) : BB (sI M 69 (sqC (cW S) q) v) S2 := by
  obtain ⟨e1, e2, e3, e4, e5, e6, e7⟩ := hE
  have g : ∀ c k, c ≠ 69 → gI (sI M 69 (sqC (cW S) q) v) c k = gI M c k := fun c k h => gI_ne _ _ _ _ _ _ h
  obtain ⟨-, b2, b3, b4, b5, b6, b7, b8, b9, b10⟩ := hB
  unfold BB NX
  rw [e1, e2, e3, e4, e5, e6, e7]
  refine ⟨hS2, ?_, ?_, ?_, ?_, ?_, ?_, ?_, ?_, fun x hx => ?_⟩
  · simp only [g 60 _ (by decide), g 73 _ (by decide)]; exact b2
  · rw [g 61 _ (by decide)]; exact b3
  · rw [g 61 _ (by decide)]; exact b4
  · rw [g 61 _ (by decide)]; exact b5
  · rw [g 61 _ (by decide)]; exact b6
  · simp only [g 60 _ (by decide)]; exact b7
  · simp only [g 63 _ (by decide)]; exact b8
  · simp only [g 64 _ (by decide), g 65 _ (by decide), g 66 _ (by decide), g 67 _ (by decide), g 68 _ (by decide)]; exact b9
  · by_cases e : x = q
    · rw [e, gI_eq, hv]
    · rw [gI_nk _ _ _ _ _ _ (fun z => e (sqC_inj hx hq z)), hon x hx e]
      exact b10 x hx
theorem lay_spec {M : MM} {S S2 : SCN} {K : Nat → Bool} {q : Nat} {v : Int32} (h : BS M S K) (hE : SE S S2) (hS2 : SW S2) (hq : inP (cW S) (cH S) q) (hon : ∀ x, inP (cW S) (cH S) x → x ≠ q → onS S2 x = onS S x) (hv : v = nI (onS S2 q)) :
    ∃ M2, fX0_lay M (nI (sqC (cW S) q)) v = some M2 ∧ Fr [69, 74, 75, 76] M M2 ∧ BS M2 S2 K := by
  obtain ⟨hB, hL⟩ := h
  have hS := hB.1
  have h8 := hS.2.2.2.1
  have hl := sqC_lt hS.1.2 hS.2.1.2 hq
  have hB2 := SE_BB hB hE hS2 hq hon hv
  obtain ⟨e1, e2, e3, e4, e5, e6, e7⟩ := id hE
  have key := lpk (κ := Unit) (σ := MM × Nat) (fun _ f st => fX0_lay_l12 f st.1 (nI (sqC (cW S) q)) (nI st.2)) (fun _ M2 => some M2) (cS S)
    (fun i st => i = st.2 ∧ Fr [74, 75, 76] (sI M 69 (sqC (cW S) q) v) st.1 ∧ (∀ t, t < i → K t = true → BL st.1 S2 t) ∧ ∀ t, i ≤ t → gI st.1 74 t = gI M 74 t ∧ gI st.1 75 t = gI M 75 t ∧ gL st.1 76 t = gL M 76 t)
    (fun M2 => Fr [74, 75, 76] (sI M 69 (sqC (cW S) q) v) M2 ∧ ∀ t, t < cS S → K t = true → BL M2 S2 t) ?_ ?_ FU 0 (sI M 69 (sqC (cW S) q) v, 0) (by omega) (by show _ < 5000; omega) ⟨rfl, Fr.rfl, fun t ht => absurd ht (Nat.not_lt_zero t), fun t _ => ⟨by rw [gI_ne _ _ _ _ _ _ (by decide)], by rw [gI_ne _ _ _ _ _ _ (by decide)], rfl⟩⟩
  · obtain ⟨M2, ⟨h1, h2⟩, h3⟩ := key
    refine ⟨M2, ?_, (Fr.rfl.pI (by decide)).trans (h1.mono (by decide)), BB_fr hB2 h1 (by decide), fun s hs hk => ?_⟩
    · unfold fX0_lay
      rw [gd_inb hl (by decide), ix_nI (by omega), bnd_r]
      exact h3 ()
    · rw [e4] at hs
      exact h2 s hs hk
  · rintro i ⟨M1, j⟩ hi ⟨rfl, hF, a1, a2⟩
    left
    have hB1 : BB M1 S2 := BB_fr hB2 hF (by decide)
    have h61 : gI M1 61 3 = nI (cS S) := by rw [hB1.2.2.2.2.2.1, e4]
    obtain ⟨m, hm, em⟩ := wb_of (gL M1 76 i)
    have head : ∀ f, fX0_lay_l12 (f + 1) M1 (nI (sqC (cW S) q)) (nI i) = if m.testBit (sqC (cW S) q) then (fX0_look M1 (nI i)).bind (fun p10 => fX0_lay_l12 f p10 (nI (sqC (cW S) q)) (nI (i + 1))) else fX0_lay_l12 f M1 (nI (sqC (cW S) q)) (nI (i + 1)) := fun f => by
      rw [fX0_lay_l12.eq_2, h61, le_f hi (by omega), gd_inb (by omega) (by decide), ix_nI (by omega), em, bit_l0 hm hl, nI_1]
    by_cases c : m.testBit (sqC (cW S) q) = true
    · obtain ⟨M2, b1, b2, b3, b4⟩ := look_spec hB1 (s := i) (by rw [e4]; exact hi)
      refine ⟨(M2, i + 1), ⟨rfl, hF.trans b2, fun t ht hk => ?_, fun t ht => ?_⟩, fun _ f => ?_⟩
      · by_cases e : t = i
        · rw [e]; exact b4
        · obtain ⟨d1, d2, d3⟩ := b3 t e
          exact BL_of (a1 t (by omega) hk) d1 d2 d3
      · obtain ⟨d1, d2, d3⟩ := b3 t (by omega)
        obtain ⟨f1, f2, f3⟩ := a2 t (by omega)
        exact ⟨d1.trans f1, d2.trans f2, d3.trans f3⟩
      · show fX0_lay_l12 (f + 1) M1 (nI (sqC (cW S) q)) (nI i) = fX0_lay_l12 f M2 (nI (sqC (cW S) q)) (nI (i + 1))
        rw [head f, if_pos c, b1, bd_s]
    · refine ⟨(M1, i + 1), ⟨rfl, hF, fun t ht hk => ?_, fun t ht => a2 t (by omega)⟩, fun _ f => ?_⟩
      · by_cases e : t = i
        · subst e
          obtain ⟨f1, f2, f3⟩ := a2 t (Nat.le_refl t)
          obtain ⟨l1, l2, m2, l3, l4, l5⟩ := hL t hi hk
          have em2 : m2 = m := by
            have : lN m2 = lN m := by rw [← l4, ← f3, em]
            have := congrArg (fun z => z.toBitVec.toNat) this
            simp only [wb_tn l3, wb_tn hm] at this
            exact this
          have hr : rchN S t 8 q = false := by
            rw [← l5 q hq, em2]
            cases z : m.testBit (sqC (cW S) q) with
            | true => exact absurd z c
            | false => rfl
          obtain ⟨k1, k2, k3⟩ := look_keep hS hE hi hon hr
          refine ⟨by rw [k1]; exact f1.trans l1, by rw [k2]; exact f2.trans l2, m2, l3, f3.trans l4, fun x hx => ?_⟩
          rw [k3 x, e1]
          exact l5 x (by rw [← e1, ← e2]; exact hx)
        · exact a1 t (by omega) hk
      · show fX0_lay_l12 (f + 1) M1 (nI (sqC (cW S) q)) (nI i) = fX0_lay_l12 f M1 (nI (sqC (cW S) q)) (nI (i + 1))
        rw [head f, if_neg c]
  · rintro ⟨M1, j⟩ ⟨rfl, hF, a1, a2⟩
    refine ⟨M1, ⟨hF, a1⟩, fun _ f => ?_⟩
    have h61 : gI M1 61 3 = nI (cS S) := by rw [(BB_fr hB2 hF (by decide)).2.2.2.2.2.1, e4]
    show fX0_lay_l12 (f + 1) M1 (nI (sqC (cW S) q)) (nI (cS S)) = _
    rw [fX0_lay_l12.eq_2, h61, le_t (Nat.le_refl _) (by omega)]
