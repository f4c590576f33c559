/-! ===== a face is turned, a shine stirred; a parish begun ===== -/
theorem look_cong {S S2 : SCN} {s : Nat} (e1 : cW S2 = cW S) (e2 : cH S2 = cH S) (hon : ∀ x, onS S2 x = onS S x) (hst : cSt S2 s = cSt S s) (hsh : ∀ j, j < 3 → cSh S2 s j = cSh S s j) : ∀ D, seenN S2 s D = seenN S s D ∧ lookN S2 s D = lookN S s D ∧ ∀ x, rchN S2 s D x = rchN S s D x := by
  have ho : ∀ d, opensS S2 s d = opensS S s d := fun d => by unfold opensS; rw [hsh 0 (by decide), hsh 2 (by decide)]
  have hr : ∀ d n c, rayS S2 d n c = rayS S d n c ∧ ∀ x, rayR S2 d n c x = rayR S d n c x := by
    intro d n
    induction n with
    | zero => intro c; exact ⟨rfl, fun _ => rfl⟩
    | succ n ih =>
      intro c
      cases c with
      | none => exact ⟨rfl, fun _ => rfl⟩
      | some q =>
        refine ⟨?_, fun x => ?_⟩
        · rw [rayS, rayS, hon, e1, e2, (ih _).1]
        · rw [rayR, rayR, hon, e1, e2, (ih _).2 x]
  have hm : ∀ d, metS S2 s d = metS S s d := fun d => by
    unfold metS meetsS
    rw [ho, hst, e1, e2, hsh 1 (by decide), (hr d 8 _).1]
    simp only [hon]
  intro D
  induction D with
  | zero => exact ⟨rfl, rfl, fun _ => rfl⟩
  | succ D ih =>
    obtain ⟨a, b, c⟩ := ih
    refine ⟨by rw [seenN, seenN, hm, a], by rw [lookN, lookN, hm, b], fun x => ?_⟩
    rw [rchN, rchN, c x, ho, hst, e1, e2, hsh 1 (by decide), (hr D 8 _).2 x]
theorem BL_cong {M : MM} {S S2 : SCN} {s : Nat} (h : BL M S s) (e1 : cW S2 = cW S) (e2 : cH S2 = cH S) (hon : ∀ x, onS S2 x = onS S x) (hst : cSt S2 s = cSt S s) (hsh : ∀ j, j < 3 → cSh S2 s j = cSh S s j) : BL M S2 s := by
  obtain ⟨a, b, c⟩ := look_cong e1 e2 hon hst hsh 8
  obtain ⟨h1, h2, m, h3, h4, h5⟩ := h
  refine ⟨by rw [a]; exact h1, by rw [b]; exact h2, m, h3, h4, fun q hq => ?_⟩
  rw [c q, e1]
  exact h5 q (by rw [← e1, ← e2]; exact hq)
theorem relook {M : MM} {S : SCN} {K : Nat → Bool} {s : Nat} (hB : BB M S) (hs : s < cS S) (hL : ∀ t, t < cS S → t ≠ s → K t = true → BL M S t) : ∃ M2, fX0_look M (nI s) = some M2 ∧ Fr [74, 75, 76] M M2 ∧ BS M2 S (fun t => K t || t == s) := by
  obtain ⟨M2, a1, a2, a3, a4⟩ := look_spec hB hs
  refine ⟨M2, a1, a2, BB_fr hB a2 (by decide), fun t ht hk => ?_⟩
  by_cases e : t = s
  · rw [e]; exact a4
  · obtain ⟨d1, d2, d3⟩ := a3 t e
    have hk2 : K t = true := by
      have : (t == s) = false := by simp [e]
      simp only [this, Bool.or_false] at hk
      exact hk
    exact BL_of (hL t ht e hk2) d1 d2 d3
theorem BS_K {M : MM} {S : SCN} {K K2 : Nat → Bool} (h : BS M S K) (hk : ∀ t, t < cS S → K2 t = true → K t = true) : BS M S K2 := ⟨h.1, fun s hs h2 => h.2 s hs (hk s hs h2)⟩
/-- a scene with the face of a shine turned -/
def setF (S : SCN) (s f : Nat) : SCN := (cW S, cH S, cN S, cS S, cWa S, cAt S, cNm S, fun k j => if k = s ∧ j = 2 then f else cSh S k j, cSt S, cHd S)
theorem setF_sh (S : SCN) (s f k j : Nat) : cSh (setF S s f) k j = if k = s ∧ j = 2 then f else cSh S k j := rfl
theorem setF_ne (S : SCN) {s f k j : Nat} (h : j ≠ 2) : cSh (setF S s f) k j = cSh S k j := by rw [setF_sh, if_neg (fun z => h z.2)]
theorem setF_at (S : SCN) (s f : Nat) : cSh (setF S s f) s 2 = f := by rw [setF_sh, if_pos ⟨rfl, rfl⟩]
theorem setF_on (S : SCN) (s f q : Nat) : onS (setF S s f) q = onS S q := by
  unfold onS
  simp only [setF_ne S (s := s) (f := f) (show (1 : Nat) ≠ 2 by decide)]
  rfl
theorem setF_SW {S : SCN} (h : SW S) {s f : Nat} (hf : f < 8) : SW (setF S s f) := by
  obtain ⟨h1, h2, h3, h4, h5, h6, h7⟩ := h
  refine ⟨h1, h2, h3, h4, h5, h6, fun k hk => ?_⟩
  obtain ⟨a, b, c, d, e⟩ := h7 k hk
  rw [setF_ne S (j := 0) (by decide), setF_ne S (j := 1) (by decide), setF_ne S (j := 3) (by decide), setF_ne S (j := 4) (by decide)]
  refine ⟨a, b, ?_, d, e⟩
  rw [setF_sh]
  split
  · exact hf
  · exact c
theorem face_spec {M : MM} {S : SCN} {K : Nat → Bool} (h : BS M S K) {s f : Nat} (hs : s < cS S) (hf : f < 8) : ∃ M2, fX0_face M (nI s) (nI f) = some M2 ∧ Fr [66, 74, 75, 76] M M2 ∧ BS M2 (setF S s f) (fun t => K t || t == s) := by
  obtain ⟨hB, hL⟩ := h
  have hS := hB.1
  have h8 := hS.2.2.2.1
  have g : ∀ c k, c ≠ 66 → gI (sI M 66 s (nI f)) c k = gI M c k := fun c k h => gI_ne _ _ _ _ _ _ h
  have hB2 : BB (sI M 66 s (nI f)) (setF S s f) := by
    obtain ⟨-, b2, b3, b4, b5, b6, b7, b8, b9, b10⟩ := hB
    refine ⟨setF_SW hS hf, ?_, ?_, ?_, ?_, ?_, ?_, ?_, fun k hk => ?_, fun x hx => ?_⟩
    · unfold NX; simp only [g 60 _ (by decide), g 73 _ (by decide)]; exact b2
    · rw [g 61 _ (by decide)]; exact b3
    · rw [g 61 _ (by decide)]; exact b4
    · rw [g 61 _ (by decide)]; exact b5
    · rw [g 61 _ (by decide)]; exact b6
    · simp only [g 60 _ (by decide)]; exact b7
    · simp only [g 63 _ (by decide)]; exact b8
    · obtain ⟨c1, c2, c3, c4, c5⟩ := b9 k hk
      rw [g 64 _ (by decide), g 65 _ (by decide), g 67 _ (by decide), g 68 _ (by decide), setF_ne S (j := 0) (by decide), setF_ne S (j := 1) (by decide), setF_ne S (j := 3) (by decide), setF_ne S (j := 4) (by decide)]
      refine ⟨c1, c2, ?_, c4, c5⟩
      rw [setF_sh]
      by_cases e : k = s
      · rw [e, gI_eq, if_pos ⟨rfl, rfl⟩]
      · rw [gI_nk _ _ _ _ _ _ e, if_neg (fun z => e z.1)]; exact c3
    · rw [g 69 _ (by decide), setF_on]; exact b10 x hx
  obtain ⟨M2, a1, a2, a3⟩ := relook (K := K) hB2 (s := s) hs (fun t ht hne hk => by
    have h1 := BL_of (M2 := sI M 66 s (nI f)) (hL t ht hk) (g 74 _ (by decide)) (g 75 _ (by decide)) rfl
    exact BL_cong h1 rfl rfl (setF_on S s f) rfl (fun j _ => by rw [setF_sh, if_neg (fun z => hne z.1)]))
  refine ⟨M2, ?_, (Fr.rfl.pI (by decide)).trans (a2.mono (by decide)), a3⟩
  unfold fX0_face
  rw [gd_inb (by omega) (by decide), ix_nI (by omega), bnd_r, a1]
  rfl
/-- a scene with a shine stirred or calm -/
def setT (S : SCN) (s : Nat) (b : Bool) : SCN := (cW S, cH S, cN S, cS S, cWa S, cAt S, cNm S, cSh S, fun k => if k = s then b else cSt S k, cHd S)
theorem setT_on (S : SCN) (s : Nat) (b : Bool) (q : Nat) : onS (setT S s b) q = onS S q := rfl
theorem setT_st (S : SCN) (s k : Nat) (b : Bool) : cSt (setT S s b) k = if k = s then b else cSt S k := rfl
theorem stir_spec {M : MM} {S : SCN} {K : Nat → Bool} (h : BS M S K) {s : Nat} (hs : s < cS S) : ∃ M2, fX0_stirOrCalm M (nI s) = some M2 ∧ Fr [60, 74, 75, 76] M M2 ∧ BS M2 (setT S s (!cSt S s)) (fun t => K t || t == s) := by
  obtain ⟨hB, hL⟩ := h
  have hS := hB.1
  have h8 := hS.2.2.2.1
  obtain ⟨-, b2, b3, b4, b5, b6, ⟨m, hm, em, hb⟩, b8, b9, b10⟩ := hB
  have hp : 2 ^ s < 256 := pow_lt8 (by omega)
  have ev : (gI M 60 7) ^^^ (jshl 1 (nI s)) = nI (m ^^^ 2 ^ s) := by rw [em, shl_nI (by omega), xor_nI]
  have g : ∀ c k, c ≠ 60 → gI (sI M 60 7 (nI (m ^^^ 2 ^ s))) c k = gI M c k := fun c k h => gI_ne _ _ _ _ _ _ h
  have g60 : ∀ k, k ≠ 7 → gI (sI M 60 7 (nI (m ^^^ 2 ^ s))) 60 k = gI M 60 k := fun k h => gI_nk _ _ _ _ _ _ h
  have hB2 : BB (sI M 60 7 (nI (m ^^^ 2 ^ s))) (setT S s (!cSt S s)) := by
    refine ⟨hS, ?_, ?_, ?_, ?_, ?_, ⟨m ^^^ 2 ^ s, Nat.xor_lt_two_pow (n := 8) hm hp, gI_eq _ _ _ _, fun k hk => ?_⟩, ?_, ?_, fun x hx => ?_⟩
    · unfold NX; simp only [g60 5 (by decide), g60 6 (by decide), g 73 _ (by decide)]; exact b2
    · rw [g 61 _ (by decide)]; exact b3
    · rw [g 61 _ (by decide)]; exact b4
    · rw [g 61 _ (by decide)]; exact b5
    · rw [g 61 _ (by decide)]; exact b6
    · rw [Nat.testBit_xor, hb k hk, tb_pow, setT_st]
      by_cases e : k = s
      · rw [e, if_pos rfl, decide_eq_true rfl, Bool.xor_true]
      · rw [if_neg e, decide_eq_false (fun z => e z.symm), Bool.xor_false]
    · simp only [g 63 _ (by decide)]; exact b8
    · simp only [g 64 _ (by decide), g 65 _ (by decide), g 66 _ (by decide), g 67 _ (by decide), g 68 _ (by decide)]; exact b9
    · rw [g 69 _ (by decide)]; exact b10 x hx
  obtain ⟨M2, a1, a2, a3⟩ := relook (K := K) hB2 (s := s) hs (fun t ht hne hk => by
    have h1 := BL_of (M2 := sI M 60 7 (nI (m ^^^ 2 ^ s))) (hL t ht hk) (g 74 _ (by decide)) (g 75 _ (by decide)) rfl
    exact BL_cong h1 rfl rfl (setT_on S s _) (by rw [setT_st, if_neg hne]) (fun j _ => rfl))
  refine ⟨M2, ?_, (Fr.rfl.pI (by decide)).trans (a2.mono (by decide)), a3⟩
  unfold fX0_stirOrCalm
  rw [ev, bnd_r, a1]
  rfl
abbrev aT : Nat → Bool := fun _ => true
theorem begin_loop {M : MM} {S : SCN} {a : Nat} (hB : BB M S) : ∃ M2, (Fr [74, 75, 76] M M2 ∧ BS M2 S aT) ∧ ∀ _k : Unit, fX0_begin_l47 a FU M (nI 0) = some M2 := by
  have hS := hB.1
  have h8 := hS.2.2.2.1
  refine lpk (κ := Unit) (σ := MM × Nat) (fun _ f st => fX0_begin_l47 a f st.1 (nI st.2)) (fun _ M2 => some M2) (cS S)
    (fun i st => i = st.2 ∧ Fr [74, 75, 76] M st.1 ∧ BS st.1 S (fun t => decide (t < i))) _ ?_ ?_ FU 0 (M, 0) (by omega) (by show _ < 5000; omega) ⟨rfl, Fr.rfl, hB, fun s _ h => absurd (of_decide_eq_true h) (Nat.not_lt_zero s)⟩
  · rintro i ⟨M1, j⟩ hi ⟨rfl, hF, hb1, hb2⟩
    left
    obtain ⟨M2, a1, a2, a3⟩ := relook (K := fun t => decide (t < i)) hb1 (s := i) hi (fun t ht _ hk => hb2 t ht hk)
    refine ⟨(M2, i + 1), ⟨rfl, hF.trans a2, BS_K a3 (fun t _ hk => ?_)⟩, fun _ f => ?_⟩
    · have := of_decide_eq_true hk
      by_cases e : t = i
      · rw [e]; simp
      · rw [decide_eq_true (show t < i by omega)]; rfl
    · show fX0_begin_l47 a (f + 1) M1 (nI i) = fX0_begin_l47 a f M2 (nI (i + 1))
      rw [fX0_begin_l47.eq_2, hb1.2.2.2.2.2.1, le_f hi (by omega), a1, bd_s, nI_1]
  · rintro ⟨M1, j⟩ ⟨rfl, hF, hb1, hb2⟩
    refine ⟨M1, ⟨hF, hb1, fun s hs _ => hb2 s hs (decide_eq_true hs)⟩, fun _ f => ?_⟩
    show fX0_begin_l47 a (f + 1) M1 (nI (cS S)) = _
    rw [fX0_begin_l47.eq_2, hb1.2.2.2.2.2.1, le_t (Nat.le_refl _) (by omega)]
theorem NX_BN {M : MM} {w h : Nat} (hw : 2 ≤ w ∧ w ≤ 8) (hh : 2 ≤ h ∧ h ≤ 8) (hN : NX M w h) : BN M := Or.inr ⟨w, h, hw, hh, hN.1, hN.2.1, hN.2.2⟩
theorem begin_spec {M : MM} {a : Nat} {P : PARD} (hN : BN M) (hC : CP M a P) (hP : PW P) (ha : 61 + 8 < a ∨ a + 8 < 61) : ∃ M2, fX0_begin M a = some M2 ∧ Fr [60, 61, 62, 63, 64, 65, 66, 67, 68, 69, 73, 74, 75, 76] M M2 ∧ BS M2 (scnOf P) aT ∧ BN M2 ∧ (∀ k, k < pN P → gI M2 62 k = nI (sqC (pW P) (pAt P k))) ∧ ∀ k, k < 8 → ∃ f : Nat, f < 8 ∧ gI M2 66 k = nI f := by
  have hS := scn_SW hP
  obtain ⟨c1, c2, c3, c4, c5, c6, c7⟩ := hC
  obtain ⟨hw, hh, hn8, hs8, -⟩ := id hP
  obtain ⟨M1, a1, a2, a3, a4, a5, a6⟩ := copy_spec (M := M) ha
  have a2 : Fr [61, 62, 63, 64, 65, 66, 67, 68, 69] M M1 := a2
  have d0 : gI M1 61 0 = nI (pW P) := (a3 0 (by decide)).trans c1
  have d1 : gI M1 61 1 = nI (pH P) := (a3 1 (by decide)).trans c2
  have d2 : gI M1 61 2 = nI (pN P) := (a3 2 (by decide)).trans c3
  have d3 : gI M1 61 3 = nI (pS P) := (a3 3 (by decide)).trans c4
  have hd5 : gI M1 60 5 = gI M 60 5 := a2.gi (by decide) 5
  have hd6 : gI M1 60 6 = gI M 60 6 := a2.gi (by decide) 6
  -- behind the steps
  have rest : ∀ M3, Fr [60, 73] M1 M3 → NX M3 (pW P) (pH P) → ∃ M2, fX0_begin_j40 a M3 = some M2 ∧ Fr [60, 61, 62, 63, 64, 65, 66, 67, 68, 69, 73, 74, 75, 76] M M2 ∧ BS M2 (scnOf P) aT ∧ BN M2 ∧ (∀ k, k < pN P → gI M2 62 k = nI (sqC (pW P) (pAt P k))) ∧ ∀ k, k < 8 → ∃ f : Nat, f < 8 ∧ gI M2 66 k = nI f := by
    intro M3 hF hX
    have g : ∀ c k, c ≠ 60 → c ≠ 73 → gI (sI M3 60 7 0) c k = gI M1 c k := fun c k h1 h2 => by rw [gI_ne _ _ _ _ _ _ h1]; exact hF.gi (by simp [h1, h2]) k
    have hX4 : NX (sI M3 60 7 0) (pW P) (pH P) := by
      unfold NX
      rw [gI_nk _ _ _ _ _ _ (by decide), gI_nk _ _ _ _ _ _ (by decide)]
      refine ⟨hX.1, hX.2.1, fun d hd q hq => ?_⟩
      rw [gI_ne _ _ _ _ _ _ (by decide)]
      exact hX.2.2 d hd q hq
    have hB : BB (sI M3 60 7 0) (scnOf P) := by
      refine ⟨hS, hX4, ?_, ?_, ?_, ?_, ⟨0, by decide, gI_eq _ _ _ _, fun k _ => by rw [tb_0]; rfl⟩, fun k hk => ?_, fun k hk => ?_, fun q hq => ?_⟩
      · rw [g 61 _ (by decide) (by decide)]; exact d0
      · rw [g 61 _ (by decide) (by decide)]; exact d1
      · rw [g 61 _ (by decide) (by decide)]; exact d2
      · rw [g 61 _ (by decide) (by decide)]; exact d3
      · have hk : k < pN P := hk
        rw [g 63 _ (by decide) (by decide), a4 2 (by decide) (by decide) k (by omega)]
        exact (c5 k hk).2
      · have hk : k < pS P := hk
        obtain ⟨t1, t2, t3, t4, t5⟩ := c6 k hk
        rw [g 64 _ (by decide) (by decide), g 65 _ (by decide) (by decide), g 66 _ (by decide) (by decide), g 67 _ (by decide) (by decide), g 68 _ (by decide) (by decide), a4 3 (by decide) (by decide) k (by omega), a4 4 (by decide) (by decide) k (by omega), a4 5 (by decide) (by decide) k (by omega), a4 6 (by decide) (by decide) k (by omega), a4 7 (by decide) (by decide) k (by omega)]
        exact ⟨t1, t2, t3, t4, t5⟩
      · have hq : inP (pW P) (pH P) q := hq
        have hl := sqC_lt hw.2 hh.2 hq
        show gI (sI M3 60 7 0) 69 (sqC (pW P) q) = _
        rw [g 69 _ (by decide) (by decide), a5 _ hl, c7.1 _ (sqC_wh hq), sq8_sqC hq]
    obtain ⟨M2, ⟨f1, f2⟩, f3⟩ := begin_loop (a := a) hB
    have hFF : Fr [60, 61, 62, 63, 64, 65, 66, 67, 68, 69, 73, 74, 75, 76] M M2 := (((a2.mono (by decide)).trans (hF.mono (by decide))).pI (by decide)).trans (f1.mono (by decide))
    refine ⟨M2, ?_, hFF, f2, NX_BN hw hh f2.1.2.1, fun k hk => ?_, fun k hk => ?_⟩
    · unfold fX0_begin_j40
      rw [bnd_r]
      exact f3 ()
    · rw [f1.gi (by decide), g 62 _ (by decide) (by decide), a4 1 (by decide) (by decide) k (by omega)]
      exact (c5 k hk).1
    · rw [f1.gi (by decide), g 66 _ (by decide) (by decide), a4 5 (by decide) (by decide) k hk]
      exact c7.2 k hk
  have draw : ∃ M2, fX0_begin_j36 a M1 = some M2 ∧ Fr [60, 61, 62, 63, 64, 65, 66, 67, 68, 69, 73, 74, 75, 76] M M2 ∧ BS M2 (scnOf P) aT ∧ BN M2 ∧ (∀ k, k < pN P → gI M2 62 k = nI (sqC (pW P) (pAt P k))) ∧ ∀ k, k < 8 → ∃ f : Nat, f < 8 ∧ gI M2 66 k = nI f := by
    obtain ⟨M3, b1, b2, b3⟩ := draw_spec hw hh d0 d1
    obtain ⟨M2, r1, r2⟩ := rest M3 b2 b3
    refine ⟨M2, ?_, r2⟩
    unfold fX0_begin_j36
    rw [b1, bd_s]
    exact r1
  unfold fX0_begin
  rw [a1, bd_s, d0, d1]
  by_cases e5 : gI M1 60 5 = nI (pW P)
  · rw [if_pos e5]
    by_cases e6 : gI M1 60 6 = nI (pH P)
    · rw [if_pos e6]
      refine rest M1 Fr.rfl ?_
      rcases hN with ⟨z5, z6⟩ | ⟨w, h, hw2, hh2, z5, z6, z7⟩
      · rw [hd5, z5] at e5
        exact absurd e5.symm (nI_ne0 (by omega) (by omega))
      · rw [hd5, z5, nI_eq (by omega) (by omega)] at e5
        rw [hd6, z6, nI_eq (by omega) (by omega)] at e6
        subst e5
        subst e6
        refine ⟨by rw [hd5]; exact z5, by rw [hd6]; exact z6, fun d hd q hq => ?_⟩
        rw [a2.gi (by decide)]
        exact z7 d hd q hq
    · rw [if_neg e6]; exact draw
  · rw [if_neg e5]; exact draw
