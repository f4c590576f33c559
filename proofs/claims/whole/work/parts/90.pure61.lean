/-! ===== text: the class puts all on its square ===== -/
def trP (P : PARD) (p s : Nat) : PARD := (pW P, pH P, p, s, pWa P, pAt P, pNm P, pSh P)
theorem sqOf_cls {M : MM} {P : PARD} {q : Nat} (h0 : gI M 42 0 = nI (pW P)) (hq : q < 64) : fX5_squareOf M (nI q) = nI (sqC (pW P) q) := by
  unfold fX5_squareOf sqC
  rw [h0, show (7 : Int32) = nI 7 from rfl, and_nI, show q &&& 7 = q % 8 from Nat.and_two_pow_sub_one_eq_mod q 3, show (3 : Int32) = nI 3 from rfl, shr_nI (by omega) (by decide), pk_mul, nI_add]
theorem wall_l11 {M0 : MM} {P : PARD} (h : CDP M0 P) (hP : DPW P) (hI : insP P) : ∀ n y f M, y + n = 64 → n < f → Fr [50] M0 M → (∀ q, inP (pW P) (pH P) q → gI M 50 (sqC (pW P) q) = if pWa P q = true ∧ q < y then 1 else 0) →
    ∃ M2, (Fr [50] M0 M2 ∧ ∀ q, inP (pW P) (pH P) q → gI M2 50 (sqC (pW P) q) = if pWa P q = true then 1 else 0) ∧ ∀ kk, fX5_settle_l11 kk f M (nI y) = kk M2
  | n, y, f + 1, M, h1, h2, hF, hv => by
    obtain ⟨m, a7, a8, a9⟩ := h.2.2.2.2.2.2.1
    have g8 : gL M 42 12 = lN m := by rw [hF.gl (by decide)]; exact a8
    have g0 : gI M 42 0 = nI (pW P) := by rw [hF.gi (by decide)]; exact h.1
    cases n with
    | zero =>
      refine ⟨M, ⟨hF, fun q hq => ?_⟩, fun kk => by rw [fX5_settle_l11.eq_2, nl64, le_t (by omega) (by omega)]⟩
      have := inP_64 hP.2.1.2 hq
      rw [hv q hq]
      by_cases c : pWa P q = true
      · rw [if_pos ⟨c, by omega⟩, if_pos c]
      · rw [if_neg (fun z => c z.1), if_neg c]
    | succ n =>
      have head : ∀ kk, fX5_settle_l11 kk (f + 1) M (nI y) = if pWa P y = true then gd (inb (nI (sqC (pW P) y)) 64) (fX5_settle_l11 kk f (sI M 50 (ix (nI (sqC (pW P) y))) 1) (nI (y + 1))) else fX5_settle_l11 kk f M (nI (y + 1)) := fun kk => by
        rw [fX5_settle_l11.eq_2, nl64, le_f (show y < 64 by omega) (by decide), g8, bit_l0 a7 (by omega), a9 y (by omega), nI_1, sqOf_cls g0 (by omega), bnd_r]
      by_cases c : pWa P y = true
      · have hy := hI.1 y (by omega) c
        have hl := sqC_lt hP.1.2 hP.2.1.2 hy
        obtain ⟨M2, m1, m2⟩ := wall_l11 h hP hI n (y + 1) f (sI M 50 (sqC (pW P) y) 1) (by omega) (by omega) (hF.pI (by decide)) (fun q hq => by
          by_cases e : q = y
          · rw [e, gI_eq, if_pos ⟨c, by omega⟩]
          · rw [gI_nk _ _ _ _ _ _ (fun z => e (sqC_inj hq hy z)), hv q hq]
            by_cases d : pWa P q = true ∧ q < y
            · rw [if_pos d, if_pos ⟨d.1, by omega⟩]
            · rw [if_neg d, if_neg (fun z => d ⟨z.1, by omega⟩)])
        refine ⟨M2, m1, fun kk => ?_⟩
        rw [head, if_pos c, gd_inb hl (by decide), ix_nI (by omega)]; exact m2 kk
      · obtain ⟨M2, m1, m2⟩ := wall_l11 h hP hI n (y + 1) f M (by omega) (by omega) hF (fun q hq => by
          rw [hv q hq]
          by_cases e : q = y
          · rw [if_neg (fun z => by omega), if_neg (fun z => c (by rw [← e]; exact z.1))]
          · by_cases d : pWa P q = true ∧ q < y
            · rw [if_pos d, if_pos ⟨d.1, by omega⟩]
            · rw [if_neg d, if_neg (fun z => d ⟨z.1, by omega⟩)])
        refine ⟨M2, m1, fun kk => ?_⟩
        rw [head, if_neg c]; exact m2 kk
  | _, _, 0, _, _, h, _, _ => absurd h (Nat.not_lt_zero _)
def STT (M0 M : MM) (P : PARD) (p s : Nat) : Prop := Fr [43, 46, 50] M0 M ∧ (∀ k, k < pN P → gI M 43 k = nI (if k < p then sqC (pW P) (pAt P k) else pAt P k)) ∧ (∀ k, k < pS P → gI M 46 k = nI (if k < s then sqC (pW P) (pSh P k 1) else pSh P k 1)) ∧
  ∀ q, inP (pW P) (pH P) q → gI M 50 (sqC (pW P) q) = nI (onS (scnOf (trP P p s)) q)
theorem on_tr {P : PARD} {p s q : Nat} (h : onS (scnOf (trP P p s)) q = 0) : (∀ k, k < p → pAt P k ≠ q) ∧ (∀ k, k < s → pSh P k 1 ≠ q) ∧ pWa P q = false := by
  obtain ⟨h1, h2, h3⟩ := onS_free2 h
  exact ⟨fun k hk e => h1 k hk (by rw [← e]; rfl), fun k hk => h2 k hk rfl, h3⟩
theorem on_tr2 {P : PARD} {p s q : Nat} (h1 : ∀ k, k < p → pAt P k ≠ q) (h2 : ∀ k, k < s → pSh P k 1 ≠ q) (h3 : pWa P q = false) : onS (scnOf (trP P p s)) q = 0 :=
  onS_free (fun k hk e => h1 k hk (Option.some.inj e)) (fun k hk _ => h2 k hk) h3
theorem on_trN {P : PARD} {p q : Nat} (h : onS (scnOf (trP P p 0)) (pAt P p) = 0) : onS (scnOf (trP P (p + 1) 0)) q = if q = pAt P p then 10 + p else onS (scnOf (trP P p 0)) q := by
  by_cases e : q = pAt P p
  · rw [if_pos e, e]
    exact onS_person (S := scnOf (trP P (p + 1) 0)) (k := p) (Nat.lt_succ_self p) rfl (fun j hj z => (on_tr h).1 j hj (Option.some.inj z))
  · rw [if_neg e]
    unfold onS
    have : fstN (fun k => cAt (scnOf (trP P (p + 1) 0)) k == some q) (cN (scnOf (trP P (p + 1) 0))) = fstN (fun k => cAt (scnOf (trP P p 0)) k == some q) (cN (scnOf (trP P p 0))) := by
      show fstN (fun k => some (pAt P k) == some q) (p + 1) = fstN (fun k => some (pAt P k) == some q) p
      rw [fstN]
      have hb : (some (pAt P p) == some q) = false := beq_eq_false_iff_ne.mpr (fun z => e (Option.some.inj z).symm)
      rw [hb]
      cases fstN (fun k => some (pAt P k) == some q) p <;> rfl
    rw [this]
    rfl
theorem on_trS {P : PARD} {n s q : Nat} (h : onS (scnOf (trP P n s)) (pSh P s 1) = 0) : onS (scnOf (trP P n (s + 1))) q = if q = pSh P s 1 then 20 + s else onS (scnOf (trP P n s)) q := by
  by_cases e : q = pSh P s 1
  · rw [if_pos e, e]
    exact onS_shine (S := scnOf (trP P n (s + 1))) (s := s) (Nat.lt_succ_self s) rfl rfl (fun k hk z => (on_tr h).1 k hk (Option.some.inj z)) (fun t ht z => absurd z ((on_tr h).2.1 t ht))
  · rw [if_neg e]
    unfold onS
    have : fstN (fun k => cSh (scnOf (trP P n (s + 1))) k 1 == q && !cHd (scnOf (trP P n (s + 1))) k) (cS (scnOf (trP P n (s + 1)))) = fstN (fun k => cSh (scnOf (trP P n s)) k 1 == q && !cHd (scnOf (trP P n s)) k) (cS (scnOf (trP P n s))) := by
      show fstN (fun k => pSh P k 1 == q && !false) (s + 1) = fstN (fun k => pSh P k 1 == q && !false) s
      rw [fstN]
      have hb : (pSh P s 1 == q) = false := beq_eq_false_iff_ne.mpr (fun z => e z.symm)
      rw [hb, Bool.false_and]
      cases fstN (fun k => pSh P k 1 == q && !false) s <;> rfl
    rw [this]
    rfl
theorem men_l49 {M0 : MM} {P : PARD} (h : CDP M0 P) (hP : DPW P) (hI : insP P) : ∀ n p f M, p + n = pN P → n < f → STT M0 M P p 0 → PDs (trP P p 0) →
    (∃ M2, (Fr [43, 46, 50] M0 M2 ∧ ¬ PDs P) ∧ ∀ kk, fX5_settle_l49 kk f M (nI p) = some (5, M2)) ∨ (∃ M2, (STT M0 M2 P (pN P) 0 ∧ PDs (trP P (pN P) 0)) ∧ ∀ kk, fX5_settle_l49 kk f M (nI p) = kk M2)
  | n, p, f + 1, M, h1, h2, hS, hd => by
    have p8 := hP.2.2.1
    obtain ⟨hF, s1, s2, s3⟩ := id hS
    have g0 : gI M 42 0 = nI (pW P) := by rw [hF.gi (by decide)]; exact h.1
    have g2 : gI M 42 2 = nI (pN P) := by rw [hF.gi (by decide)]; exact h.2.2.1
    cases n with
    | zero =>
      have e : p = pN P := by omega
      subst e
      exact Or.inr ⟨M, ⟨hS, hd⟩, fun kk => by rw [fX5_settle_l49.eq_2, g2, le_t (Nat.le_refl _) (by omega)]⟩
    | succ n =>
      have hp : p < pN P := by omega
      have hq := hI.2.1 p hp
      have hl := sqC_lt hP.1.2 hP.2.1.2 hq
      have h64 := (hP.2.2.2.2.2.1 p hp).1
      have e43 : gI M 43 p = nI (pAt P p) := by rw [s1 p hp, if_neg (Nat.lt_irrefl p)]
      have hon : onS (scnOf (trP P p 0)) (pAt P p) < 28 := by
        rcases onS_cases (S := scnOf (trP P p 0)) (pAt P p) with z | z | z
        · omega
        · have : cN (scnOf (trP P p 0)) = p := rfl
          omega
        · have : cS (scnOf (trP P p 0)) = 0 := rfl
          omega
      have head : ∀ kk, fX5_settle_l49 kk (f + 1) M (nI p) = if onS (scnOf (trP P p 0)) (pAt P p) = 0 then fX5_settle_l49 kk f (sI (sI M 43 p (nI (sqC (pW P) (pAt P p)))) 50 (sqC (pW P) (pAt P p)) (nI (10 + p))) (nI (p + 1)) else some (5, sI M 43 p (nI (sqC (pW P) (pAt P p)))) := fun kk => by
        rw [fX5_settle_l49.eq_2, g2, le_f hp (by omega)]
        simp (disch := first | decide | omega) only [gd_inb, ix_nI, bnd_r, gI_eq, e43]
        rw [sqOf_cls g0 h64]
        simp (disch := first | decide | omega) only [gd_inb, ix_nI, bnd_r, gI_eq, gI_ne]
        rw [s3 _ hq, nl10, nI_add, nI_1]
        by_cases z : onS (scnOf (trP P p 0)) (pAt P p) = 0
        · rw [eqz_t z, if_pos z]
        · rw [eqz_f (by omega) (by omega), if_neg z]
      by_cases z : onS (scnOf (trP P p 0)) (pAt P p) = 0
      · obtain ⟨t1, t2, t3⟩ := on_tr z
        have hS2 : STT M0 (sI (sI M 43 p (nI (sqC (pW P) (pAt P p)))) 50 (sqC (pW P) (pAt P p)) (nI (10 + p))) P (p + 1) 0 := by
          refine ⟨(hF.pI (by decide)).pI (by decide), fun k hk => ?_, fun k hk => ?_, fun q hq2 => ?_⟩
          · rw [gI_ne _ _ _ _ _ _ (by decide)]
            by_cases e : k = p
            · rw [e, gI_eq, if_pos (by omega)]
            · rw [gI_nk _ _ _ _ _ _ e, s1 k hk]
              by_cases y : k < p
              · rw [if_pos y, if_pos (by omega)]
              · rw [if_neg y, if_neg (by omega)]
          · simp (disch := decide) only [gI_ne]; exact s2 k hk
          · rw [on_trN z]
            by_cases e : q = pAt P p
            · rw [e, gI_eq, if_pos rfl]
            · rw [gI_nk _ _ _ _ _ _ (fun y => e (sqC_inj hq2 hq y)), if_neg e, gI_ne _ _ _ _ _ _ (by decide)]; exact s3 q hq2
        have hd2 : PDs (trP P (p + 1) 0) := by
          obtain ⟨d1, d2, d3, d4, d5⟩ := hd
          refine ⟨fun i j hi hj e => ?_, d2, fun i j _ hj => absurd hj (Nat.not_lt_zero j), fun i hi => ?_, d5⟩
          · have hi : i < p + 1 := hi
            have hj : j < p + 1 := hj
            by_cases y1 : i = p
            · by_cases y2 : j = p
              · omega
              · rw [y1] at e; exact absurd e.symm (t1 j (by omega))
            · by_cases y2 : j = p
              · rw [y2] at e; exact absurd e (t1 i (by omega))
              · exact d1 i j (show i < p by omega) (show j < p by omega) e
          · have hi : i < p + 1 := hi
            by_cases y1 : i = p
            · rw [y1]; exact t3
            · exact d4 i (show i < p by omega)
        rcases men_l49 h hP hI n (p + 1) f _ (by omega) (by omega) hS2 hd2 with ⟨M2, m1, m2⟩ | ⟨M2, m1, m2⟩
        · exact Or.inl ⟨M2, m1, fun kk => by rw [head, if_pos z]; exact m2 kk⟩
        · exact Or.inr ⟨M2, m1, fun kk => by rw [head, if_pos z]; exact m2 kk⟩
      · refine Or.inl ⟨sI M 43 p (nI (sqC (pW P) (pAt P p))), ⟨hF.pI (by decide), fun hd => z ?_⟩, fun kk => by rw [head, if_neg z]⟩
        exact on_tr2 (fun k hk e => by have := hd.1 k p (by omega) hp e; omega) (fun k hk => absurd hk (Nat.not_lt_zero k)) (hd.2.2.2.1 p hp)
  | _, _, 0, _, _, h, _, _ => absurd h (Nat.not_lt_zero _)
theorem shn_l112 {M0 : MM} {P : PARD} (h : CDP M0 P) (hP : DPW P) (hI : insP P) : ∀ n p f M, p + n = pS P → n < f → STT M0 M P (pN P) p → PDs (trP P (pN P) p) →
    (∃ M2, Fr [43, 46, 50] M0 M2 ∧ ¬ PDs P ∧ fX5_settle_l112 f M (nI p) = some (5, M2)) ∨ (∃ M2, STT M0 M2 P (pN P) (pS P) ∧ PDs P ∧ fX5_settle_l112 f M (nI p) = some (0, M2))
  | n, p, f + 1, M, h1, h2, hS, hd => by
    have n8 := hP.2.2.1
    have p8 := hP.2.2.2.1
    obtain ⟨hF, s1, s2, s3⟩ := id hS
    have g0 : gI M 42 0 = nI (pW P) := by rw [hF.gi (by decide)]; exact h.1
    have g2 : gI M 42 3 = nI (pS P) := by rw [hF.gi (by decide)]; exact h.2.2.2.1
    cases n with
    | zero =>
      have e : p = pS P := by omega
      subst e
      exact Or.inr ⟨M, hS, hd, by rw [fX5_settle_l112.eq_2, g2, le_t (Nat.le_refl _) (by omega)]⟩
    | succ n =>
      have hp : p < pS P := by omega
      have hq := hI.2.2 p hp
      have hl := sqC_lt hP.1.2 hP.2.1.2 hq
      have h64 := (hP.2.2.2.2.2.2 p hp).2.1
      have e43 : gI M 46 p = nI (pSh P p 1) := by rw [s2 p hp, if_neg (Nat.lt_irrefl p)]
      have hon : onS (scnOf (trP P (pN P) p)) (pSh P p 1) < 28 := by
        rcases onS_cases (S := scnOf (trP P (pN P) p)) (pSh P p 1) with z | z | z
        · omega
        · have : cN (scnOf (trP P (pN P) p)) = pN P := rfl
          omega
        · have : cS (scnOf (trP P (pN P) p)) = p := rfl
          omega
      have head : fX5_settle_l112 (f + 1) M (nI p) = if onS (scnOf (trP P (pN P) p)) (pSh P p 1) = 0 then fX5_settle_l112 f (sI (sI M 46 p (nI (sqC (pW P) (pSh P p 1)))) 50 (sqC (pW P) (pSh P p 1)) (nI (20 + p))) (nI (p + 1)) else some (5, sI M 46 p (nI (sqC (pW P) (pSh P p 1)))) := by
        rw [fX5_settle_l112.eq_2, g2, le_f hp (by omega)]
        simp (disch := first | decide | omega) only [gd_inb, ix_nI, bnd_r, gI_eq, e43]
        rw [sqOf_cls g0 h64]
        simp (disch := first | decide | omega) only [gd_inb, ix_nI, bnd_r, gI_eq, gI_ne]
        rw [s3 _ hq, nl20, nI_add, nI_1]
        by_cases z : onS (scnOf (trP P (pN P) p)) (pSh P p 1) = 0
        · rw [eqz_t z, if_pos z]
        · rw [eqz_f (by omega) (by omega), if_neg z]
      by_cases z : onS (scnOf (trP P (pN P) p)) (pSh P p 1) = 0
      · obtain ⟨t1, t2, t3⟩ := on_tr z
        have hS2 : STT M0 (sI (sI M 46 p (nI (sqC (pW P) (pSh P p 1)))) 50 (sqC (pW P) (pSh P p 1)) (nI (20 + p))) P (pN P) (p + 1) := by
          refine ⟨(hF.pI (by decide)).pI (by decide), fun k hk => ?_, fun k hk => ?_, fun q hq2 => ?_⟩
          · simp (disch := decide) only [gI_ne]; exact s1 k hk
          · rw [gI_ne _ _ _ _ _ _ (by decide)]
            by_cases e : k = p
            · rw [e, gI_eq, if_pos (by omega)]
            · rw [gI_nk _ _ _ _ _ _ e, s2 k hk]
              by_cases y : k < p
              · rw [if_pos y, if_pos (by omega)]
              · rw [if_neg y, if_neg (by omega)]
          · rw [on_trS z]
            by_cases e : q = pSh P p 1
            · rw [e, gI_eq, if_pos rfl]
            · rw [gI_nk _ _ _ _ _ _ (fun y => e (sqC_inj hq2 hq y)), if_neg e, gI_ne _ _ _ _ _ _ (by decide)]; exact s3 q hq2
        have hd2 : PDs (trP P (pN P) (p + 1)) := by
          obtain ⟨d1, d2, d3, d4, d5⟩ := hd
          refine ⟨d1, fun i j hi hj e => ?_, fun i j hi hj => ?_, d4, fun i hi => ?_⟩
          · have hi : i < p + 1 := hi
            have hj : j < p + 1 := hj
            by_cases y1 : i = p
            · by_cases y2 : j = p
              · omega
              · rw [y1] at e; exact absurd e.symm (t2 j (by omega))
            · by_cases y2 : j = p
              · rw [y2] at e; exact absurd e (t2 i (by omega))
              · exact d2 i j (show i < p by omega) (show j < p by omega) e
          · have hj : j < p + 1 := hj
            by_cases y2 : j = p
            · rw [y2]; exact t1 i hi
            · exact d3 i j hi (show j < p by omega)
          · have hi : i < p + 1 := hi
            by_cases y1 : i = p
            · rw [y1]; exact t3
            · exact d5 i (show i < p by omega)
        rw [head, if_pos z]
        exact shn_l112 h hP hI n (p + 1) f _ (by omega) (by omega) hS2 hd2
      · refine Or.inl ⟨sI M 46 p (nI (sqC (pW P) (pSh P p 1))), hF.pI (by decide), fun hd => z ?_, by rw [head, if_neg z]⟩
        exact on_tr2 (fun k hk => hd.2.2.1 k p hk hp) (fun k hk e => by have := hd.2.1 k p (by omega) hp e; omega) (hd.2.2.2.2 p hp)
  | _, _, 0, _, _, h, _, _ => absurd h (Nat.not_lt_zero _)
theorem PW_of {P : PARD} (hP : DPW P) (hI : insP P) (hd : PDs P) : PW P := by
  obtain ⟨b1, b2, b3, b4, b5, b6, b7⟩ := hP
  obtain ⟨d1, d2, d3, d4, d5⟩ := hd
  exact ⟨b1, b2, b3, b4, fun q hq => hI.1 q (b5 q hq) hq, fun k hk => ⟨hI.2.1 k hk, (b6 k hk).2⟩, fun k hk => ⟨(b7 k hk).1, hI.2.2 k hk, (b7 k hk).2.2⟩, d1, d2, d3, d4, d5⟩
theorem settle_cls {M : MM} {P : PARD} (h : CDP M P) (hP : DPW P) : ∃ c M2, fX5_settle M = some (nI c, M2) ∧ Fr [43, 46, 50] M M2 ∧ ((c = 4 ∧ ¬ insP P) ∨ (c = 5 ∧ insP P ∧ ¬ PDs P) ∨ (c = 0 ∧ PW P ∧ CP M2 42 P)) := by
  have n8 := hP.2.2.1
  have p8 := hP.2.2.2.1
  unfold fX5_settle
  rcases anyOut_cls h hP with ⟨e1, e2⟩ | ⟨e1, hI⟩
  · rw [e1, bd_s, if_neg i10]
    exact ⟨4, M, rfl, Fr.rfl, Or.inl ⟨rfl, e2⟩⟩
  · rw [e1, bd_s, if_pos rfl]
    obtain ⟨M1, ⟨w1, w2⟩, w3⟩ := wall_l11 h hP hI 64 0 FU M rfl (by show _ < 5000; omega) Fr.rfl (fun q hq => by
      rw [h.2.2.2.2.2.2.2.1 _ (sqC_lt hP.1.2 hP.2.1.2 hq), if_neg (fun z => by omega)])
    have hS1 : STT M M1 P 0 0 := ⟨w1.mono (by decide), fun k hk => by rw [w1.gi (by decide), if_neg (Nat.not_lt_zero k)]; exact (h.2.2.2.2.1 k hk).1, fun k hk => by rw [w1.gi (by decide), if_neg (Nat.not_lt_zero k)]; exact (h.2.2.2.2.2.1 k hk).2.1, fun q hq => by
      rw [w2 q hq]
      show _ = nI (if pWa P q = true then 1 else 0)
      split <;> rfl⟩
    have hd1 : PDs (trP P 0 0) := ⟨fun i _ hi => absurd hi (Nat.not_lt_zero i), fun i _ hi => absurd hi (Nat.not_lt_zero i), fun i _ hi => absurd hi (Nat.not_lt_zero i), fun i hi => absurd hi (Nat.not_lt_zero i), fun i hi => absurd hi (Nat.not_lt_zero i)⟩
    rw [show fX5_settle_l11 (fun M12 => fX5_settle_l49 (fun M28 => fX5_settle_l112 FU M28 0) FU M12 0) FU M 0 = _ from w3 _]
    rcases men_l49 h hP hI (pN P) 0 FU M1 (by omega) (by show _ < 5000; omega) hS1 hd1 with ⟨M2, ⟨m1, m2⟩, m3⟩ | ⟨M2, ⟨m1, m2⟩, m3⟩
    · exact ⟨5, M2, m3 _, m1, Or.inr (Or.inl ⟨rfl, hI, m2⟩)⟩
    · rw [show fX5_settle_l49 (fun M28 => fX5_settle_l112 FU M28 0) FU M1 0 = _ from m3 _]
      rcases shn_l112 h hP hI (pS P) 0 FU M2 (by omega) (by show _ < 5000; omega) m1 m2 with ⟨M3, k1, k2, k3⟩ | ⟨M3, k1, k2, k3⟩
      · exact ⟨5, M3, k3, k1, Or.inr (Or.inl ⟨rfl, hI, k2⟩)⟩
      · obtain ⟨hF, s1, s2, s3⟩ := k1
        obtain ⟨a1, a2, a3, a4, a5, a6, a7, a10, a11⟩ := h
        refine ⟨0, M3, k3, hF, Or.inr (Or.inr ⟨rfl, PW_of hP hI k2, ?_⟩)⟩
        refine ⟨by rw [hF.gi (by decide)]; exact a1, by rw [hF.gi (by decide)]; exact a2, by rw [hF.gi (by decide)]; exact a3, by rw [hF.gi (by decide)]; exact a4, fun k hk => ⟨?_, ?_⟩, fun k hk => ⟨?_, ?_, ?_, ?_, ?_⟩, fun c hc => ?_, fun k hk => ?_⟩
        · rw [s1 k hk, if_pos hk]
        · rw [hF.gi (by decide)]; exact (a5 k hk).2
        · rw [hF.gi (by decide)]; exact (a6 k hk).1
        · rw [s2 k hk, if_pos hk]
        · rw [hF.gi (by decide)]; exact (a6 k hk).2.2.1
        · rw [hF.gi (by decide)]; exact (a6 k hk).2.2.2.1
        · rw [hF.gi (by decide)]; exact (a6 k hk).2.2.2.2
        · have hw0 : 0 < pW P := by have := hP.1.1; omega
          have hq := sq8_inP (h := pH P) hw0 hP.1.2 hc
          have := s3 _ hq
          rw [sqC_sq8 hw0 hP.1.2] at this
          exact this
        · rw [hF.gi (by decide)]; exact a11 k hk
