/-! ===== text: the numbers of a line, class ===== -/
theorem dvT_100 {tp : Nat → Nat} {len s : Nat} (h : tkK tp len s = 2) : dvT tp len s < 100 := by
  obtain ⟨h1, h2, h3, h4, h5, h6⟩ := tkK_2 h
  have hge : s ≤ tkD tp len s := runE_ge _ _ _ _
  have hd : ∀ j, j < tkD tp len s - s → tp (s + j) ≤ 57 := fun j hj =>
    (of_decide_eq_true (runE_all (fun j => isDb (tp j)) len 600 s (s + j) (by omega) (by show s + j < tkD tp len s; omega)).1).2
  unfold dvT
  generalize tkD tp len s - s = k at *
  rcases (show k = 0 ∨ k = 1 ∨ k = 2 by omega) with rfl | rfl | rfl
  · show 0 < 100; decide
  · have := hd 0 (by decide)
    show 10 * 0 + (tp (s + 0) - 48) < 100
    omega
  · have := hd 0 (by decide)
    have := hd 1 (by decide)
    show 10 * (10 * 0 + (tp (s + 0) - 48)) + (tp (s + 1) - 48) < 100
    omega
theorem nums_cls {tp : Nat → Nat} {len w : Nat} {σ : RST} (hw : w < 20) : ∀ n k f M, k + n = nmN w → n < f → CS M tp len (stK tp len w k σ) → (stK tp len w k σ).2.1 ≠ 1 → ((stK tp len w k σ).2.1 = 0 → ∀ j, j < k → gI M 58 j = nI (vlK tp len w j σ)) →
    ∃ b M2, fX7_readNumbers_l2 f M (nI w) (nI k) = some (bI b, M2) ∧ (Fr [41, 58] M M2 ∧ gI M2 41 11 = gI M 41 11) ∧
      (b = true → CS M2 tp len (stK tp len w (nmN w) σ) ∧ (stK tp len w (nmN w) σ).2.1 ≠ 1 ∧ ((stK tp len w (nmN w) σ).2.1 = 0 → ∀ j, j < nmN w → gI M2 58 j = nI (vlK tp len w j σ))) ∧
      (b = false → ∃ s, CS M2 tp len s ∧ stK tp len w (nmN w) σ = rfF s)
  | n, k, f + 1, M, h1, h2, hC, hne, hv => by
    have h5 := nm_5 w hw
    rw [fX7_readNumbers_l2.eq_2, gd_inb hw (by decide), ix_nI (by omega), nm_v w hw]
    cases n with
    | zero =>
      have e : k = nmN w := by omega
      subst e
      refine ⟨true, M, by rw [le_t (Nat.le_refl _) (by omega)]; rfl, ⟨Fr.rfl, rfl⟩, fun _ => ⟨hC, hne, hv⟩, fun z => by cases z⟩
    | succ n =>
      rw [le_f (show k < nmN w by omega) (by omega), hC.2.2.2.2.1, nl2]
      have hk5 := tkK_5 tp len (stK tp len w k σ).1
      by_cases c : tkK tp len (stK tp len w k σ).1 = 2
      · have hv100 := dvT_100 c
        obtain ⟨hG, hL⟩ := bn_20 w hw k (by omega)
        have hn : fX7_numberOfToken M = some (nI (dvT tp len (stK tp len w k σ).1)) := num_cls hC.1 hC.2.1 hC.2.2.2.1 c hC.2.2.2.2.2.1 hC.2.2.2.2.2.2.1
        rw [eqn_t c, hn, bd_s, gd_inb (by omega) (by decide), bnd_r, gd_inb (by omega) (by decide), ix_nI (by omega), gI_eq, bl_v w hw k (by omega)]
        show ∃ b M2, (if nI (dvT tp len (stK tp len w k σ).1) < nI (bnL w k) then _ else _) = _ ∧ _
        have hC1 : CS (sI M 58 k (nI (dvT tp len (stK tp len w k σ).1))) tp len (stK tp len w k σ) := CS_fr (L := [58]) hC (Fr.rfl.pI (by decide)) (by decide) (by decide)
        have hF1 : Fr [41, 58] M (sI M 58 k (nI (dvT tp len (stK tp len w k σ).1))) := Fr.rfl.pI (by decide)
        have e11 : gI (sI M 58 k (nI (dvT tp len (stK tp len w k σ).1))) 41 11 = gI M 41 11 := gI_ne _ _ _ _ _ _ (by decide)
        have g58 : ∀ j, j < k → gI (sI M 58 k (nI (dvT tp len (stK tp len w k σ).1))) 58 j = gI M 58 j := fun j hj => gI_nk _ _ _ _ _ _ (by omega)
        have g5k : gI (sI M 58 k (nI (dvT tp len (stK tp len w k σ).1))) 58 k = nI (dvT tp len (stK tp len w k σ).1) := gI_eq _ _ _ _
        generalize hM1 : sI M 58 k (nI (dvT tp len (stK tp len w k σ).1)) = M1 at *
        unfold fX7_readNumbers_j63 fX7_readNumbers_j72
        rw [gd_inb (by omega) (by decide), show (5 : Int32) = nI 5 from rfl, pk_mul, nI_add, gd_inb (by omega) (by decide), ix_nI (by omega), bg_v w hw k (by omega), hC1.2.2.2.2.2.1, nI_1]
        by_cases z : bnL w k ≤ dvT tp len (stK tp len w k σ).1 ∧ dvT tp len (stK tp len w k σ).1 ≤ bnG w k
        · rw [lt_f z.1 (by omega), le_t z.2 (by omega)]
          obtain ⟨M2, t1, t2, t3⟩ := tok_CS hC1
          have e1 : stK tp len w (k + 1) σ = mvF tp len (stK tp len w k σ) := by
            show rdS tp len _ _ _ = _
            unfold rdS; rw [if_neg hne, if_pos c, if_pos z]
          rw [← e1] at t3
          obtain ⟨b, M3, b1, b2, b3, b4⟩ := nums_cls hw n (k + 1) f M2 (by omega) (by omega) t3 (by rw [e1]; exact hne) (fun h0 j hj => by
            rw [t2.1.gi (by decide)]
            rw [e1] at h0
            by_cases e : j = k
            · subst e
              rw [g5k]; unfold vlK rdV; rw [if_neg hne, if_pos c, if_pos z]
            · rw [g58 j (by omega)]; exact hv h0 j (by omega))
          exact ⟨b, M3, by rw [t1, bd_s]; exact b1, ⟨hF1.trans ((t2.1.mono (by decide)).trans b2.1), b2.2.trans (t2.2.trans e11)⟩, b3, b4⟩
        · obtain ⟨M2, m1, m2, m3⟩ := mark_CS (k := 2) (q := (stK tp len w k σ).1) hC1 (by decide)
          obtain ⟨M3, t1, t2, t3⟩ := tok_CS m3
          have e1 : stK tp len w (k + 1) σ = mvF tp len (mkF 2 (stK tp len w k σ).1 (stK tp len w k σ)) := by
            show rdS tp len _ _ _ = _
            unfold rdS; rw [if_neg hne, if_pos c, if_neg z]
          have m12 := m2.trans t2
          rw [← e1] at t3
          have hf : (stK tp len w (k + 1) σ).2.1 ≠ 1 ∧ (stK tp len w (k + 1) σ).2.1 ≠ 0 := by
            rw [e1]
            show (mkF 2 (stK tp len w k σ).1 (stK tp len w k σ)).2.1 ≠ 1 ∧ (mkF 2 (stK tp len w k σ).1 (stK tp len w k σ)).2.1 ≠ 0
            unfold mkF
            by_cases y : (stK tp len w k σ).2.1 = 0
            · rw [if_pos y]; exact ⟨by show ¬ (2 : Nat) = 1; decide, by show ¬ (2 : Nat) = 0; decide⟩
            · rw [if_neg y]; exact ⟨hne, y⟩
          obtain ⟨b, M4, b1, b2, b3, b4⟩ := nums_cls hw n (k + 1) f M3 (by omega) (by omega) t3 hf.1 (fun h0 => absurd h0 hf.2)
          refine ⟨b, M4, ?_, ⟨hF1.trans ((m12.1.mono (by decide)).trans b2.1), b2.2.trans (m12.2.trans e11)⟩, b3, b4⟩
          have hh : (fX7_mark M1 (nI 2) (nI (stK tp len w k σ).1)).bind (fun p17 => (fX7_nextToken p17).bind (fun p22 => fX7_readNumbers_l2 f p22 (nI w) (nI (k + 1)))) = some (bI b, M4) := by
            rw [m1, bd_s, t1, bd_s]; exact b1
          by_cases y : dvT tp len (stK tp len w k σ).1 < bnL w k
          · rw [lt_t y (by omega)]; exact hh
          · rw [lt_f (by omega) (by omega), le_f (by omega) (by omega)]; exact hh
      · rw [eqn_f c (by omega) (by decide)]
        refine ⟨false, M, rfl, ⟨Fr.rfl, rfl⟩, fun z => absurd z Bool.false_ne_true, fun _ => ⟨_, hC, ?_⟩⟩
        have e1 : stK tp len w (k + 1) σ = rfF (stK tp len w k σ) := by
          show rdS tp len _ _ _ = _
          unfold rdS; rw [if_neg hne, if_neg c]
        have := stK_1 (tp := tp) (len := len) (w := w) (k := k + 1) (σ := σ) (by rw [e1]; rfl) n
        rw [show nmN w = k + 1 + n by omega, this, e1]
  | _, _, 0, _, _, h, _, _, _ => absurd h (Nat.not_lt_zero _)
