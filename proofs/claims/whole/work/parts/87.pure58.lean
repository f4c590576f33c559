/-! ===== text: what the class keeps of a line ===== -/
theorem keepL_cls {M : MM} {X : Nat → Nat} {w kd : Nat} {v : Nat → Nat} (h7 : 7 ≤ w) (hw : w ≤ 12) (h : CDL M X) (hX : LWd X) (hv : ∀ j, j < nmN w → (bnL w j ≤ v j ∧ v j ≤ bnG w j) ∧ gI M 58 j = nI (v j)) (hk : w = 12 → kd < 4 ∧ gI M 41 11 = nI kd) :
    ∃ M2, fX7_keepOfLaw M (nI w) = some M2 ∧ Fr [51] M M2 ∧ CDL M2 (kpL w v kd X) ∧ LWd (kpL w v kd X) := by
  obtain ⟨l0, l1, l2, l3, l4, l5⟩ := hX
  have put : ∀ i y, gI M 51 i = gI M 51 i → ∀ j, gI (sI M 51 i (nI y)) 51 j = if j = i then nI y else gI M 51 j := fun i y _ j => by
    by_cases e : j = i
    · rw [if_pos e, e, gI_eq]
    · rw [if_neg e, gI_nk _ _ _ _ _ _ e]
  rcases (show w = 7 ∨ w = 8 ∨ w = 9 ∨ w = 10 ∨ w = 11 ∨ w = 12 by omega) with rfl | rfl | rfl | rfl | rfl | rfl
  · obtain ⟨⟨u1, u2⟩, u3⟩ := hv 0 (by decide)
    have u2 : v 0 ≤ 9 := u2
    refine ⟨sI M 51 0 (nI (v 0)), ?_, Fr.rfl.pI (by decide), fun j hj => ?_, ?_⟩
    · unfold fX7_keepOfLaw
      rw [if_pos (show nI 7 = 7 from rfl), bnd_r, ix0l, u3]; rfl
    · rw [put _ _ rfl]
      show _ = nI (if j = 0 then v 0 else X j)
      by_cases e : j = 0
      · rw [if_pos e, if_pos e]
      · rw [if_neg e, if_neg e]; exact h j hj
    · exact ⟨u2, l1, l2, l3, l4, l5⟩
  · obtain ⟨⟨u1, u2⟩, u3⟩ := hv 0 (by decide)
    have u2 : v 0 ≤ 20 := u2
    have u1 : 1 ≤ v 0 := u1
    refine ⟨sI M 51 3 (nI (v 0)), ?_, Fr.rfl.pI (by decide), fun j hj => ?_, ?_⟩
    · unfold fX7_keepOfLaw fX7_keepOfLaw_j19
      rw [if_neg (show ¬ nI 8 = 7 by decide), if_pos (show nI 8 = 8 from rfl), bnd_r, ix0l, u3]; rfl
    · rw [put _ _ rfl]
      show _ = nI (if j = 3 then v 0 else X j)
      by_cases e : j = 3
      · rw [if_pos e, if_pos e]
      · rw [if_neg e, if_neg e]; exact h j hj
    · exact ⟨l0, l1, l2, ⟨u1, u2⟩, l4, l5⟩
  · obtain ⟨⟨u1, u2⟩, u3⟩ := hv 0 (by decide)
    have u2 : v 0 ≤ 2 := u2
    refine ⟨sI M 51 4 (nI (v 0)), ?_, Fr.rfl.pI (by decide), fun j hj => ?_, ?_⟩
    · unfold fX7_keepOfLaw fX7_keepOfLaw_j19 fX7_keepOfLaw_j38
      rw [if_neg (show ¬ nI 9 = 7 by decide), if_neg (show ¬ nI 9 = 8 by decide), if_pos (show nI 9 = 9 from rfl), bnd_r, ix0l, u3]; rfl
    · rw [put _ _ rfl]
      show _ = nI (if j = 4 then v 0 else X j)
      by_cases e : j = 4
      · rw [if_pos e, if_pos e]
      · rw [if_neg e, if_neg e]; exact h j hj
    · exact ⟨l0, l1, l2, l3, u2, l5⟩
  · obtain ⟨⟨u1, u2⟩, u3⟩ := hv 0 (by decide)
    have u2 : v 0 ≤ 9 := u2
    refine ⟨sI M 51 5 (nI (v 0)), ?_, Fr.rfl.pI (by decide), fun j hj => ?_, ?_⟩
    · unfold fX7_keepOfLaw fX7_keepOfLaw_j19 fX7_keepOfLaw_j38 fX7_keepOfLaw_j57
      rw [if_neg (show ¬ nI 10 = 7 by decide), if_neg (show ¬ nI 10 = 8 by decide), if_neg (show ¬ nI 10 = 9 by decide), if_pos (show nI 10 = 10 from rfl), bnd_r, ix0l, u3]; rfl
    · rw [put _ _ rfl]
      show _ = nI (if j = 5 then v 0 else X j)
      by_cases e : j = 5
      · rw [if_pos e, if_pos e]
      · rw [if_neg e, if_neg e]; exact h j hj
    · exact ⟨l0, l1, l2, l3, l4, u2⟩
  · refine ⟨sI M 51 1 (nI 0), ?_, Fr.rfl.pI (by decide), fun j hj => ?_, ?_⟩
    · unfold fX7_keepOfLaw fX7_keepOfLaw_j19 fX7_keepOfLaw_j38 fX7_keepOfLaw_j57 fX7_keepOfLaw_j76
      rw [if_neg (show ¬ nI 11 = 7 by decide), if_neg (show ¬ nI 11 = 8 by decide), if_neg (show ¬ nI 11 = 9 by decide), if_neg (show ¬ nI 11 = 10 by decide), if_pos (show nI 11 = 11 from rfl), bnd_r]; rfl
    · rw [put _ _ rfl]
      show _ = nI (if j = 1 then 0 else X j)
      by_cases e : j = 1
      · rw [if_pos e, if_pos e]
      · rw [if_neg e, if_neg e]; exact h j hj
    · exact ⟨l0, Nat.zero_le _, l2, l3, l4, l5⟩
  · obtain ⟨k1, k2⟩ := hk rfl
    refine ⟨sI M 51 2 (nI (X 2 ||| 2 ^ kd)), ?_, Fr.rfl.pI (by decide), fun j hj => ?_, ?_⟩
    · unfold fX7_keepOfLaw fX7_keepOfLaw_j19 fX7_keepOfLaw_j38 fX7_keepOfLaw_j57 fX7_keepOfLaw_j76 fX7_keepOfLaw_j90
      rw [if_neg (show ¬ nI 12 = 7 by decide), if_neg (show ¬ nI 12 = 8 by decide), if_neg (show ¬ nI 12 = 9 by decide), if_neg (show ¬ nI 12 = 10 by decide), if_neg (show ¬ nI 12 = 11 by decide), if_pos (show nI 12 = 12 from rfl), k2, h 2 (by decide), shl_nI (by omega), or_nI, bnd_r]
    · rw [put _ _ rfl]
      show _ = nI (if j = 2 then X 2 ||| 2 ^ kd else X j)
      by_cases e : j = 2
      · rw [if_pos e, if_pos e]
      · rw [if_neg e, if_neg e]; exact h j hj
    · exact ⟨l0, l1, Nat.or_lt_two_pow (n := 4) l2 (Nat.pow_lt_pow_right (by decide) k1), l3, l4, l5⟩
theorem keepE_cls {M : MM} {E : EVD} {w : Nat} {v : Nat → Nat} (h13 : 13 ≤ w) (hw : w ≤ 17) (h : CDE M E) (hE : EWd E) (hv : ∀ j, j < nmN w → (bnL w j ≤ v j ∧ v j ≤ bnG w j) ∧ gI M 58 j = nI (v j)) (hf : E.1 < 40) :
    ∃ M2, fX2_add M (nI (w - 13)) = some M2 ∧ Fr [52, 53, 54, 55] M M2 ∧ CDE M2 (kpE w v E) ∧ EWd (kpE w v E) := by
  obtain ⟨h1, h2⟩ := h
  have hg0 : w ≤ 16 → v 0 < 8 ∧ gI M 58 0 = nI (v 0) := fun z => by
    rcases (show w = 13 ∨ w = 14 ∨ w = 15 ∨ w = 16 by omega) with rfl | rfl | rfl | rfl <;> exact ⟨Nat.lt_succ_of_le (hv 0 (by decide)).1.2, (hv 0 (by decide)).2⟩
  have hg1 : w ≤ 14 → v 1 < 8 ∧ gI M 58 1 = nI (v 1) := fun z => by
    rcases (show w = 13 ∨ w = 14 by omega) with rfl | rfl <;> exact ⟨Nat.lt_succ_of_le (hv 1 (by decide)).1.2, (hv 1 (by decide)).2⟩
  have hF : Fr [52, 53, 54, 55] M (sI (sI (sI (sI M 53 E.1 (nI (w - 13))) 54 E.1 (if w = 17 then -1 else nI (v 0))) 55 E.1 (if w ≤ 14 then nI (v 1) else -1)) 52 0 (nI (E.1 + 1))) := (((Fr.rfl.pI (by decide)).pI (by decide)).pI (by decide)).pI (by decide)
  refine ⟨_, ?_, hF, ⟨by rw [gI_eq]; rfl, fun i hi c hc => ?_⟩, ⟨by show E.1 + 1 ≤ 40; omega, fun i hi => ?_⟩⟩
  · unfold fX2_add fX2_add_j40 fX2_add_j58 fX2_add_j65
    simp (disch := first | decide | omega) only [ix0l, ix1l, bnd_r, gI_ne, h1, gd_inb, ix_nI, nI_1]
    rw [show (40 : Int32) = nI 40 from rfl, lt_t hf (by decide), nl4, nl1]
    by_cases c1 : w = 17
    · rw [eqn_t (by omega), nl0, eqn_f (by omega) (by omega) (by decide), eqn_f (by omega) (by omega) (by decide), if_pos c1, if_neg (by omega)]
    · rw [eqn_f (by omega) (by omega) (by decide), if_neg c1, (hg0 (by omega)).2]
      by_cases c2 : w = 13
      · rw [nl0, eqn_t (by omega), if_pos (by omega), (hg1 (by omega)).2]
      · rw [nl0, eqn_f (by omega) (by omega) (by decide)]
        by_cases c3 : w = 14
        · rw [eqn_t (by omega), if_pos (by omega), (hg1 (by omega)).2]
        · rw [eqn_f (by omega) (by omega) (by decide), if_neg (by omega)]
  · have hi : i < E.1 + 1 := hi
    show gI _ _ i = if i = E.1 then (if c = 0 then nI (w - 13) else if c = 1 then (if w = 17 then -1 else nI (v 0)) else (if w ≤ 14 then nI (v 1) else -1)) else E.2 i c
    rw [gI_ne _ _ _ _ _ _ (by omega)]
    by_cases e : i = E.1
    · rw [if_pos e, e]
      rcases (show c = 0 ∨ c = 1 ∨ c = 2 by omega) with rfl | rfl | rfl
      · simp (disch := decide) only [gI_ne, gI_eq]; rfl
      · simp (disch := decide) only [gI_ne, gI_eq]; rfl
      · simp (disch := decide) only [gI_ne, gI_eq]; rfl
    · rw [if_neg e]
      simp (disch := assumption) only [gI_nk]
      exact h2 i (by omega) c hc
  · have hi : i < E.1 + 1 := hi
    show (∃ j : Nat, j < 5 ∧ (if i = E.1 then nI (w - 13) else E.2 i 0) = nI j) ∧ (∀ c, c = 1 ∨ c = 2 → (if i = E.1 then (if c = 0 then nI (w - 13) else if c = 1 then (if w = 17 then -1 else nI (v 0)) else (if w ≤ 14 then nI (v 1) else -1)) else E.2 i c) = -1 ∨ ∃ j : Nat, j < 8 ∧ (if i = E.1 then (if c = 0 then nI (w - 13) else if c = 1 then (if w = 17 then -1 else nI (v 0)) else (if w ≤ 14 then nI (v 1) else -1)) else E.2 i c) = nI j) ∧ ((if i = E.1 then nI (w - 13) else E.2 i 0) = 0 ∨ (if i = E.1 then nI (w - 13) else E.2 i 0) = 1 → ∃ j : Nat, j < 8 ∧ (if i = E.1 then (if w ≤ 14 then nI (v 1) else -1) else E.2 i 2) = nI j)
    by_cases e : i = E.1
    · rw [if_pos e, if_pos e]
      refine ⟨⟨w - 13, by omega, rfl⟩, fun c hc => ?_, fun z => ?_⟩
      · rw [if_pos e]
        rcases hc with rfl | rfl
        · rw [if_neg (by decide), if_pos rfl]
          by_cases c1 : w = 17
          · rw [if_pos c1]; exact Or.inl rfl
          · rw [if_neg c1]; exact Or.inr ⟨v 0, (hg0 (by omega)).1, rfl⟩
        · rw [if_neg (by decide), if_neg (by decide)]
          by_cases c1 : w ≤ 14
          · rw [if_pos c1]; exact Or.inr ⟨v 1, (hg1 c1).1, rfl⟩
          · rw [if_neg c1]; exact Or.inl rfl
      · have hw14 : w ≤ 14 := by
          rcases z with z | z
          · have := (nI_eq (b := 0) (by omega) (by decide)).mp z; omega
          · have := (nI_eq (b := 1) (by omega) (by decide)).mp z; omega
        rw [if_pos hw14]; exact ⟨v 1, (hg1 hw14).1, rfl⟩
    · simp only [if_neg e]
      exact hE.2 i (by omega)
theorem keepS_cls {M : MM} {S : Nat → Nat} {w : Nat} {v : Nat → Nat} (h18 : 18 ≤ w) (hw : w ≤ 19) (h : CDS M S) (hS : SWd S) (hv : ∀ j, j < nmN w → (bnL w j ≤ v j ∧ v j ≤ bnG w j) ∧ gI M 58 j = nI (v j)) :
    ∃ M2, fX7_keep M (nI w) = some M2 ∧ Fr [56, 57] M M2 ∧ CDS M2 (kpS w v S) ∧ SWd (kpS w v S) := by
  unfold fX7_keep
  rw [nl6, lt_t (show 6 < w by omega) (by omega), show (12 : Int32) = nI 12 from rfl, lt_t (show 12 < w by omega) (by omega), nl18, le_t h18 (by omega), show (19 : Int32) = nI 19 from rfl, ix0l, ix1l]
  by_cases c : w = 19
  · subst c
    obtain ⟨⟨u1, u2⟩, u3⟩ := hv 0 (by decide)
    have u2 : v 0 ≤ 9 := u2
    refine ⟨sI M 56 0 (nI (v 0)), by rw [eqn_t rfl, bnd_r, u3], Fr.rfl.pI (by decide), ⟨by rw [gI_eq]; rfl, fun i hi => ?_⟩, u2, fun i hi => ?_⟩
    · rw [gI_ne _ _ _ _ _ _ (by decide)]
      unfold kpS; rw [if_pos rfl, if_neg (by omega)]; exact h.2 i hi
    · unfold kpS; rw [if_pos rfl, if_neg (by omega)]; exact hS.2 i hi
  · have e : w = 18 := by omega
    subst e
    obtain ⟨⟨u1, u2⟩, u3⟩ := hv 0 (by decide)
    obtain ⟨⟨u4, u5⟩, u6⟩ := hv 1 (by decide)
    have u2 : v 0 ≤ 7 := u2
    have u5 : v 1 ≤ 9 := u5
    refine ⟨sI M 57 (v 0) (nI (v 1)), ?_, Fr.rfl.pI (by decide), ⟨?_, fun i hi => ?_⟩, ?_, fun i hi => ?_⟩
    · rw [eqn_f c (by decide) (by decide), u3, if_neg (nI_pos (by omega)), nl8, le_f (by omega) (by decide), gd_inb (by omega) (by decide), ix_nI (by omega), bnd_r, u6]
    · rw [gI_ne _ _ _ _ _ _ (by decide)]
      unfold kpS; rw [if_neg (by decide), if_neg (by omega)]; exact h.1
    · unfold kpS; rw [if_neg (by decide)]
      by_cases z : i = v 0
      · rw [if_pos (by omega), z, gI_eq, nl1, pk_sub (by omega), show 1 + v 1 - 1 = v 1 by omega]
      · rw [if_neg (by omega), gI_nk _ _ _ _ _ _ z]; exact h.2 i hi
    · unfold kpS; rw [if_neg (by decide), if_neg (by omega)]; exact hS.1
    · unfold kpS; rw [if_neg (by decide)]
      by_cases z : i = v 0
      · rw [if_pos (by omega)]; omega
      · rw [if_neg (by omega)]; exact hS.2 i hi
theorem keep_cls {M : MM} {D : DRF} {w kd : Nat} {v : Nat → Nat} (hw : w < 20) (h : CDf M D) (hD : DWf D) (hv : ∀ j, j < nmN w → (bnL w j ≤ v j ∧ v j ≤ bnG w j) ∧ gI M 58 j = nI (v j)) (hf : fulD D w = false) (hk : w = 12 → kd < 4 ∧ gI M 41 11 = nI kd) :
    ∃ M2, fX7_keep M (nI w) = some M2 ∧ Fr [42, 43, 44, 45, 46, 47, 48, 49, 51, 52, 53, 54, 55, 56, 57] M M2 ∧ CDf M2 (kpD w v kd D) ∧ DWf (kpD w v kd D) := by
  obtain ⟨d1, d2, d3, d4⟩ := hD
  obtain ⟨c1, c2, c3, c4⟩ := h
  unfold fulD at hf
  by_cases z1 : w ≤ 6
  · obtain ⟨M2, m1, m2, m3, m4⟩ := keepP_cls (w := w) z1 c1 d1 hv (fun e => by
      rw [if_pos e] at hf
      have := of_decide_eq_false hf; omega) (fun e => by
      by_cases y : w = 2
      · omega
      · rw [if_neg y, if_pos ⟨e, z1⟩] at hf
        have := of_decide_eq_false hf; omega)
    refine ⟨M2, ?_, m2.mono (by decide), ?_⟩
    · unfold fX7_keep
      rw [nl6, lt_f z1 (by omega), m1]; rfl
    · unfold kpD; rw [if_pos z1]
      exact ⟨⟨m3, CDL_fr c2 m2 (by decide), CDE_fr c3 m2 (by decide), CDS_fr c4 m2 (by decide)⟩, m4, d2, d3, d4⟩
  · by_cases z2 : w ≤ 12
    · obtain ⟨M2, m1, m2, m3, m4⟩ := keepL_cls (w := w) (by omega) z2 c2 d2 hv hk
      refine ⟨M2, ?_, m2.mono (by decide), ?_⟩
      · unfold fX7_keep
        rw [nl6, lt_t (by omega) (by omega), show (12 : Int32) = nI 12 from rfl, lt_f z2 (by omega), m1]; rfl
      · unfold kpD; rw [if_neg z1, if_pos z2]
        exact ⟨⟨CDP_fr c1 m2 (by decide), m3, CDE_fr c3 m2 (by decide), CDS_fr c4 m2 (by decide)⟩, d1, m4, d3, d4⟩
    · by_cases z3 : w ≤ 17
      · obtain ⟨M2, m1, m2, m3, m4⟩ := keepE_cls (w := w) (by omega) z3 c3 d3 hv (by
          rw [if_neg (by omega), if_neg (by omega), if_pos (by omega)] at hf
          have := of_decide_eq_false hf; omega)
        refine ⟨M2, ?_, m2.mono (by decide), ?_⟩
        · unfold fX7_keep
          rw [nl6, lt_t (by omega) (by omega), show (12 : Int32) = nI 12 from rfl, lt_t (by omega) (by omega), nl18, le_f (by omega) (by decide), show (13 : Int32) = nI 13 from rfl, pk_sub (by omega), m1]; rfl
        · unfold kpD; rw [if_neg z1, if_neg z2, if_pos z3]
          exact ⟨⟨CDP_fr c1 m2 (by decide), CDL_fr c2 m2 (by decide), m3, CDS_fr c4 m2 (by decide)⟩, d1, d2, m4, d4⟩
      · obtain ⟨M2, m1, m2, m3, m4⟩ := keepS_cls (w := w) (by omega) (by omega) c4 d4 hv
        refine ⟨M2, m1, m2.mono (by decide), ?_⟩
        unfold kpD; rw [if_neg z1, if_neg z2, if_neg z3]
        exact ⟨⟨CDP_fr c1 m2 (by decide), CDL_fr c2 m2 (by decide), CDE_fr c3 m2 (by decide), m3⟩, d1, d2, d3, m4⟩
