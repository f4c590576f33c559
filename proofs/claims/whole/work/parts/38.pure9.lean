/-! ===== calls on a parish, and on a parish and a law ===== -/
/-- cells that the class's methods may change; those of the reference's -/
abbrev cL : List Nat := [60, 61, 62, 63, 64, 65, 66, 67, 68, 69, 70, 71, 72, 73, 74, 75, 76, 77, 78, 79, 80, 81, 82, 83, 84, 85, 86, 87, 88, 89]
abbrev rL : List Nat := [90, 93, 94, 95, 96, 97, 98, 99, 100, 101, 102, 103, 104, 105, 106, 107, 108, 109, 110, 111, 112, 113, 114]
theorem inv_two {K : SK} {M M1 M2 : MM} (h : Inv K M) (h1 : Fr cL M M1) (h2 : Fr rL M1 M2) (hB : BN M1) : Inv K M2 :=
  inv_fr (P := cL ++ rL) h ((h1.mono (fun c hc => List.mem_append_left _ hc)).trans (h2.mono (fun c hc => List.mem_append_right _ hc))) (by decide) (BN_congr hB (h2 60 (by decide)).1 (h2 73 (by decide)).1)
def LWf (L : Nat → Nat) : Prop := L 0 ≤ 9 ∧ L 1 ≤ 1 ∧ L 2 < 16 ∧ (1 ≤ L 3 ∧ L 3 ≤ 20) ∧ L 4 ≤ 2 ∧ L 5 ≤ 9
/-- a law at a cell of the class -/
def CLw (M : MM) (a : Nat) (L : Nat → Nat) : Prop := (a < 40) ∧ LWf L ∧ ∀ j, j < 6 → gI M a j = nI (L j)
/-- a law that the reference has loaded -/
def ML (M : MM) (l0 : Nat) (L : Nat → Nat) (c : Nat) : Prop := gI M 90 26 = nI l0 ∧ l0 + 6 ≤ 1130 ∧ (∀ j, j < 6 → gI M 91 (l0 + j) = nI (L j)) ∧ gI M 90 27 = nI c ∧ c ≤ 9 ∧ LWf L
theorem CLw_fr {M M2 : MM} {a : Nat} {L : Nat → Nat} {P : List Nat} (h : CLw M a L) (hF : Fr P M M2) (hP : P.all (fun c => decide (40 ≤ c)) = true) : CLw M2 a L :=
  ⟨h.1, h.2.1, fun j hj => by rw [hF.gi (fun q => by have := of_decide_eq_true (List.all_eq_true.mp hP a q); have := h.1; omega)]; exact h.2.2 j hj⟩
theorem ML_gen {M M2 : MM} {l0 c : Nat} {L : Nat → Nat} (h : ML M l0 L c) (g26 : gI M2 90 26 = gI M 90 26) (g27 : gI M2 90 27 = gI M 90 27) (g91 : ∀ k, gI M2 91 k = gI M 91 k) : ML M2 l0 L c :=
  ⟨g26.trans h.1, h.2.1, fun j hj => by rw [g91]; exact h.2.2.1 j hj, g27.trans h.2.2.2.1, h.2.2.2.2⟩
theorem ML_fr {M M2 : MM} {l0 c : Nat} {L : Nat → Nat} {P : List Nat} (h : ML M l0 L c) (hF : Fr P M M2) (h90 : 90 ∉ P) (h91 : 91 ∉ P) : ML M2 l0 L c :=
  ML_gen h (hF.gi h90 _) (hF.gi h90 _) (fun k => hF.gi h91 k)
theorem MS_gen {M M2 : MM} {o : Nat} {P : PARD} {S : SCN} (h : MS M o P S) (g90 : ∀ k, k = 12 ∨ k = 13 ∨ k = 14 ∨ k = 23 → gI M2 90 k = gI M 90 k) (g : ∀ c k, c = 91 ∨ (94 ≤ c ∧ c ≤ 101) → gI M2 c k = gI M c k) : MS M2 o P S := by
  obtain ⟨h1, h2, h3, h4, h5, h6, h7, h8, h9, h10, h11, h12, h12b, bo, h13, h14⟩ := h
  refine ⟨by rw [g90 _ (by omega)]; exact h1, MP_congr h3 h2 (fun i _ => g 91 _ (by omega)), h3, h4, h5, h6, h7, by rw [g90 _ (by omega)]; exact h8, by rw [g90 _ (by omega)]; exact h9, fun k hk => ⟨?_, ?_⟩, fun k hk j hj => ?_, fun k hk => ?_, h12b, bo, by rw [g90 _ (by omega)]; exact h13, h14⟩
  · rw [g 94 _ (by omega)]; exact (h10 k hk).1
  · rw [g 95 _ (by omega)]; exact (h10 k hk).2
  · rw [g (96 + j) _ (by omega)]; exact h11 k hk j hj
  · rw [g 101 _ (by omega)]; exact h12 k hk
theorem told_law {M : MM} {T : TOLD} (hC : CT M 1 T) (hW : TW T) {l : Nat} (hl : l < tNum T 1) : CLw M (1 + (15 + 16 * l)) (tLaw T l) := by
  have h2 := num_lt hW (s := 1) (by decide)
  exact ⟨by omega, hW.2.2.2.2.1 l hl, hC.2.2.2.2.2.2.1 l hl⟩
theorem told_ref {M : MM} {T : TOLD} (hM : MT M 0 T) (hW : TW T) {j l : Nat} (hj : j < tNum T 0) (hl : l < tNum T 1) : ∃ M2, fX12_areTold M (nI j) (nI l) = some (1, M2) ∧ Fr rL M M2 ∧ MS M2 (610 + 124 * j) (tPar T j) (scnOf (tPar T j)) ∧ ML M2 (858 + 6 * l) (tLaw T l) (tLaw T l 0) := by
  have h2 := num_lt hW (s := 1) (by decide)
  obtain ⟨M2, e1, e2, e3⟩ := isParish_yes hM hW hj
  have hM2 : MT M2 0 T := fr_MT hW hM e2 (by decide)
  have e4 := isLaw_yes hM2 hW hl
  have hF := mLaw_fr M2 l (tLaw T l 0)
  refine ⟨mLaw M2 l (tLaw T l 0), ?_, (e2.mono (by decide)).trans (hF.mono (by decide)), MS_gen e3 (fun k hk => ?_) (fun c k hc => hF.gi (by simp; omega) k), ?_, by omega, fun i hi => ?_, gI_eq _ _ _ _, ?_, hW.2.2.2.2.1 l hl⟩
  · unfold fX12_areTold
    rw [e1, bd_s, if_neg i10, e4, bd_s, if_neg i10]
  · unfold mLaw
    rw [gI_nk _ _ _ _ _ _ (by omega), gI_nk _ _ _ _ _ _ (by omega)]
  · unfold mLaw
    rw [gI_nk _ _ _ _ _ _ (by decide), gI_eq]
  · rw [hF.gi (by decide)]
    have := hM2.2.2.2.2.2.2.1 l hl i hi
    rw [Nat.zero_add] at this
    exact this
  · exact (hW.2.2.2.2.1 l hl).1
theorem told_no {M : MM} {T : TOLD} (hM : MT M 0 T) (hW : TW T) {x1 x2 : Int32} (h : (x1 < 0 ∨ nI (tNum T 0) ≤ x1) ∨ (x2 < 0 ∨ nI (tNum T 1) ≤ x2)) : ∃ M2, fX12_areTold M x1 x2 = some (0, M2) ∧ Fr rL M M2 := by
  unfold fX12_areTold
  rcases num_cases hW (s := 0) (by decide) x1 with h1 | ⟨j, hj, hj2, rfl⟩
  · exact ⟨M, by rw [isParish_no hM hW h1]; rfl, Fr.rfl⟩
  · obtain ⟨M2, e1, e2, e3⟩ := isParish_yes hM hW hj
    have h2 := num_lt hW (s := 0) (by decide)
    have h3 : x2 < 0 ∨ nI (tNum T 1) ≤ x2 := by
      rcases h with (h | h) | h
      · exact absurd h (nI_pos (by omega))
      · exact absurd h (nI_ge hj (by omega))
      · exact h
    exact ⟨M2, by rw [e1, bd_s, if_neg i10, isLaw_no (fr_MT hW hM e2 (by decide)) hW h3]; rfl, e2.mono (by decide)⟩
/-- a call on a parish and a law -/
theorem pl_case {K : SK} {M : MM} {v x1 x2 : Int32} {F : Nat → Nat → Option (Int32 × MM)} {G : Int32 × MM → Option (Int32 × MM)} {C : Option (Int32 × MM)} {R : MM → Option (Int32 × MM)} (hI : Inv K M)
    (hC : C = (fX9_parishAt M x1).bind (fun p1 => (fX9_lawAt M x2).bind (fun p3 => match p1 with
      | none => some (v, M)
      | some a6 => match p3 with
        | none => some (v, M)
        | some a9 => F a6 a9)))
    (hR : ∀ M1, R M1 = (fX12_areTold M1 x1 x2).bind (fun p1 => if p1.1 = 0 then some (v, p1.2) else G p1))
    (good : ∀ (T : TOLD) (j l : Nat), TW T → CT M 1 T → MT M 0 T → BN M → j < tNum T 0 → l < tNum T 1 → x1 = nI j → x2 = nI l → ∃ r M1, F (1 + (6 + 16 * j)) (1 + (15 + 16 * l)) = some (r, M1) ∧ Fr cL M M1 ∧ BN M1 ∧ ∀ M3, Fr rL M1 M3 → MS M3 (610 + 124 * j) (tPar T j) (scnOf (tPar T j)) → ML M3 (858 + 6 * l) (tLaw T l) (tLaw T l 0) → ∃ M2, G (1, M3) = some (r, M2) ∧ Fr rL M3 M2) :
    ∃ (r : Int32) (M1 M2 : MM), C = some (r, M1) ∧ R M1 = some (r, M2) ∧ Inv K M2 := by
  obtain ⟨hK, T, I, hW, hCT, hM, hB, hIm⟩ := id hI
  rw [hC]
  rcases num_cases hW (s := 0) (by decide) x1 with h1 | ⟨j, hj, -, e1⟩
  · obtain ⟨M2, a1, a2⟩ := told_no hM hW (x2 := x2) (Or.inl h1)
    refine ⟨v, M, M2, ?_, by rw [hR, a1]; rfl, inv_two hI Fr.rfl a2 hB⟩
    rw [parishAt_no hCT hW h1, bd_s]
    rcases num_cases hW (s := 1) (by decide) x2 with h2 | ⟨l, hl, -, rfl⟩
    · rw [lawAt_no hCT hW h2]; rfl
    · rw [lawAt_yes hCT hW hl]; rfl
  · rcases num_cases hW (s := 1) (by decide) x2 with h2 | ⟨l, hl, -, e2⟩
    · obtain ⟨M2, a1, a2⟩ := told_no hM hW (x1 := x1) (Or.inr h2)
      refine ⟨v, M, M2, ?_, by rw [hR, a1]; rfl, inv_two hI Fr.rfl a2 hB⟩
      rw [e1, parishAt_yes hCT hW hj, bd_s, lawAt_no hCT hW h2]; rfl
    · obtain ⟨r, M1, b1, b2, b3, b4⟩ := good T j l hW hCT hM hB hj hl e1 e2
      obtain ⟨M3, c1, c2, c3, c4⟩ := told_ref (fr_MT hW hM b2 (by decide)) hW hj hl
      obtain ⟨M2, d1, d2⟩ := b4 M3 c2 c3 c4
      refine ⟨r, M1, M2, ?_, ?_, inv_two hI b2 (c2.trans d2) b3⟩
      · rw [e1, e2, parishAt_yes hCT hW hj, lawAt_yes hCT hW hl]
        exact b1
      · rw [hR, e1, e2, c1, bd_s, if_neg i10]
        exact d1
/-- a call on a parish alone -/
theorem p_case {K : SK} {M : MM} {v x1 : Int32} {F : Nat → Option (Int32 × MM)} {G : Int32 × MM → Option (Int32 × MM)} {C : Option (Int32 × MM)} {R : MM → Option (Int32 × MM)} (hI : Inv K M)
    (hC : C = (fX9_parishAt M x1).bind (fun p1 => match p1 with
      | none => some (v, M)
      | some a6 => F a6))
    (hR : ∀ M1, R M1 = (fX12_isParish M1 x1).bind (fun p1 => if p1.1 = 0 then some (v, p1.2) else G p1))
    (good : ∀ (T : TOLD) (j : Nat), TW T → CT M 1 T → MT M 0 T → BN M → j < tNum T 0 → x1 = nI j → ∃ r M1, F (1 + (6 + 16 * j)) = some (r, M1) ∧ Fr cL M M1 ∧ BN M1 ∧ ∀ M3, Fr rL M1 M3 → MS M3 (610 + 124 * j) (tPar T j) (scnOf (tPar T j)) → ∃ M2, G (1, M3) = some (r, M2) ∧ Fr rL M3 M2) :
    ∃ (r : Int32) (M1 M2 : MM), C = some (r, M1) ∧ R M1 = some (r, M2) ∧ Inv K M2 := by
  obtain ⟨hK, T, I, hW, hCT, hM, hB, hIm⟩ := id hI
  rw [hC]
  rcases num_cases hW (s := 0) (by decide) x1 with h1 | ⟨j, hj, -, e1⟩
  · refine ⟨v, M, M, ?_, by rw [hR, isParish_no hM hW h1]; rfl, hI⟩
    rw [parishAt_no hCT hW h1]; rfl
  · obtain ⟨r, M1, b1, b2, b3, b4⟩ := good T j hW hCT hM hB hj e1
    obtain ⟨M3, c1, c2, c3⟩ := isParish_yes (fr_MT hW hM b2 (by decide)) hW hj
    obtain ⟨M2, d1, d2⟩ := b4 M3 (c2.mono (by decide)) c3
    refine ⟨r, M1, M2, ?_, ?_, inv_two hI b2 ((c2.mono (by decide)).trans d2) b3⟩
    · rw [e1, parishAt_yes hCT hW hj]
      exact b1
    · rw [hR, e1, c1, bd_s, if_neg i10]
      exact d1
theorem par_beg {M : MM} {T : TOLD} (hW : TW T) (hC : CT M 1 T) (hB : BN M) {j : Nat} (hj : j < tNum T 0) :
    ∃ M1, fX0_begin M (1 + (6 + 16 * j)) = some M1 ∧ Fr cL M M1 ∧ BS M1 (scnOf (tPar T j)) aT ∧ BN M1 ∧ (∀ k, k < pN (tPar T j) → gI M1 62 k = nI (sqC (pW (tPar T j)) (pAt (tPar T j) k))) ∧ ∀ k, k < 8 → ∃ f : Nat, f < 8 ∧ gI M1 66 k = nI f := by
  have h2 := num_lt hW (s := 0) (by decide)
  obtain ⟨M1, a, b, c⟩ := begin_spec hB (hC.2.2.2.2.2.1 j hj) (hW.2.2.2.1 j hj) (Or.inr (by omega))
  exact ⟨M1, a, b.mono (by decide), c⟩
/-! ===== looks, degree ===== -/
theorem e8 : E8 Inv := by
  intro K M x1 x2 x3 hI
  refine p_case (v := -2) hI (C := fX11_looks M x1 x2 x3) (R := fun M1 => fX12_looks M1 x1 x2 x3) rfl (fun _ => rfl) ?_
  intro T j hW hC hM hB hj e
  have hP := hW.2.2.2.1 j hj
  have hs8 := hP.2.2.2.1
  have c4 := (hC.2.2.2.2.2.1 j hj).2.2.2.1
  rcases rng x2 (n := pS (tPar T j)) (by omega) with h | ⟨s, hs, rfl⟩
  · refine ⟨-2, M, by rw [hasShine_no c4 h, if_pos rfl], Fr.rfl, hB, fun M3 _ hS => ⟨M3, ?_, Fr.rfl⟩⟩
    rw [isShine_no hS h, bd_s, if_pos rfl]
  · rw [hasShine_yes c4 (by omega) hs, if_neg i10]
    rcases cases3 x3 8 (by decide) with h | h | ⟨d, hd, rfl⟩
    · refine ⟨-2, M, by rw [if_pos h], Fr.rfl, hB, fun M3 _ hS => ⟨M3, ?_, Fr.rfl⟩⟩
      rw [isShine_yes hS hs, bd_s, if_neg i10, isIn_f (Or.inl h), if_pos rfl]
    · have h9 := (le_toInt (by decide)).mp h
      have h0 : ¬ x3 < 0 := fun q => by have := lt0_toInt.mp q; omega
      have h8 : ¬ x3 < nI 8 := fun q => by have := (lt_toInt (by decide)).mp q; omega
      have h7 : nI 7 < x3 := (gt_toInt (by decide)).mpr (by omega)
      refine ⟨-2, M, by rw [if_neg h0, nl8, if_neg h8], Fr.rfl, hB, fun M3 _ hS => ⟨M3, ?_, Fr.rfl⟩⟩
      rw [isShine_yes hS hs, bd_s, if_neg i10, nl7, isIn_f (Or.inr h7), if_pos rfl]
    · obtain ⟨M1, a1, a2, a3, a4, -⟩ := par_beg hW hC hB hj
      rw [if_neg (nI_pos (by omega)), nl8, lt_t hd (by decide), a1, bd_s, opens_cls a3.1 hs hd, bd_s]
      have ref : ∀ M3, MS M3 (610 + 124 * j) (tPar T j) (scnOf (tPar T j)) → (fX12_isShine M3 (nI s)).bind (fun p4 => if p4 = 0 then some (-2, M3) else if fX12_isIn (nI d) 0 7 = 0 then some (-2, M3) else (fX12_meets M3 (nI s) (nI d)).bind fun p8 => some (p8, M3)) = some (if 10 ≤ metS (scnOf (tPar T j)) s d then nI (metS (scnOf (tPar T j)) s d - 10) else -1, M3) := fun M3 hS => by
        rw [isShine_yes hS hs, bd_s, if_neg i10, nl7, isIn_t (nI_pos (by omega)) (show ¬ nI 7 < nI d from nI_nlt (by omega) (by omega)), if_neg i10, met_ref hS hs hd]
        rfl
      have hst : cSt (scnOf (tPar T j)) s = false := rfl
      by_cases ho : opensS (scnOf (tPar T j)) s d = true
      · have hme : metS (scnOf (tPar T j)) s d = meetsS (scnOf (tPar T j)) s d := by
          unfold metS
          rw [hst, ho]
          rfl
        obtain ⟨m, hm, em⟩ := wb_of (gL M1 76 s)
        obtain ⟨M2, m2, b1, b2, -⟩ := meets_cls a3.1 hs hd em hm
        have hc := metS_cases (S := scnOf (tPar T j)) s d
        have hn8 : cN (scnOf (tPar T j)) ≤ 8 := hP.2.2.1
        have hs8 : cS (scnOf (tPar T j)) ≤ 8 := hs8
        rw [ho, if_pos rfl, if_neg i10, b1, bd_s]
        refine ⟨_, M2, ?_, a2.trans (b2.mono (by decide)), BN_congr a4 (b2 60 (by decide)).1 (b2 73 (by decide)).1, fun M3 _ hS => ⟨M3, ref M3 hS, Fr.rfl⟩⟩
        rw [hme] at hc ⊢
        show (if nI (meetsS (scnOf (tPar T j)) s d) < 20 then _ else _) = _
        rw [nl20, nl10]
        by_cases c1 : meetsS (scnOf (tPar T j)) s d < 20
        · rw [lt_t c1 (by decide)]
          by_cases c2 : meetsS (scnOf (tPar T j)) s d < 10
          · rw [lt_t c2 (by decide), if_neg (by omega)]
          · rw [lt_f (by omega) (by omega), if_pos (by omega), pk_sub (by omega)]
        · rw [lt_f (by omega) (by omega), if_pos (by omega), nI_add, pk_sub (by omega)]
          congr 3
          omega
      · have ho2 : opensS (scnOf (tPar T j)) s d = false := by cases z : opensS (scnOf (tPar T j)) s d <;> simp_all
        have hme : metS (scnOf (tPar T j)) s d = 1 := by
          unfold metS
          rw [ho2, Bool.and_false]
          rfl
        refine ⟨_, M1, ?_, a2, a4, fun M3 _ hS => ⟨M3, ref M3 hS, Fr.rfl⟩⟩
        rw [ho2, hme, if_pos (show (if false = true then (1 : Int32) else 0) = 0 from rfl), if_neg (by decide)]
theorem e9 : E9 Inv := by
  intro K M x1 x2 x3 hI
  refine p_case (v := -2) hI (C := fX11_degree M x1 x2 x3) (R := fun M1 => fX12_degree M1 x1 x2 x3) rfl (fun _ => rfl) ?_
  intro T j hW hC hM hB hj e
  have hP := hW.2.2.2.1 j hj
  have hs8 := hP.2.2.2.1
  have hn8 := hP.2.2.1
  have c4 := (hC.2.2.2.2.2.1 j hj).2.2.2.1
  have c3 := (hC.2.2.2.2.2.1 j hj).2.2.1
  rcases rng x2 (n := pS (tPar T j)) (by omega) with h | ⟨s, hs, rfl⟩
  · refine ⟨-2, M, by rw [hasShine_no c4 h, if_pos rfl], Fr.rfl, hB, fun M3 _ hS => ⟨M3, ?_, Fr.rfl⟩⟩
    rw [isShine_no hS h, bd_s, if_pos rfl]
  · rw [hasShine_yes c4 (by omega) hs, if_neg i10]
    rcases rng x3 (n := pN (tPar T j)) (by omega) with h | ⟨p, hp, rfl⟩
    · refine ⟨-2, M, by rw [hasPerson_no c3 h, if_pos rfl], Fr.rfl, hB, fun M3 _ hS => ⟨M3, ?_, Fr.rfl⟩⟩
      rw [isShine_yes hS hs, bd_s, if_neg i10, isPerson_no hS h, bd_s, if_pos rfl]
    · obtain ⟨M1, a1, a2, a3, a4, -⟩ := par_beg hW hC hB hj
      obtain ⟨M2, b1, b2⟩ := degreeOf_spec a3 (s := s) (p := p) hs (by omega)
      rw [hasPerson_yes c3 (by omega) hp, if_neg i10, a1, bd_s, b1]
      refine ⟨_, M2, rfl, a2.trans (b2.mono (by decide)), BN_congr a4 (b2 60 (by decide)).1 (b2 73 (by decide)).1, fun M3 _ hS => ?_⟩
      obtain ⟨M4, d1, d2, d3, d4⟩ := laysOut_spec hS
      refine ⟨M4, ?_, d2.mono (by decide)⟩
      have h99 := dg_99 (scnOf (tPar T j)) s p
      rw [isShine_yes hS hs, bd_s, if_neg i10, isPerson_yes hS hp, bd_s, if_neg i10, d1, bd_s]
      simp (disch := omega) only [nl8, pk_mul, nI_add, gd_inb, ix_nI]
      rw [d3.1 s p hs (by omega), nl99]
      by_cases c : dgN (scnOf (tPar T j)) s p = 99
      · rw [eqn_t c, if_pos c]
      · rw [eqn_f c (by omega) (by decide), if_neg c]
