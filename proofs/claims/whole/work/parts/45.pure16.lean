/-! ===== deeds of the class ===== -/
theorem PC_fr {M M2 : MM} {a : Nat} {L : Nat → Nat} {X : PLS} {P : List Nat} (h : PC M a L X) (hF : Fr P M M2) (hP : P.all (fun c => decide (40 ≤ c ∧ (c < 60 ∨ c = 70 ∨ c = 71 ∨ c = 72 ∨ c = 77 ∨ 81 ≤ c))) = true) : PC M2 a L X := by
  have ne : ∀ c, (c = 62 ∨ c = 78 ∨ c = 79 ∨ c = 80) → c ∉ P := fun c hc q => by have := of_decide_eq_true (List.all_eq_true.mp hP c q); omega
  obtain ⟨hB, hL, h62, h78, h79, h80⟩ := h
  refine ⟨BS_fr hB hF ?_, CLw_fr hL hF ?_, fun k q hk e => by rw [hF.gi (ne 62 (by omega))]; exact h62 k q hk e, by rw [hF.gi (ne 78 (by omega))]; exact h78, fun p hp => by rw [hF.gi (ne 79 (by omega))]; exact h79 p hp, fun p hp => by rw [hF.gi (ne 80 (by omega))]; exact h80 p hp⟩
  · refine List.all_eq_true.mpr (fun c q => decide_eq_true ?_)
    have := of_decide_eq_true (List.all_eq_true.mp hP c q)
    omega
  · refine List.all_eq_true.mpr (fun c q => decide_eq_true ?_)
    have := of_decide_eq_true (List.all_eq_true.mp hP c q)
    omega
theorem face_cls {M : MM} {a : Nat} {L : Nat → Nat} {X : PLS} (h : PC M a L X) {s d : Nat} (hs : s < cS X.1) (hd : d < 8) : ∃ M2, fX0_face M (nI s) (nI d) = some M2 ∧ Fr [66, 74, 75, 76] M M2 ∧ PC M2 a L (setF X.1 s d, X.2) := by
  obtain ⟨hB, hL, h62, h78, h79, h80⟩ := h
  obtain ⟨M2, a1, a2, a3⟩ := face_spec hB hs hd
  refine ⟨M2, a1, a2, BS_K a3 (fun _ _ _ => rfl), CLw_fr hL a2 (by decide), fun k q hk e => ?_, ?_, fun k hk => ?_, fun k hk => ?_⟩
  · rw [a2.gi (by decide)]; exact h62 k q hk e
  · rw [a2.gi (by decide)]; exact h78
  · rw [a2.gi (by decide)]; exact h79 k hk
  · rw [a2.gi (by decide)]; exact h80 k hk
theorem stirc_cls {M : MM} {a : Nat} {L : Nat → Nat} {X : PLS} (h : PC M a L X) {s : Nat} (hs : s < cS X.1) : ∃ M2, fX0_stirOrCalm M (nI s) = some M2 ∧ Fr pF M M2 ∧ PC M2 a L (setT X.1 s (!cSt X.1 s), X.2) := by
  obtain ⟨hB, hL, h62, h78, h79, h80⟩ := h
  obtain ⟨M2, a1, a2, a3⟩ := stir_spec hB hs
  refine ⟨M2, a1, a2.mono (by decide), BS_K a3 (fun _ _ _ => rfl), CLw_fr hL a2 (by decide), fun k q hk e => ?_, ?_, fun k hk => ?_, fun k hk => ?_⟩
  · rw [a2.gi (by decide)]; exact h62 k q hk e
  · rw [a2.gi (by decide)]; exact h78
  · rw [a2.gi (by decide)]; exact h79 k hk
  · rw [a2.gi (by decide)]; exact h80 k hk
theorem j74_cls {M : MM} {a : Nat} {L : Nat → Nat} {X : PLS} (h : PC M a L X) {s : Nat} (hs : s < cS X.1) (b : Bool) : match (if cSt X.1 s = b then some (setT X.1 s (!cSt X.1 s), X.2) else none : Option PLS) with
    | none => fX6_does_j74 a M (nI s) (fX0_isStirred M (nI s)) (bI b) = some (0, M)
    | some X2 => ∃ M2, fX6_does_j74 a M (nI s) (fX0_isStirred M (nI s)) (bI b) = some (1, M2) ∧ Fr pF M M2 ∧ PC M2 a L X2 := by
  have h8 := h.1.1.1.2.2.2.1
  unfold fX6_does_j74
  rw [stirred_cls h.1.1 (by omega)]
  by_cases c : cSt X.1 s = b
  · rw [if_pos c]
    obtain ⟨M2, a1, a2, a3⟩ := stirc_cls h hs
    refine ⟨M2, ?_, a2, a3⟩
    rw [if_pos (show (if cSt X.1 s = true then (1 : Int32) else 0) = bI b by rw [c]; rfl), a1]
    rfl
  · rw [if_neg c]
    simp only []
    rw [if_neg]
    intro z
    apply c
    cases hc : cSt X.1 s <;> cases b <;> simp_all [bI]
theorem does_cls {M : MM} {a : Nat} {L : Nat → Nat} {X : PLS} (h : PC M a L X) (hX : PX X) {e0 e1 e2 : Int32} (hd : DOK e0 e2) : match deedS L X e0 e1 e2 with
    | none => fX6_does M e0 e1 e2 a = some (0, M)
    | some X2 => ∃ M2, fX6_does M e0 e1 e2 a = some (1, M2) ∧ Fr pF M M2 ∧ PC M2 a L X2 := by
  obtain ⟨⟨j, hj, ej⟩, h2⟩ := hd
  have hS := h.1.1.1
  have h8 := hS.2.2.2.1
  have hn8 := hS.2.2.1
  unfold deedS fX6_does
  by_cases c4 : e0 = 4
  · rw [if_pos c4, if_pos c4]
    obtain ⟨M2, a1, a2, a3, -⟩ := countAll_cls h
    exact ⟨M2, by rw [a1]; rfl, a2.mono (by decide), a3⟩
  · rw [if_neg c4, if_neg c4]
    by_cases c0 : e0 = 0
    · rw [if_pos c0, if_pos c0]
      obtain ⟨d, hd, rfl⟩ := h2 (Or.inl c0)
      rcases rng e1 (n := cN X.1) (by omega) with z | ⟨p, hp, rfl⟩
      · rw [if_pos z]
        simp only []
        unfold fX6_go
        rw [hasPerson_no h.1.1.2.2.2.2.1 z, if_pos rfl]
        rfl
      · rw [if_neg (fun z => by
          rcases z with z | z
          · exact nI_pos (by omega) z
          · exact nI_ge hp (by omega) z), ix_nI (by omega), ix_nI (by omega)]
        have := go_cls h hX hp hd
        cases hg : goS X p d with
        | none => rw [hg] at this; simp only [] at this ⊢; rw [this]; rfl
        | some X2 =>
          rw [hg] at this
          simp only [] at this ⊢
          obtain ⟨M2, b1, b2, b3⟩ := this
          exact ⟨M2, by rw [b1]; rfl, b2.mono (by decide), b3⟩
    · rw [if_neg c0, if_neg c0]
      rcases rng e1 (n := cS X.1) (by omega) with z | ⟨s, hs, rfl⟩
      · rw [if_pos z]
        simp only []
        rw [hasShine_no h.1.1.2.2.2.2.2.1 z, if_pos rfl]
      · rw [if_neg (fun z => by
          rcases z with z | z
          · exact nI_pos (by omega) z
          · exact nI_ge hs (by omega) z), hasShine_yes h.1.1.2.2.2.2.2.1 (by omega) hs, if_neg i10, ix_nI (by omega)]
        by_cases c1 : e0 = 1
        · obtain ⟨d, hd, rfl⟩ := h2 (Or.inr c1)
          rw [if_pos c1, if_pos c1, ix_nI (by omega)]
          obtain ⟨M2, a1, a2, a3⟩ := face_cls h hs hd
          exact ⟨M2, by rw [a1]; rfl, a2.mono (by decide), a3⟩
        · rw [if_neg c1, if_neg c1]
          by_cases c3 : e0 = 3
          · rw [if_pos c3, decide_eq_true c3]
            exact j74_cls h hs true
          · rw [if_neg c3, decide_eq_false c3]
            exact j74_cls h hs false
theorem setF_PX {X : PLS} (h : PX X) {s f : Nat} (hf : f < 8) : PX (setF X.1 s f, X.2) := ⟨setF_SW h.1 hf, setF_DI h.2.1, h.2.2⟩
theorem deed_PX {L : Nat → Nat} {X X2 : PLS} (h : PX X) {e0 e1 e2 : Int32} (hd : DOK e0 e2) (e : deedS L X e0 e1 e2 = some X2) : PX X2 := by
  obtain ⟨⟨j, hj, ej⟩, h2⟩ := hd
  have hn8 := h.1.2.2.1
  unfold deedS at e
  by_cases c4 : e0 = 4
  · rw [if_pos c4] at e
    cases e
    exact h
  · rw [if_neg c4] at e
    by_cases c0 : e0 = 0
    · rw [if_pos c0] at e
      rcases rng e1 (n := cN X.1) (by omega) with z | ⟨p, hp, rfl⟩
      · rw [if_pos z] at e; cases e
      · rw [if_neg (fun z => by
          rcases z with z | z
          · exact nI_pos (by omega) z
          · exact nI_ge hp (by omega) z), ix_nI (by omega)] at e
        obtain ⟨_, _, _, _, _, _, hh⟩ := go_PX h hp e
        exact hh
    · rw [if_neg c0] at e
      by_cases z : e1 < 0 ∨ nI (cS X.1) ≤ e1
      · rw [if_pos z] at e; cases e
      · rw [if_neg z] at e
        by_cases c1 : e0 = 1
        · obtain ⟨d, hd, rfl⟩ := h2 (Or.inr c1)
          rw [if_pos c1, ix_nI (show d < 2 ^ 31 by omega)] at e
          cases e
          exact setF_PX h hd
        · rw [if_neg c1] at e
          by_cases c : cSt X.1 (ix e1) = decide (e0 = 3)
          · rw [if_pos c] at e
            cases e
            exact h
          · rw [if_neg c] at e; cases e
theorem run_PX {L : Nat → Nat} {E : Nat → Nat → Int32} {X : PLS} (h : PX X) : ∀ n, (∀ i, i < n → DOK (E i 0) (E i 2)) → PX (runS L E X n).2
  | 0, _ => h
  | n + 1, hE => by
    have ih := run_PX (L := L) (E := E) h n (fun i hi => hE i (by omega))
    rw [runS]
    split
    · exact ih
    · split
      · exact ih
      · rename_i X2 e
        exact deed_PX ih (hE n (by omega)) e
/-- an evening of the class -/
def CE (M : MM) (a : Nat) (D : Nat) (E : Nat → Nat → Int32) : Prop := a + 3 < 40 ∧ D ≤ 40 ∧ gI M a 0 = nI D ∧ (∀ i, i < D → ∀ j, j < 3 → gI M (a + (1 + j)) i = E i j) ∧ ∀ i, i < D → DOK (E i 0) (E i 2)
theorem CE_fr {M M2 : MM} {a D : Nat} {E : Nat → Nat → Int32} {P : List Nat} (h : CE M a D E) (hF : Fr P M M2) (hP : P.all (fun c => decide (40 ≤ c)) = true) : CE M2 a D E := by
  obtain ⟨h1, h2, h3, h4, h5⟩ := h
  have ne : ∀ c, c < 40 → c ∉ P := fun c hc q => by have := of_decide_eq_true (List.all_eq_true.mp hP c q); omega
  exact ⟨h1, h2, by rw [hF.gi (ne a (by omega))]; exact h3, fun i hi j hj => by rw [hF.gi (ne _ (by omega))]; exact h4 i hi j hj, h5⟩
theorem perform_cls {M : MM} {a e : Nat} {L : Nat → Nat} {X : PLS} {D : Nat} {E : Nat → Nat → Int32} (h : PC M a L X) (hX : PX X) (hE : CE M e D E) {n : Nat} (hn : n ≤ D) : ∃ M2, fX6_perform M e a (nI n) = some (nI (runS L E X n).1, M2) ∧ Fr pF M M2 ∧ PC M2 a L (runS L E X n).2 := by
  have hD := hE.2.1
  have key := lpk (κ := Unit) (σ := MM × Nat) (fun _ f st => fX6_perform_l3 e a (fun M14 y15 => fX6_perform_j56 e a M14 y15) f st.1 (nI n) (nI st.2)) (fun _ (t : Nat × MM) => some (nI t.1, t.2)) n
    (fun i st => i = st.2 ∧ Fr pF M st.1 ∧ (runS L E X i).1 = i ∧ PC st.1 a L (runS L E X i).2) (fun t => Fr pF M t.2 ∧ t.1 = (runS L E X n).1 ∧ PC t.2 a L (runS L E X n).2) ?_ ?_ FU 0 (M, 0) (by omega) (by show _ < 5000; omega) ⟨rfl, Fr.rfl, rfl, h⟩
  · obtain ⟨⟨v, M2⟩, ⟨h1, h2, h3⟩, h4⟩ := key
    refine ⟨M2, ?_, h1, h3⟩
    simp only [] at h2
    rw [← h2]
    unfold fX6_perform
    rw [nl0]
    exact h4 ()
  · rintro i ⟨M1, i2⟩ hi ⟨rfl, hF, a1, a2⟩
    simp only [] at hF a2
    have hE1 : CE M1 e D E := CE_fr hE hF (by decide)
    have hPX := run_PX (L := L) (E := E) hX i (fun k hk => hE.2.2.2.2 k (by omega))
    have hd := does_cls (e1 := E i 1) a2 hPX (hE.2.2.2.2 i (by omega))
    have d0 : gI M1 (e + 1) i = E i 0 := hE1.2.2.2.1 i (by omega) 0 (by decide)
    have d1 : gI M1 (e + 2) i = E i 1 := hE1.2.2.2.1 i (by omega) 1 (by decide)
    have d2 : gI M1 (e + 3) i = E i 2 := hE1.2.2.2.1 i (by omega) 2 (by decide)
    have head : ∀ k f, fX6_perform_l3 e a k (f + 1) M1 (nI n) (nI i) = (fX6_does M1 (E i 0) (E i 1) (E i 2) a).bind (fun p11 => (if p11.1 = 0 then some (nI i, p11.2) else fX6_perform_l3 e a k f p11.2 (nI n) (nI (i + 1)))) := fun k f => by
      rw [fX6_perform_l3.eq_2, le_f hi (by omega), hE1.2.2.1, le_f (show i < D by omega) (by omega), gd_inb (by omega) (by decide), gd_inb (by omega) (by decide), gd_inb (by omega) (by decide), ix_nI (by omega), d0, d1, d2, nI_1]
    cases hg : deedS L (runS L E X i).2 (E i 0) (E i 1) (E i 2) with
    | none =>
      rw [hg] at hd
      simp only [] at hd
      have er := runS_none a1 hg n hi
      refine Or.inr ⟨(i, M1), ⟨hF, by rw [er]; exact a1.symm, by rw [er]; exact a2⟩, fun _ f => ?_⟩
      show fX6_perform_l3 e a _ (f + 1) M1 (nI n) (nI i) = _
      rw [head, hd, bd_s, if_pos rfl]
    | some X2 =>
      rw [hg] at hd
      simp only [] at hd
      obtain ⟨M2, b1, b2, b3⟩ := hd
      have er := runS_some a1 hg
      refine Or.inl ⟨(M2, i + 1), ⟨rfl, hF.trans b2, by rw [er], by rw [er]; exact b3⟩, fun _ f => ?_⟩
      show fX6_perform_l3 e a _ (f + 1) M1 (nI n) (nI i) = _
      rw [head, b1, bd_s, if_neg i10]
  · rintro ⟨M1, i2⟩ ⟨rfl, hF, a1, a2⟩
    simp only [] at hF a2
    have hE1 : CE M1 e D E := CE_fr hE hF (by decide)
    refine ⟨(n, M1), ⟨hF, a1.symm, a2⟩, fun _ f => ?_⟩
    show fX6_perform_l3 e a _ (f + 1) M1 (nI n) (nI n) = _
    rw [fX6_perform_l3.eq_2, le_t (Nat.le_refl _) (by omega)]
    unfold fX6_perform_j56
    rw [hE1.2.2.1, min_nI (by omega) (by omega)]
    congr 3
    split <;> omega
/-- the start of an evening -/
def pl0 (P : PARD) : PLS := (scnOf P, 0, fun _ => 0, fun _ => 0)
theorem pl0_PX {P : PARD} (h : PW P) : PX (pl0 P) := ⟨scn_SW h, scn_DI h, fun k _ => ⟨pAt P k, rfl⟩⟩
theorem play_beg {M : MM} {T : TOLD} (hW : TW T) (hC : CT M 1 T) (hB : BN M) {j l : Nat} (hj : j < tNum T 0) (hl : l < tNum T 1) : ∃ M1, fX6_begin M (1 + (6 + 16 * j)) = some M1 ∧ Fr cL M M1 ∧ PC M1 (1 + (15 + 16 * l)) (tLaw T l) (pl0 (tPar T j)) := by
  obtain ⟨M1, a1, a2, a3, a4, a5, -⟩ := par_beg hW hC hB hj
  have f1 : Fr [78] M1 (sI M1 78 1 0) := Fr.rfl.pI (by decide)
  obtain ⟨M2, b1, b2, b3, -⟩ := fill_spec (M := sI M1 78 1 0) (a := 79) (n := 8) (v := 0) (by decide)
  obtain ⟨M3, d1, d2, d3, -⟩ := fill_spec (M := M2) (a := 80) (n := 8) (v := 0) (by decide)
  have hF : Fr [78, 79, 80] M1 M3 := ((f1.mono (by decide)).trans (b2.mono (by decide))).trans (d2.mono (by decide))
  have hFF : Fr cL M M3 := a2.trans (hF.mono (by decide))
  refine ⟨M3, ?_, hFF, BS_fr a3 hF (by decide), CLw_fr (told_law hC hW hl) hFF (by decide), fun k q hk e => ?_, ?_, fun p hp => ?_, fun s hs => d3 s hs⟩
  · unfold fX6_begin
    rw [a1, bd_s, bnd_r, b1, bd_s, d1]
    rfl
  · rw [hF.gi (by decide)]
    have e2 : pAt (tPar T j) k = q := Option.some.inj e
    rw [← e2]
    exact a5 k hk
  · rw [d2.gi (by decide), b2.gi (by decide), gI_eq]; rfl
  · rw [d2.gi (by decide)]; exact b3 p hp
