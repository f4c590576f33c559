/-! ===== text: what is wrong at the end, by the reference ===== -/
theorem wr_l47 {M : MM} {P : PARD} (h : RDP M P) {s : Nat} (hP : DPW P) (hs : s < 64) (kk : Int32 → Int32 → Option Int32) : ∀ m p f n, p + m = pN P → m < f → fX12_wrongAtEnd_l47 M kk f (nI s) (nI n) (nI p) = kk (nI s) (nI (n + cqN (fun k => decide (pAt P k = s)) m p))
  | m, p, f + 1, n, h1, h2 => by
    have p8 := h.1.1
    rw [fX12_wrongAtEnd_l47.eq_2, ix2l, h.2.2.2.1]
    cases m with
    | zero => rw [le_t (show pN P ≤ p by omega) (by omega), cqN, Nat.add_zero]
    | succ m =>
      have h64 := (hP.2.2.2.2.2.1 p (by omega)).1
      unfold fX12_wrongAtEnd_j78
      rw [le_f (show p < pN P by omega) (by omega), nl2, pk_mul, nl68, nI_add, gd_inb (by omega) (by decide), ix_nI (by omega), (h.2.2.2.2.2.2.1 p (by omega)).1, cqN, bnd_r, bnd_r, nI_1]
      by_cases c : pAt P p = s
      · rw [eqn_t c, decide_eq_true c, if_pos rfl, nl1, nI_add]
        show fX12_wrongAtEnd_l47 M kk f (nI s) (nI (n + 1)) (nI (p + 1)) = _
        rw [wr_l47 h hP hs kk m (p + 1) f (n + 1) (by omega) (by omega), Nat.add_assoc]
      · rw [eqn_f c (by omega) (by omega), decide_eq_false c, if_neg Bool.false_ne_true, nl0, nI_add, nI_1]
        show fX12_wrongAtEnd_l47 M kk f (nI s) (nI (n + 0)) (nI (p + 1)) = _
        rw [wr_l47 h hP hs kk m (p + 1) f (n + 0) (by omega) (by omega), Nat.add_assoc]
  | _, _, 0, _, _, h => absurd h (Nat.not_lt_zero _)
theorem wr_l88 {M : MM} {P : PARD} (h : RDP M P) {s : Nat} (hP : DPW P) (hs : s < 64) (kk : Int32 → Int32 → Option Int32) : ∀ m p f n, p + m = pS P → m < f → fX12_wrongAtEnd_l88 M kk f (nI s) (nI n) (nI p) = kk (nI s) (nI (n + cqN (fun k => decide (pSh P k 1 = s)) m p))
  | m, p, f + 1, n, h1, h2 => by
    have p8 := h.1.2
    rw [fX12_wrongAtEnd_l88.eq_2, ix3l, h.2.2.2.2.1]
    cases m with
    | zero => rw [le_t (show pS P ≤ p by omega) (by omega), cqN, Nat.add_zero]
    | succ m =>
      have h64 := (hP.2.2.2.2.2.2 p (by omega)).2.1
      unfold fX12_wrongAtEnd_j121
      rw [le_f (show p < pS P by omega) (by omega), nl5, pk_mul, nl84, nI_add, nI_1, gd_inb (by omega) (by decide), ix_nI (by omega), h.2.2.2.2.2.2.2.1 p (by omega) 1 (by decide), cqN, bnd_r, bnd_r, nI_1]
      by_cases c : pSh P p 1 = s
      · rw [eqn_t c, decide_eq_true c, if_pos rfl, nl1, nI_add]
        show fX12_wrongAtEnd_l88 M kk f (nI s) (nI (n + 1)) (nI (p + 1)) = _
        rw [wr_l88 h hP hs kk m (p + 1) f (n + 1) (by omega) (by omega), Nat.add_assoc]
      · rw [eqn_f c (by omega) (by omega), decide_eq_false c, if_neg Bool.false_ne_true, nl0, nI_add, nI_1]
        show fX12_wrongAtEnd_l88 M kk f (nI s) (nI (n + 0)) (nI (p + 1)) = _
        rw [wr_l88 h hP hs kk m (p + 1) f (n + 0) (by omega) (by omega), Nat.add_assoc]
  | _, _, 0, _, _, h => absurd h (Nat.not_lt_zero _)
theorem wr_l30 {M : MM} {P : PARD} (h : RDP M P) (hP : DPW P) : ∀ m s f, s + m = 64 → m < f → (fX12_wrongAtEnd_l30 M f (nI s) = some 5 ∧ ¬ ∀ q, q < 64 → totP P q ≤ 1) ∨ (fX12_wrongAtEnd_l30 M f (nI s) = some 0 ∧ ∀ q, s ≤ q → q < 64 → totP P q ≤ 1)
  | m, s, f + 1, h1, h2 => by
    have p8 := h.1.1
    have s8 := h.1.2
    rw [fX12_wrongAtEnd_l30.eq_2]
    cases m with
    | zero => right; exact ⟨by rw [nl64, le_t (show 64 ≤ s by omega) (by omega)], fun q z1 z2 => by omega⟩
    | succ m =>
      have ev : (if pWa P s then (1 : Int32) else 0) = nI (if pWa P s = true then 1 else 0) := by split <;> rfl
      have hc1 := cq_le (fun k => decide (pAt P k = s)) (pN P) 0
      have hc2 := cq_le (fun k => decide (pSh P k 1 = s)) (pS P) 0
      have ht : totP P s ≤ 17 := by unfold totP; split <;> omega
      have key : (if 64 ≤ nI s then some 0 else gd (inb (4 + nI s) 124) (bnd (gI M 93 (ix (4 + nI s))) (fun v6 => fX12_wrongAtEnd_l47 M (fun y31 y32 => fX12_wrongAtEnd_l88 M (fun y56 y57 => (if y57 ≤ 1 then fX12_wrongAtEnd_l30 M f (y56 + 1) else some 5)) FU y31 y32 0) FU (nI s) v6 0))) = if totP P s ≤ 1 then fX12_wrongAtEnd_l30 M f (nI (s + 1)) else some 5 := by
        rw [nl64, le_f (show s < 64 by omega) (by decide), nl4, nI_add, gd_inb (by omega) (by decide), ix_nI (by omega), h.2.2.2.2.2.1 s (by omega), bnd_r, ev]
        rw [show (0 : Int32) = nI 0 from rfl, wr_l47 h hP (by omega) _ (pN P) 0 FU _ (by omega) (by show _ < 5000; omega), wr_l88 h hP (by omega) _ (pS P) 0 FU _ (by omega) (by show _ < 5000; omega)]
        show (if nI (totP P s) ≤ 1 then fX12_wrongAtEnd_l30 M f (nI s + 1) else some 5) = _
        rw [nl1, nI_add]
        by_cases z : totP P s ≤ 1
        · rw [le_t z (by decide), if_pos z]
        · rw [le_f (by omega) (by omega), if_neg z]
      rw [key]
      by_cases z : totP P s ≤ 1
      · rw [if_pos z]
        rcases wr_l30 h hP m (s + 1) f (by omega) (by omega) with i | ⟨i1, i2⟩
        · exact Or.inl i
        · refine Or.inr ⟨i1, fun q q1 q2 => ?_⟩
          by_cases e : q = s
          · rw [e]; exact z
          · exact i2 q (by omega) q2
      · rw [if_neg z]
        exact Or.inl ⟨rfl, fun y => z (y s (by omega))⟩
  | _, _, 0, _, h => absurd h (Nat.not_lt_zero _)
theorem rg_lt : ∀ l, l < 9 → ∀ h, h < 9 → (rgI l < nI h ↔ ¬ h < l) := by decide +kernel
theorem wrong_RS {M : MM} {P : PARD} (h : RDP M P) (hP : DPW P) : ∃ c, fX12_wrongAtEnd M = some (nI c) ∧ ((c = 4 ∧ ¬ insP P) ∨ (c = 5 ∧ insP P ∧ ¬ PDs P) ∨ (c = 0 ∧ insP P ∧ PDs P)) := by
  obtain ⟨r, l, r8, l8, g9, g10, hr⟩ := h.2.2.2.2.2.2.2.2
  have hw := hP.1.2
  have hh := hP.2.1.2
  have hins : insP P ↔ ∀ q, tldP P q → inP (pW P) (pH P) q := by
    constructor
    · rintro ⟨i1, i2, i3⟩ q (⟨z1, z2⟩ | ⟨k, z1, z2⟩ | ⟨k, z1, z2⟩)
      · exact i1 q z1 z2
      · rw [← z2]; exact i2 k z1
      · rw [← z2]; exact i3 k z1
    · intro i
      exact ⟨fun q z1 z2 => i q (Or.inl ⟨z1, z2⟩), fun k z => i _ (Or.inr (Or.inl ⟨k, z, rfl⟩)), fun k z => i _ (Or.inr (Or.inr ⟨k, z, rfl⟩))⟩
  unfold fX12_wrongAtEnd
  rw [ix0l, ix1l, h.2.1, h.2.2.1, g9, g10]
  by_cases c1 : pW P < r
  · rw [if_pos ((rg_le _ (by omega) _ (by omega)).mpr c1)]
    refine ⟨4, rfl, Or.inl ⟨rfl, fun z => ?_⟩⟩
    obtain ⟨q, q1, q2⟩ := (hr (pW P)).1.mp c1
    have := (hins.mp z q q1).1
    omega
  · rw [if_neg (fun z => c1 ((rg_le _ (by omega) _ (by omega)).mp z))]
    by_cases c2 : pH P < l
    · rw [if_neg (fun z => ((rg_lt _ (by omega) _ (by omega)).mp z) c2)]
      refine ⟨4, rfl, Or.inl ⟨rfl, fun z => ?_⟩⟩
      obtain ⟨q, q1, q2⟩ := (hr (pH P)).2.mp c2
      have := (hins.mp z q q1).2
      omega
    · rw [if_pos ((rg_lt _ (by omega) _ (by omega)).mpr c2)]
      have hI : insP P := hins.mpr (fun q hq => ⟨by
        rcases Nat.lt_or_ge (q % 8) (pW P) with z | z
        · exact z
        · exact absurd ((hr (pW P)).1.mpr ⟨q, hq, z⟩) c1, by
        rcases Nat.lt_or_ge (q / 8) (pH P) with z | z
        · exact z
        · exact absurd ((hr (pH P)).2.mpr ⟨q, hq, z⟩) c2⟩)
      rcases wr_l30 h hP 64 0 FU rfl (by show _ < 5000; omega) with ⟨i1, i2⟩ | ⟨i1, i2⟩
      · exact ⟨5, i1, Or.inr (Or.inl ⟨rfl, hI, fun z => i2 ((PDs_tot hP).mp z)⟩)⟩
      · exact ⟨0, i1, Or.inr (Or.inr ⟨rfl, hI, (PDs_tot hP).mpr (fun q hq => i2 q (Nat.zero_le q) hq)⟩)⟩
/-! ===== text: the reference reads ===== -/
theorem read_RS {M : MM} {tp : Nat → Nat} {len x : Nat} (hx : x < 4) (hT : TPm M tp len) (h5 : gI M 91 5 = 0) (h6 : gI M 91 6 = -1) (hW : DWf (runA tp len x 600 (s00 tp len, D00)).2) :
    ∃ M2, (WR2 M M2 ∧ ∃ f p, gI M2 91 5 = nI f ∧ gI M2 91 6 = p ∧ f < 6 ∧ FIN x len (runA tp len x 600 (s00 tp len, D00)) f p ∧ (f = 0 → RDx x M2 (runA tp len x 600 (s00 tp len, D00)).2)) ∧ ∀ z, fX12_text_j71 M (nI x) z = fX12_text_j203 M2 (nI x) z := by
  have hl := hT.2.1
  have hF0 : Fr [90] M (sI (sI (sI (sI M 90 3 0) 90 8 0) 90 9 (-1)) 90 10 (-1)) := (((Fr.rfl.pI (by decide)).pI (by decide)).pI (by decide)).pI (by decide)
  obtain ⟨Ma, c1, c2, c3, c4⟩ := clears_RS (M := sI (sI (sI (sI M 90 3 0) 90 8 0) 90 9 (-1)) 90 10 (-1)) hx (by rw [gI_nk _ _ _ _ _ _ (by decide), gI_eq]) (gI_eq _ _ _ _)
  have g90 : ∀ k, gI Ma 90 k = gI (sI (sI (sI (sI M 90 3 0) 90 8 0) 90 9 (-1)) 90 10 (-1)) 90 k := fun k => c2.gi (by decide) k
  have g91 : ∀ k, gI Ma 91 k = gI M 91 k := fun k => by rw [c2.gi (by decide), hF0.gi (by decide)]
  have hTa : TPm Ma tp len := ⟨by rw [g90]; simp (disch := decide) only [gI_nk]; exact hT.1, hl, fun i hi => by rw [g91]; exact hT.2.2 i hi⟩
  obtain ⟨Mb, d1, d2, d3⟩ := adv_ref hTa (pos := 0) (by rw [g90]; simp (disch := decide) only [gI_nk, gI_eq]; rfl) (Nat.zero_le len)
  have wb := WR.of d2
  have hRS : RSm Mb tp len (s00 tp len) := ⟨TPm_wr hTa wb, d3, runE_le _ _ _ _ (Nat.zero_le len), by rw [d2.1.gi (by decide), g91]; exact h5, by rw [d2.1.gi (by decide), g91]; exact h6, by
    rw [d2.2 8 (by decide), g90]; simp (disch := decide) only [gI_nk, gI_eq]; rfl, (by decide : 0 < 6)⟩
  have hGb : GDx x Mb := by
    unfold GDx at c3 ⊢
    split
    · rename_i e; rw [if_pos e] at c3; exact GDP_wr c3 wb
    · rename_i e; rw [if_neg e] at c3
      split
      · rename_i e2; rw [if_pos e2] at c3
        obtain ⟨a, a1, a2⟩ := c3
        exact ⟨a, a1, by rw [wb.g93]; exact a2⟩
      · trivial
  have hDb : RDx x Mb D00 := by
    unfold RDx at c4 ⊢
    split
    · rename_i e; rw [if_pos e] at c4; exact RDP_wr c4 wb
    · rename_i e; rw [if_neg e] at c4
      split
      · rename_i e2; rw [if_pos e2] at c4
        exact fun j hj => by rw [wb.g93]; exact c4 j hj
      · rename_i e2; rw [if_neg e2] at c4
        split
        · rename_i e3; rw [if_pos e3] at c4
          exact ⟨c4.1, by rw [wb.g93]; exact c4.2.1, fun i hi c hc => by rw [wb.g93]; exact c4.2.2 i hi c hc⟩
        · rename_i e3; rw [if_neg e3] at c4
          exact fun j hj => by rw [wb.g93]; exact c4 j hj
  obtain ⟨M2, ⟨l1, l2, l3, l4⟩, l5⟩ := loop_RS (x := x) hx 600 FU Mb (s00 tp len, D00) (Or.inr (by omega)) (by show _ < 5000; omega) hRS (fun z => absurd rfl z) hGb (fun _ => hDb)
  have hst : ∀ z, fX12_text_j71 M (nI x) z = fX12_text_j168 M2 (nI x) z := fun z => by
    unfold fX12_text_j71
    simp only [bnd_r]
    rw [c1, bd_s, d1, bd_s]
    exact l5 _ z
  have w0 : WR2 M M2 := by
    have wa : WR2 M Ma := ⟨(hF0.mono (by decide)).trans (c2.mono (by decide)), fun k _ _ => g91 k⟩
    exact wa.trans (wb.two.trans l1)
  have hend := runA_end (tp := tp) (len := len) (x := x) 600 (s00 tp len, D00) (Or.inr (by omega))
  simp only [hst]
  generalize runA tp len x 600 (s00 tp len, D00) = y at *
  unfold fX12_text_j168 fX12_text_j188 fX12_text_j189
  rw [show ix 5 = 5 by decide, l2.2.2.2.1]
  have hf6 := l2.2.2.2.2.2.2
  by_cases z : y.1.2.1 = 0
  · have hs : y.1.1 = len := by
      have h1 := l2.2.2.1
      have h2 := hend.resolve_left (by omega)
      omega
    by_cases zx : x = 0
    · subst zx
      have hRP : RDP M2 y.2.1 := l4 z
      obtain ⟨c, e1, e2⟩ := wrong_RS hRP hW.1
      rcases e2 with ⟨rfl, e2⟩ | ⟨rfl, e2, e3⟩ | ⟨rfl, e2, e3⟩
      · obtain ⟨M3, m1, m2, m3⟩ := also_RS (k := 4) (q := y.1.1) l2 (by omega) (by decide) (by omega) l3
        have em : mkF 4 y.1.1 y.1 = (y.1.1, 4, nI len) := by unfold mkF; rw [if_pos z, hs]
        rw [em] at m3
        refine ⟨M3, ⟨w0.trans m2.two, 4, nI len, m3.2.2.2.1, m3.2.2.2.2.1, by decide, Or.inr (Or.inr (Or.inl ⟨z, rfl, e2, rfl, rfl⟩)), fun q => absurd q (by decide)⟩, fun w => ?_⟩
        rw [eqz_t z, if_pos (show nI 0 = 0 from rfl), e1, bd_s, if_neg (show ¬ nI 4 = 0 by decide), l2.2.1.2.1, m1]; rfl
      · obtain ⟨M3, m1, m2, m3⟩ := also_RS (k := 5) (q := y.1.1) l2 (by omega) (by decide) (by omega) l3
        have em : mkF 5 y.1.1 y.1 = (y.1.1, 5, nI len) := by unfold mkF; rw [if_pos z, hs]
        rw [em] at m3
        refine ⟨M3, ⟨w0.trans m2.two, 5, nI len, m3.2.2.2.1, m3.2.2.2.2.1, by decide, Or.inr (Or.inr (Or.inr (Or.inl ⟨z, rfl, e2, e3, rfl, rfl⟩))), fun q => absurd q (by decide)⟩, fun w => ?_⟩
        rw [eqz_t z, if_pos (show nI 0 = 0 from rfl), e1, bd_s, if_neg (show ¬ nI 5 = 0 by decide), l2.2.1.2.1, m1]; rfl
      · refine ⟨M2, ⟨w0, 0, y.1.2.2, by rw [l2.2.2.2.1, z], l2.2.2.2.2.1, by decide, Or.inr (Or.inr (Or.inr (Or.inr ⟨z, rfl, e2, e3, rfl, rfl⟩))), fun _ => l4 z⟩, fun w => ?_⟩
        rw [eqz_t z, if_pos (show nI 0 = 0 from rfl), e1, bd_s, if_pos (show nI 0 = 0 from rfl)]
    · refine ⟨M2, ⟨w0, 0, y.1.2.2, by rw [l2.2.2.2.1, z], l2.2.2.2.2.1, by decide, Or.inr (Or.inl ⟨z, zx, rfl, rfl⟩), fun _ => l4 z⟩, fun w => ?_⟩
      rw [eqz_t z, eqz_f (by omega) (by omega), if_pos rfl]
  · refine ⟨M2, ⟨w0, y.1.2.1, y.1.2.2, l2.2.2.2.1, l2.2.2.2.2.1, hf6, Or.inl ⟨z, rfl, rfl⟩, fun e => absurd e z⟩, fun w => ?_⟩
    rw [eqz_f (by omega) (by omega), if_pos rfl]
