/-! ===== text: the class reads ===== -/
def P00 : PARD := (6, 6, 0, 0, fun _ => false, fun _ => 0, fun _ => 0, fun _ _ => 0)
def L00 (j : Nat) : Nat := if j = 1 then 1 else if j = 3 then 5 else if j = 5 then 1 else 0
def D00 : DRF := (P00, L00, (0, fun _ _ => 0), fun _ => 0)
def s00 (tp : Nat → Nat) (len : Nat) : RST := (tkS tp len 0, 0, -1)
theorem D00_W : DWf D00 := ⟨⟨by decide, by decide, by decide, by decide, fun q h => absurd h Bool.false_ne_true, fun k h => absurd h (Nat.not_lt_zero k), fun k h => absurd h (Nat.not_lt_zero k)⟩, by unfold LWd; decide, ⟨by decide, fun i h => absurd h (Nat.not_lt_zero i)⟩, ⟨by decide, fun i _ => Nat.zero_le _⟩⟩
/-- how the reading ends -/
def FIN (x len : Nat) (y : RST × DRF) (f : Nat) (p : Int32) : Prop := (y.1.2.1 ≠ 0 ∧ f = y.1.2.1 ∧ p = y.1.2.2) ∨ (y.1.2.1 = 0 ∧ x ≠ 0 ∧ f = 0 ∧ p = y.1.2.2) ∨ (y.1.2.1 = 0 ∧ x = 0 ∧ ¬ insP y.2.1 ∧ f = 4 ∧ p = nI len) ∨ (y.1.2.1 = 0 ∧ x = 0 ∧ insP y.2.1 ∧ ¬ PDs y.2.1 ∧ f = 5 ∧ p = nI len) ∨ (y.1.2.1 = 0 ∧ x = 0 ∧ insP y.2.1 ∧ PDs y.2.1 ∧ f = 0 ∧ p = y.1.2.2)
theorem FIN_u {x len : Nat} {y : RST × DRF} {f f2 : Nat} {p p2 : Int32} (h : FIN x len y f p) (h2 : FIN x len y f2 p2) : f = f2 ∧ p = p2 := by
  rcases h with ⟨a1, a2, a3⟩ | ⟨a1, a2, a3, a4⟩ | ⟨a1, a2, a3, a4, a5⟩ | ⟨a1, a2, a3, a4, a5, a6⟩ | ⟨a1, a2, a3, a4, a5, a6⟩ <;> rcases h2 with ⟨b1, b2, b3⟩ | ⟨b1, b2, b3, b4⟩ | ⟨b1, b2, b3, b4, b5⟩ | ⟨b1, b2, b3, b4, b5, b6⟩ | ⟨b1, b2, b3, b4, b5, b6⟩ <;> first
    | exact ⟨by omega, by simp_all⟩
    | exact absurd b1 a1
    | exact absurd a1 b1
    | exact absurd b2 a2
    | exact absurd a2 b2
    | exact absurd b3 a3
    | exact absurd a3 b3
    | exact absurd b4 a4
    | exact absurd a4 b4
theorem clear_cls {M : MM} (hR : RD M) : ∃ M1 M2 M3, fX5_clear M = some M1 ∧ fX4_clear M1 = some M2 ∧ fX8_clear (sI M2 52 0 0) = some M3 ∧ Fr [42, 50, 51, 52, 56, 57] M M3 ∧ CDf M3 D00 := by
  obtain ⟨M1, f1, f2, f3, f4⟩ := fill_spec (M := sL (sI (sI (sI (sI M 42 0 6) 42 1 6) 42 2 0) 42 3 0) 42 12 0) (a := 50) (n := 64) (v := 0) (by decide)
  have h1 : Fr [42, 50] M M1 := ((((((Fr.rfl.pI (by decide)).pI (by decide)).pI (by decide)).pI (by decide)).pL (by decide))).trans (f2.mono (by decide))
  have h2 : Fr [51, 52, 56] M1 (sI (sI (sI (sI (sI (sI (sI (sI M1 51 0 0) 51 1 1) 51 2 0) 51 3 5) 51 4 0) 51 5 1) 52 0 0) 56 0 0) := (((((((Fr.rfl.pI (by decide)).pI (by decide)).pI (by decide)).pI (by decide)).pI (by decide)).pI (by decide)).pI (by decide)).pI (by decide)
  obtain ⟨M3, g1, g2, g3, g4⟩ := fill_spec (M := sI (sI (sI (sI (sI (sI (sI (sI M1 51 0 0) 51 1 1) 51 2 0) 51 3 5) 51 4 0) 51 5 1) 52 0 0) 56 0 0) (a := 57) (n := 8) (v := -1) (by decide)
  have h3 : Fr [51, 52, 56, 57] M1 M3 := (h2.mono (by decide)).trans (g2.mono (by decide))
  have k42 : ∀ k, gI M3 42 k = gI (sL (sI (sI (sI (sI M 42 0 6) 42 1 6) 42 2 0) 42 3 0) 42 12 0) 42 k := fun k => by rw [h3.gi (by decide), f2.gi (by decide)]
  refine ⟨M1, sI (sI (sI (sI (sI (sI M1 51 0 0) 51 1 1) 51 2 0) 51 3 5) 51 4 0) 51 5 1, M3, ?_, rfl, ?_, (h1.mono (by decide)).trans (h3.mono (by decide)), ⟨?_, ?_, ?_, ?_, fun k hk => absurd hk (Nat.not_lt_zero k), fun k hk => absurd hk (Nat.not_lt_zero k), ⟨0, by decide, ?_, fun q _ => Nat.zero_testBit q⟩, fun c hc => ?_, fun k hk => ?_⟩, fun j hj => ?_, ⟨?_, fun i hi => absurd hi (Nat.not_lt_zero i)⟩, ?_, fun i hi => ?_⟩
  · unfold fX5_clear
    simp only [bnd_r]
    rw [f1]; rfl
  · unfold fX8_clear
    simp only [bnd_r]
    rw [g1]; rfl
  · rw [k42]; simp (disch := decide) only [gI_sL, gI_nk, gI_eq]; rfl
  · rw [k42]; simp (disch := decide) only [gI_sL, gI_nk, gI_eq]; rfl
  · rw [k42]; simp (disch := decide) only [gI_sL, gI_nk, gI_eq]; rfl
  · rw [k42]; simp (disch := decide) only [gI_sL, gI_nk, gI_eq]; rfl
  · rw [h3.gl (by decide), f2.gl (by decide), gL_sL, if_pos ⟨rfl, rfl⟩]; rfl
  · rw [h3.gi (by decide)]; exact f3 c hc
  · rw [h3.gi (by decide), h1.gi (by decide)]; exact hR k hk
  · rw [g2.gi (by decide)]
    rcases (show j = 0 ∨ j = 1 ∨ j = 2 ∨ j = 3 ∨ j = 4 ∨ j = 5 by omega) with rfl | rfl | rfl | rfl | rfl | rfl <;> (simp (disch := decide) only [gI_ne, gI_nk, gI_eq]; rfl)
  · rw [g2.gi (by decide)]; simp (disch := decide) only [gI_ne, gI_eq]; rfl
  · rw [g2.gi (by decide), gI_eq]; rfl
  · rw [g3 i hi]; rfl
theorem read_cls {M : MM} {tp : Nat → Nat} {len x : Nat} (hx : x < 4) (hT : TPc M tp) (hl : len ≤ 600) (hR : RD M) :
    ∃ M2, fX7_read M (nI len) (nI x) = some M2 ∧ Fr rdCL M M2 ∧ RD M2 ∧ ∃ f p, gI M2 41 4 = nI f ∧ gI M2 41 5 = p ∧ f < 6 ∧ FIN x len (runA tp len x 600 (s00 tp len, D00)) f p ∧ DWf (runA tp len x 600 (s00 tp len, D00)).2 ∧
      CDL M2 (runA tp len x 600 (s00 tp len, D00)).2.2.1 ∧ CDE M2 (runA tp len x 600 (s00 tp len, D00)).2.2.2.1 ∧ CDS M2 (runA tp len x 600 (s00 tp len, D00)).2.2.2.2 ∧ (f = 0 → x = 0 → PW (runA tp len x 600 (s00 tp len, D00)).2.1 ∧ CP M2 42 (runA tp len x 600 (s00 tp len, D00)).2.1) := by
  have hF0 : Fr [41] M (sI (sI (sI (sI M 41 7 (nI len)) 41 10 0) 41 4 0) 41 5 (-1)) := (((Fr.rfl.pI (by decide)).pI (by decide)).pI (by decide)).pI (by decide)
  obtain ⟨Ma, Mb, Mc, c1, c2, c3, c4, c5⟩ := clear_cls (M := sI (sI (sI (sI M 41 7 (nI len)) 41 10 0) 41 4 0) 41 5 (-1)) (fun k hk => by rw [hF0.gi (by decide)]; exact hR k hk)
  have k41 : ∀ k, gI Mc 41 k = gI (sI (sI (sI (sI M 41 7 (nI len)) 41 10 0) 41 4 0) 41 5 (-1)) 41 k := fun k => c4.gi (by decide) k
  have hTc : TPc Mc tp := fun i hi => by rw [c4.gi (by decide), hF0.gi (by decide)]; exact hT i hi
  have e7 : gI Mc 41 7 = nI len := by rw [k41]; simp (disch := decide) only [gI_nk, gI_eq]
  have e10 : gI Mc 41 10 = nI 0 := by rw [k41]; simp (disch := decide) only [gI_nk, gI_eq]; rfl
  have e4 : gI Mc 41 4 = nI 0 := by rw [k41]; simp (disch := decide) only [gI_nk, gI_eq]; rfl
  have e5 : gI Mc 41 5 = -1 := by rw [k41, gI_eq]
  have t1 := tok_cls hTc hl e7 e10 (Nat.zero_le len)
  have hFt : Fr [41] Mc (nxTc Mc (tkS tp len 0) (tkK tp len (tkS tp len 0)) (tkE tp len (tkS tp len 0))) := ((Fr.rfl.pI (by decide)).pI (by decide)).pI (by decide)
  have hC : CS (nxTc Mc (tkS tp len 0) (tkK tp len (tkS tp len 0)) (tkE tp len (tkS tp len 0))) tp len (s00 tp len) := by
    refine ⟨fun i hi => ?_, hl, ?_, runE_le _ _ _ _ (Nat.zero_le len), ?_, ?_, ?_, ?_, ?_, (by decide : 0 < 6)⟩
    · unfold nxTc; simp (disch := decide) only [gI_ne]; exact hTc i hi
    · unfold nxTc; simp (disch := decide) only [gI_nk]; exact e7
    · unfold nxTc; simp (disch := decide) only [gI_nk, gI_eq]; rfl
    · unfold nxTc; simp (disch := decide) only [gI_nk, gI_eq]; rfl
    · unfold nxTc; simp (disch := decide) only [gI_nk, gI_eq]; rfl
    · unfold nxTc; simp (disch := decide) only [gI_nk]; exact e4
    · unfold nxTc; simp (disch := decide) only [gI_nk]; exact e5
  obtain ⟨M2, ⟨l1, l2, l3, l4⟩, l5⟩ := loop_cls (x := x) hx 600 0 FU _ (s00 tp len, D00) (Or.inr ⟨by omega, Nat.zero_le _⟩) (by show _ < 5000; omega) (by decide) hC (CDf_fr c5 hFt (by decide)) D00_W
  have hst : fX7_read M (nI len) (nI x) = fX7_read_j100 M2 (nI x) := by
    unfold fX7_read
    have hj : jmin (nI len) (nI 600) = nI len := by unfold jmin; exact lt_f hl (by decide)
    simp only [bnd_r, hj]
    rw [c1, bd_s, c2, bd_s, c3, bd_s, t1, bd_s]
    exact l5 _
  have hFr : Fr rdCL M M2 := (hF0.mono (by decide)).trans ((c4.mono (by decide)).trans ((hFt.mono (by decide)).trans l1))
  rw [hst]
  unfold fX7_read_j100
  rw [l2.2.2.2.2.2.2.2.1]
  have hend := runA_end (tp := tp) (len := len) (x := x) 600 (s00 tp len, D00) (Or.inr (by omega))
  generalize runA tp len x 600 (s00 tp len, D00) = y at *
  have hf6 := l2.2.2.2.2.2.2.2.2.2
  by_cases z : y.1.2.1 = 0
  · rw [eqz_t z]
    by_cases zx : x = 0
    · rw [eqz_t zx]
      obtain ⟨c, M3, s1, s2, s3⟩ := settle_cls l3.1 l4.1
      have hC3 := CS_fr l2 s2 (by decide) (by decide)
      have hR3 : RD M3 := fun k hk => by rw [s2.gi (by decide)]; exact l3.1.2.2.2.2.2.2.2.2 k hk
      have q2 := CDL_fr l3.2.1 s2 (by decide)
      have q3 := CDE_fr l3.2.2.1 s2 (by decide)
      have q4 := CDS_fr l3.2.2.2 s2 (by decide)
      rw [s1, bd_s, hC3.2.2.1]
      rcases s3 with ⟨rfl, d1⟩ | ⟨rfl, d1, d2⟩ | ⟨rfl, d1, d2⟩
      · obtain ⟨M4, m1, m2, m3⟩ := mark_CS (k := 4) (q := len) hC3 (by decide)
        have em : mkF 4 len y.1 = (y.1.1, 4, nI len) := by unfold mkF; rw [if_pos z]
        rw [em] at m3
        refine ⟨M4, by rw [m1]; rfl, hFr.trans ((s2.mono (by decide)).trans (m2.1.mono (by decide))), fun k hk => by rw [m2.1.gi (by decide)]; exact hR3 k hk, 4, nI len, m3.2.2.2.2.2.2.2.1, m3.2.2.2.2.2.2.2.2.1, by decide, Or.inr (Or.inr (Or.inl ⟨z, zx, d1, rfl, rfl⟩)), l4, CDL_fr q2 m2.1 (by decide), CDE_fr q3 m2.1 (by decide), CDS_fr q4 m2.1 (by decide), fun e => absurd e (by decide)⟩
      · obtain ⟨M4, m1, m2, m3⟩ := mark_CS (k := 5) (q := len) hC3 (by decide)
        have em : mkF 5 len y.1 = (y.1.1, 5, nI len) := by unfold mkF; rw [if_pos z]
        rw [em] at m3
        refine ⟨M4, by rw [m1]; rfl, hFr.trans ((s2.mono (by decide)).trans (m2.1.mono (by decide))), fun k hk => by rw [m2.1.gi (by decide)]; exact hR3 k hk, 5, nI len, m3.2.2.2.2.2.2.2.1, m3.2.2.2.2.2.2.2.2.1, by decide, Or.inr (Or.inr (Or.inr (Or.inl ⟨z, zx, d1, d2, rfl, rfl⟩))), l4, CDL_fr q2 m2.1 (by decide), CDE_fr q3 m2.1 (by decide), CDS_fr q4 m2.1 (by decide), fun e => absurd e (by decide)⟩
      · refine ⟨M3, ?_, hFr.trans (s2.mono (by decide)), hR3, 0, y.1.2.2, by rw [hC3.2.2.2.2.2.2.2.1, z], hC3.2.2.2.2.2.2.2.2.1, by decide, Or.inr (Or.inr (Or.inr (Or.inr ⟨z, zx, ⟨fun q _ h => d1.2.2.2.2.1 q h, fun k hk => (d1.2.2.2.2.2.1 k hk).1, fun k hk => (d1.2.2.2.2.2.2.1 k hk).2.1⟩, d1.2.2.2.2.2.2.2, rfl, rfl⟩))), l4, q2, q3, q4, fun _ _ => ⟨d1, d2⟩⟩
        unfold fX7_mark
        rw [hC3.2.2.2.2.2.2.2.1, eqz_t z, if_pos (show nI 0 = 0 from rfl)]; rfl
    · rw [eqz_f (by omega) (by omega)]
      exact ⟨M2, rfl, hFr, l3.1.2.2.2.2.2.2.2.2, 0, y.1.2.2, by rw [l2.2.2.2.2.2.2.2.1, z], l2.2.2.2.2.2.2.2.2.1, by decide, Or.inr (Or.inl ⟨z, zx, rfl, rfl⟩), l4, l3.2.1, l3.2.2.1, l3.2.2.2, fun _ e => absurd e zx⟩
  · rw [eqz_f (by omega) (by omega)]
    exact ⟨M2, rfl, hFr, l3.1.2.2.2.2.2.2.2.2, y.1.2.1, y.1.2.2, l2.2.2.2.2.2.2.2.1, l2.2.2.2.2.2.2.2.2.1, hf6, Or.inl ⟨z, rfl, rfl⟩, l4, l3.2.1, l3.2.2.1, l3.2.2.2, fun e => absurd e z⟩
