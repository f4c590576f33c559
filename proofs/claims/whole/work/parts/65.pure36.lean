/-! ===== a told block is copied ===== -/
def OUT (lo hi : Nat) (M M2 : MM) : Prop := ∀ c, c < lo ∨ hi < c → M2.1 c = M.1 c
theorem OUT.trans {lo hi : Nat} {M M1 M2 : MM} (h : OUT lo hi M M1) (h2 : OUT lo hi M1 M2) : OUT lo hi M M2 := fun c hc => (h2 c hc).trans (h c hc)
theorem OUT.of {lo hi : Nat} {M M2 : MM} {P : List Nat} (h : Fr P M M2) (hP : ∀ c, c ∈ P → lo ≤ c ∧ c ≤ hi) : OUT lo hi M M2 := fun c hc => (h c (fun q => by have := hP c q; omega)).1
theorem OUT.gi {lo hi : Nat} {M M2 : MM} (h : OUT lo hi M M2) {c : Nat} (hc : c < lo ∨ hi < c) (k : Nat) : gI M2 c k = gI M c k := congrFun (h c hc) k
theorem OUT.wide {lo hi lo2 hi2 : Nat} {M M2 : MM} (h : OUT lo hi M M2) (h1 : lo2 ≤ lo) (h2 : hi ≤ hi2) : OUT lo2 hi2 M M2 := fun c hc => h c (by omega)
theorem lawcp {M : MM} {a0 a1 : Nat} (hb : isb (gI M a1 1) = true) (hne : a1 ≠ a0) : ∃ M2, fX4_copyFrom M a0 a1 = some M2 ∧ OUT a0 a0 M M2 ∧ ∀ j, j < 6 → gI M2 a0 j = gI M a1 j := by
  unfold fX4_copyFrom
  simp (disch := assumption) only [bnd_r, gI_ne]
  rw [gd_t hb]
  refine ⟨_, rfl, OUT.of (P := [a0]) ((((((Fr.rfl.pI (by simp)).pI (by simp)).pI (by simp)).pI (by simp)).pI (by simp)).pI (by simp)) (fun c hc => by simp at hc; omega), fun j hj => ?_⟩
  rcases (show j = 0 ∨ j = 1 ∨ j = 2 ∨ j = 3 ∨ j = 4 ∨ j = 5 by omega) with rfl | rfl | rfl | rfl | rfl | rfl <;> simp (disch := omega) only [gI_eq, gI_nk]
theorem evecp {M : MM} {a0 a1 : Nat} (h : a0 + 3 < a1 ∨ a1 + 3 < a0) : ∃ M2, fX2_copyFrom M a0 a1 = some M2 ∧ OUT a0 (a0 + 3) M M2 ∧ gI M2 a0 0 = gI M a1 0 ∧ ∀ r, 1 ≤ r → r ≤ 3 → ∀ k, k < 40 → gI M2 (a0 + r) k = gI M (a1 + r) k := by
  unfold fX2_copyFrom
  simp only [bnd_r, ix40]
  refine ⟨_, rfl, OUT.of (P := [a0, a0 + 1, a0 + 2, a0 + 3]) ((((Fr.rfl.pI (by simp)).pC (by simp)).pC (by simp)).pC (by simp)) (fun c hc => by simp at hc; omega), ?_, fun r h1 h2 k hk => ?_⟩
  · simp (disch := omega) only [gI_cp_ne, gI_eq]
  · rcases (show r = 1 ∨ r = 2 ∨ r = 3 by omega) with rfl | rfl | rfl <;> simp (disch := omega) only [gI_cp_ne, gI_cp_eq, gI_ne]
theorem sigcp {M : MM} {a0 a1 : Nat} (h : a0 + 1 < a1 ∨ a1 + 1 < a0) : ∃ M2, fX8_copyFrom M a0 a1 = some M2 ∧ OUT a0 (a0 + 1) M M2 ∧ gI M2 a0 0 = gI M a1 0 ∧ ∀ k, k < 8 → gI M2 (a0 + 1) k = gI M (a1 + 1) k := by
  unfold fX8_copyFrom
  simp only [bnd_r, ix8]
  refine ⟨_, rfl, OUT.of (P := [a0, a0 + 1]) ((Fr.rfl.pI (by simp)).pC (by simp)) (fun c hc => by simp at hc; omega), ?_, fun k hk => ?_⟩
  · simp (disch := omega) only [gI_cp_ne, gI_eq]
  · simp (disch := omega) only [gI_cp_eq, gI_ne]
/-- the i-th parish, law, evening, sight of a block are those of another -/
def EQI (M2 M : MM) (a0 a1 i : Nat) : Prop := (∀ k, k < 4 → gI M2 (a0 + (6 + 16 * i)) k = gI M (a1 + (6 + 16 * i)) k) ∧ (∀ r, 1 ≤ r → r ≤ 7 → ∀ k, k < 8 → gI M2 (a0 + (6 + 16 * i) + r) k = gI M (a1 + (6 + 16 * i) + r) k) ∧ (∀ k, k < 64 → gI M2 (a0 + (6 + 16 * i) + 8) k = gI M (a1 + (6 + 16 * i) + 8) k) ∧ (∀ j, j < 6 → gI M2 (a0 + (15 + 16 * i)) j = gI M (a1 + (15 + 16 * i)) j) ∧ gI M2 (a0 + (16 + 16 * i)) 0 = gI M (a1 + (16 + 16 * i)) 0 ∧ (∀ r, 1 ≤ r → r ≤ 3 → ∀ k, k < 40 → gI M2 (a0 + (16 + 16 * i) + r) k = gI M (a1 + (16 + 16 * i) + r) k) ∧ gI M2 (a0 + (20 + 16 * i)) 0 = gI M (a1 + (20 + 16 * i)) 0 ∧ ∀ k, k < 8 → gI M2 (a0 + (20 + 16 * i) + 1) k = gI M (a1 + (20 + 16 * i) + 1) k
theorem EQI_keep {M3 M2 M : MM} {a0 a1 i : Nat} (h : EQI M2 M a0 a1 i) (he : ∀ c, a0 + (6 + 16 * i) ≤ c → c ≤ a0 + (21 + 16 * i) → M3.1 c = M2.1 c) : EQI M3 M a0 a1 i := by
  have g : ∀ c k, a0 + (6 + 16 * i) ≤ c → c ≤ a0 + (21 + 16 * i) → gI M3 c k = gI M2 c k := fun c k h1 h2 => congrFun (he c h1 h2) k
  obtain ⟨h1, h2, h3, h4, h5, h6, h7, h8⟩ := h
  refine ⟨fun k hk => by rw [g _ _ (by omega) (by omega)]; exact h1 k hk, fun r r1 r2 k hk => by rw [g _ _ (by omega) (by omega)]; exact h2 r r1 r2 k hk, fun k hk => by rw [g _ _ (by omega) (by omega)]; exact h3 k hk, fun k hk => by rw [g _ _ (by omega) (by omega)]; exact h4 k hk, by rw [g _ _ (by omega) (by omega)]; exact h5, fun r r1 r2 k hk => by rw [g _ _ (by omega) (by omega)]; exact h6 r r1 r2 k hk, by rw [g _ _ (by omega) (by omega)]; exact h7, fun k hk => by rw [g _ _ (by omega) (by omega)]; exact h8 k hk⟩
theorem step_cp {M : MM} {a0 a1 i : Nat} (hi : i < 2) (hap : a0 + 39 ≤ a1 ∨ a1 + 39 ≤ a0) (hb : isb (gI M (a1 + (15 + 16 * i)) 1) = true) : ∃ M2, OUT (a0 + (6 + 16 * i)) (a0 + (21 + 16 * i)) M M2 ∧ EQI M2 M a0 a1 i ∧ ∀ k f, fX9_copyFrom_l16 a0 a1 k (f + 1) M (nI i) = fX9_copyFrom_l16 a0 a1 k f M2 (nI (i + 1)) := by
  obtain ⟨M1, p1, p2, p3, p4, p5, -⟩ := copy_spec (M := M) (a0 := a0 + (6 + 16 * i)) (a1 := a1 + (6 + 16 * i)) (by omega)
  have o1 : OUT (a0 + (6 + 16 * i)) (a0 + (14 + 16 * i)) M M1 := OUT.of p2 (fun c hc => by simp at hc; omega)
  obtain ⟨M2, l1, l2, l3⟩ := lawcp (M := M1) (a0 := a0 + (15 + 16 * i)) (a1 := a1 + (15 + 16 * i)) (by rw [o1.gi (by omega)]; exact hb) (by omega)
  obtain ⟨M3, v1, v2, v3, v4⟩ := evecp (M := M2) (a0 := a0 + (16 + 16 * i)) (a1 := a1 + (16 + 16 * i)) (by omega)
  obtain ⟨M4, s1, s2, s3, s4⟩ := sigcp (M := M3) (a0 := a0 + (20 + 16 * i)) (a1 := a1 + (20 + 16 * i)) (by omega)
  refine ⟨M4, (((o1.wide (by omega) (by omega)).trans (l2.wide (by omega) (by omega))).trans (v2.wide (by omega) (by omega))).trans (s2.wide (by omega) (by omega)), ⟨fun k hk => ?_, fun r r1 r2 k hk => ?_, fun k hk => ?_, fun k hk => ?_, ?_, fun r r1 r2 k hk => ?_, ?_, fun k hk => ?_⟩, fun k f => ?_⟩
  · rw [s2.gi (by omega), v2.gi (by omega), l2.gi (by omega)]; exact p3 k hk
  · rw [s2.gi (by omega), v2.gi (by omega), l2.gi (by omega)]; exact p4 r r1 r2 k hk
  · rw [s2.gi (by omega), v2.gi (by omega), l2.gi (by omega)]; exact p5 k hk
  · rw [s2.gi (by omega), v2.gi (by omega), l3 k hk, o1.gi (by omega)]
  · rw [s2.gi (by omega), v3, l2.gi (by omega), o1.gi (by omega)]
  · rw [s2.gi (by omega), v4 r r1 r2 k hk, l2.gi (by omega), o1.gi (by omega)]
  · rw [s3, v2.gi (by omega), l2.gi (by omega), o1.gi (by omega)]
  · rw [s4 k hk, v2.gi (by omega), l2.gi (by omega), o1.gi (by omega)]
  · rw [fX9_copyFrom_l16.eq_2, nl2, le_f hi (by decide)]
    simp (disch := omega) only [gd_inb, ix_nI]
    rw [p1, bd_s, l1, bd_s, v1, bd_s, s1, bd_s, nI_1]
theorem fits_b (b : Nat) : fits .byte (.int ((nI b).toInt8.toInt32)) = true := by
  have h := lg_i2b_range (nI b)
  have : narrow .byte (.int ((nI b).toInt8.toInt32)) = .int ((nI b).toInt8.toInt32) := by
    show Value.int (((nI b).toInt8.toInt32).toInt8.toInt32) = _
    rw [lg_i2b_small h.1 h.2]
  have h1 : (-128 : Int32) ≤ (nI b).toInt8.toInt32 := Int32.le_iff_toInt_le.mpr (by rw [show (-128 : Int32).toInt = -128 by decide]; exact h.1)
  have h2 : (nI b).toInt8.toInt32 ≤ (127 : Int32) := Int32.le_iff_toInt_le.mpr (by rw [show (127 : Int32).toInt = 127 by decide]; have := h.2; omega)
  unfold fits
  simp [this, h1, h2]
theorem told_cp {M : MM} {a0 a1 : Nat} {T : TOLD} (hW : TW T) (hC : CT M a1 T) (hap : a0 + 39 ≤ a1 ∨ a1 + 39 ≤ a0) : ∃ M2, fX9_copyFrom M a0 a1 = some M2 ∧ OUT a0 (a0 + 38) M M2 ∧ CT M2 a0 T := by
  obtain ⟨c1, c2, c3, c4, c5, c6, c7, c8, c9, c10⟩ := id hC
  have n0 := hW.1 0 (by decide)
  have n1 := hW.1 1 (by decide)
  have n2 := hW.1 2 (by decide)
  have n3 := hW.1 3 (by decide)
  have o1 : OUT (a0 + 1) (a0 + 1) M (cpI M (a1 + 1) (a0 + 1) 0 0 4) := OUT.of (P := [a0 + 1]) (Fr.rfl.pC (by simp)) (fun c hc => by simp at hc; omega)
  obtain ⟨M2, p1, p2, p3⟩ := step_cp (i := 0) (by decide) hap (by rw [o1.gi (by omega)]; exact c10 0 (by decide))
  obtain ⟨M3, q1, q2, q3⟩ := step_cp (M := M2) (i := 1) (by decide) hap (by rw [p1.gi (by omega), o1.gi (by omega)]; exact c10 1 (by decide))
  let M4 := sI (sI (sI (cpI M3 (a1 + 38) (a0 + 38) 0 0 600) a0 6 (gI M a1 6)) a0 7 (gI M a1 7)) a0 8 (gI M a1 8)
  have hFr4 : Fr [a0, a0 + 38] M3 M4 := (((Fr.rfl.pC (by simp)).pI (by simp)).pI (by simp)).pI (by simp)
  have oo : ∀ c, c < a0 ∨ a0 + 38 < c → M3.1 c = M.1 c := fun c hc => by rw [q1 c (by omega), p1 c (by omega), o1 c (by omega)]
  have o4 : OUT a0 (a0 + 38) M M4 := fun c hc => by rw [(hFr4 c (by simp; omega)).1]; exact oo c hc
  have gm : ∀ c k, a0 < c → c < a0 + 38 → gI M4 c k = gI M3 c k := fun c k h1 h2 => hFr4.gi (by simp; omega) k
  have g1 : ∀ k, k < 4 → gI M4 (a0 + 1) k = gI M (a1 + 1) k := fun k hk => by
    rw [gm _ _ (by omega) (by omega), q1.gi (by omega), p1.gi (by omega), gI_cp_eq _ hk]
  have gsrc : ∀ c k, a1 ≤ c → c ≤ a1 + 38 → gI M3 c k = gI M c k := fun c k h1 h2 => congrFun (oo c (by omega)) k
  have e0 : EQI M4 M a0 a1 0 := by
    have h := EQI_keep (M3 := M4) p2 (fun c h1 h2 => by rw [(hFr4 c (by simp; omega)).1, q1 c (by omega)])
    obtain ⟨h1, h2, h3, h4, h5, h6, h7, h8⟩ := h
    have gg : ∀ c k, c ≠ a0 + 1 → gI (cpI M (a1 + 1) (a0 + 1) 0 0 4) c k = gI M c k := fun c k hc => gI_cp_ne _ hc
    refine ⟨fun k hk => ?_, fun r r1 r2 k hk => ?_, fun k hk => ?_, fun k hk => ?_, ?_, fun r r1 r2 k hk => ?_, ?_, fun k hk => ?_⟩
    · rw [h1 k hk, gg _ _ (by omega)]
    · rw [h2 r r1 r2 k hk, gg _ _ (by omega)]
    · rw [h3 k hk, gg _ _ (by omega)]
    · rw [h4 k hk, gg _ _ (by omega)]
    · rw [h5, gg _ _ (by omega)]
    · rw [h6 r r1 r2 k hk, gg _ _ (by omega)]
    · rw [h7, gg _ _ (by omega)]
    · rw [h8 k hk, gg _ _ (by omega)]
  have e1 : EQI M4 M a0 a1 1 := by
    have h := EQI_keep (M3 := M4) q2 (fun c h1 h2 => by rw [(hFr4 c (by simp; omega)).1])
    obtain ⟨h1, h2, h3, h4, h5, h6, h7, h8⟩ := h
    have gg : ∀ c k, a1 ≤ c → c ≤ a1 + 38 → gI M2 c k = gI M c k := fun c k x1 x2 => by rw [p1.gi (by omega), o1.gi (by omega)]
    refine ⟨fun k hk => ?_, fun r r1 r2 k hk => ?_, fun k hk => ?_, fun k hk => ?_, ?_, fun r r1 r2 k hk => ?_, ?_, fun k hk => ?_⟩
    · rw [h1 k hk, gg _ _ (by omega) (by omega)]
    · rw [h2 r r1 r2 k hk, gg _ _ (by omega) (by omega)]
    · rw [h3 k hk, gg _ _ (by omega) (by omega)]
    · rw [h4 k hk, gg _ _ (by omega) (by omega)]
    · rw [h5, gg _ _ (by omega) (by omega)]
    · rw [h6 r r1 r2 k hk, gg _ _ (by omega) (by omega)]
    · rw [h7, gg _ _ (by omega) (by omega)]
    · rw [h8 k hk, gg _ _ (by omega) (by omega)]
  have eE : ∀ i, i < 2 → EQI M4 M a0 a1 i := fun i hi => by
    rcases (show i = 0 ∨ i = 1 by omega) with rfl | rfl
    · exact e0
    · exact e1
  refine ⟨M4, ?_, o4, ⟨fun s hs => by rw [g1 s hs]; exact c1 s hs, ?_, ?_, ?_, fun i hi => ?_, fun k hk => ?_, fun k hk j hj => ?_, fun k hk => ⟨?_, fun i hi j hj => ?_⟩, fun k hk => ⟨?_, fun i hi => ?_⟩, fun k hk => ?_⟩⟩
  · unfold fX9_copyFrom
    rw [bnd_r, show ix 4 = 4 by decide]
    show fX9_copyFrom_l16 a0 a1 _ (4997 + 1 + 1 + 1) _ (nI 0) = _
    rw [p3, q3, fX9_copyFrom_l16.eq_2, if_pos (by decide), show ix 600 = 600 by decide]
    have hfit : fitB M3 (a1 + 38) 600 = true := by
      unfold fitB
      refine List.all_eq_true.mpr (fun i hi => ?_)
      have hi : i < 600 := List.mem_range.mp hi
      rw [Nat.zero_add, gsrc _ _ (by omega) (by omega), c5 i hi]
      exact fits_b _
    rw [gd_t hfit, bnd_r, gI_cp_ne _ (by omega), bnd_r, bnd_r, bnd_r]
    rw [gI_ne _ _ _ _ _ _ (by omega), gI_cp_ne _ (by omega), gI_ne _ _ _ _ _ _ (by omega), gI_ne _ _ _ _ _ _ (by omega), gI_cp_ne _ (by omega), gsrc _ _ (by omega) (by omega), gsrc _ _ (by omega) (by omega), gsrc _ _ (by omega) (by omega)]
  · show gI (sI (sI (sI _ a0 6 _) a0 7 _) a0 8 _) a0 6 = _
    rw [gI_nk _ _ _ _ _ _ (by decide), gI_nk _ _ _ _ _ _ (by decide), gI_eq]; exact c2
  · show gI (sI (sI (sI _ a0 6 _) a0 7 _) a0 8 _) a0 7 = _
    rw [gI_nk _ _ _ _ _ _ (by decide), gI_eq]; exact c3
  · show gI (sI (sI (sI _ a0 6 _) a0 7 _) a0 8 _) a0 8 = _
    rw [gI_eq]; exact c4
  · show gI (sI (sI (sI (cpI M3 (a1 + 38) (a0 + 38) 0 0 600) a0 6 _) a0 7 _) a0 8 _) (a0 + 38) i = _
    rw [gI_ne _ _ _ _ _ _ (by omega), gI_ne _ _ _ _ _ _ (by omega), gI_ne _ _ _ _ _ _ (by omega), gI_cp_eq _ hi, gsrc _ _ (by omega) (by omega)]
    exact c5 i hi
  · obtain ⟨h1, h2, h3, h4, h5, h6, h7, h8⟩ := eE k (by omega)
    have hPW := hW.2.2.2.1 k hk
    have p3 := hPW.2.2.1
    have p4 := hPW.2.2.2.1
    have h64 : pW (tPar T k) * pH (tPar T k) ≤ 64 := wh_64 (scn_SW hPW)
    obtain ⟨d1, d2, d3, d4, d5, d6, d7, d8⟩ := c6 k hk
    refine ⟨by rw [h1 0 (by decide)]; exact d1, by rw [h1 1 (by decide)]; exact d2, by rw [h1 2 (by decide)]; exact d3, by rw [h1 3 (by decide)]; exact d4, fun x hx => ?_, fun x hx => ?_, fun x hx => by rw [h3 x (by omega)]; exact d7 x hx, fun x hx => by rw [h2 5 (by decide) (by decide) x hx]; exact d8 x hx⟩
    · rw [h2 1 (by decide) (by decide) x (by omega), h2 2 (by decide) (by decide) x (by omega)]; exact d5 x hx
    · rw [h2 3 (by decide) (by decide) x (by omega), h2 4 (by decide) (by decide) x (by omega), h2 5 (by decide) (by decide) x (by omega), h2 6 (by decide) (by decide) x (by omega), h2 7 (by decide) (by decide) x (by omega)]; exact d6 x hx
  · rw [(eE k (by omega)).2.2.2.1 j hj]; exact c7 k hk j hj
  · rw [(eE k (by omega)).2.2.2.2.1]; exact (c8 k hk).1
  · have h40 := (hW.2.2.2.2.2.1 k hk).1
    rw [(eE k (by omega)).2.2.2.2.2.1 (1 + j) (by omega) (by omega) i (by omega)]; exact (c8 k hk).2 i hi j hj
  · rw [(eE k (by omega)).2.2.2.2.2.2.1]; exact (c9 k hk).1
  · rw [(eE k (by omega)).2.2.2.2.2.2.2 i hi]; exact (c9 k hk).2 i hi
  · rw [(eE k hk).2.2.2.1 1 (by decide)]; exact c10 k hk
theorem MP_shift {M M2 : MM} {o o2 : Nat} {P : PARD} (hP : PW P) (h : MP M o P) (he : ∀ i, i < 124 → gI M2 91 (o2 + i) = gI M 91 (o + i)) : MP M2 o2 P := by
  obtain ⟨h1, h2, h3, h4, h5, h6, h7⟩ := h
  have p3 := hP.2.2.1
  have p4 := hP.2.2.2.1
  have g : ∀ x y i, x = o2 + i → y = o + i → i < 124 → gI M2 91 x = gI M 91 y := fun x y i e1 e2 hi => by rw [e1, e2]; exact he i hi
  refine ⟨by rw [g o2 o 0 (by omega) (by omega) (by omega)]; exact h1, by rw [g _ (o + 1) 1 rfl rfl (by omega)]; exact h2, by rw [g _ (o + 2) 2 rfl rfl (by omega)]; exact h3, by rw [g _ (o + 3) 3 rfl rfl (by omega)]; exact h4, fun q hq => by rw [g _ (o + 4 + q) (4 + q) (by omega) (by omega) (by omega)]; exact h5 q hq, fun k hk => ⟨by rw [g _ (o + 68 + 2 * k) (68 + 2 * k) (by omega) (by omega) (by omega)]; exact (h6 k hk).1, by rw [g _ (o + 68 + 2 * k + 1) (68 + 2 * k + 1) (by omega) (by omega) (by omega)]; exact (h6 k hk).2⟩, fun k hk j hj => by rw [g _ (o + 84 + 5 * k + j) (84 + 5 * k + j) (by omega) (by omega) (by omega)]; exact h7 k hk j hj⟩
theorem MT_shift {M M2 : MM} {o o2 : Nat} {T : TOLD} (hW : TW T) (h : MT M o T) (he : ∀ i, i < 1130 → gI M2 91 (o2 + i) = gI M 91 (o + i)) : MT M2 o2 T := by
  obtain ⟨a1, a2, a3, a4, a5, a6, a7, a8, a9⟩ := h
  have n0 := hW.1 0 (by decide)
  have n1 := hW.1 1 (by decide)
  have n2 := hW.1 2 (by decide)
  have n3 := hW.1 3 (by decide)
  have g : ∀ x y i, x = o2 + i → y = o + i → i < 1130 → gI M2 91 x = gI M 91 y := fun x y i e1 e2 hi => by rw [e1, e2]; exact he i hi
  refine ⟨fun s hs => by rw [g _ (o + s) s rfl rfl (by omega)]; exact a1 s hs, by rw [g _ (o + 4) 4 rfl rfl (by omega)]; exact a2, by rw [g _ (o + 5) 5 rfl rfl (by omega)]; exact a3, by rw [g _ (o + 6) 6 rfl rfl (by omega)]; exact a4, fun i hi => by rw [g _ (o + 10 + i) (10 + i) (by omega) (by omega) (by omega)]; exact a5 i hi, fun k hk => ?_, fun k hk j hj => by rw [g _ (o + 858 + 6 * k + j) (858 + 6 * k + j) (by omega) (by omega) (by omega)]; exact a7 k hk j hj, fun k hk => ⟨by rw [g _ (o + 870 + 121 * k) (870 + 121 * k) (by omega) (by omega) (by omega)]; exact (a8 k hk).1, fun i hi j hj => ?_⟩, fun k hk i hi => by rw [g _ (o + 1112 + 9 * k + i) (1112 + 9 * k + i) (by omega) (by omega) (by omega)]; exact a9 k hk i hi⟩
  · exact MP_shift (hW.2.2.2.1 k hk) (a6 k hk) (fun i hi => g _ _ (610 + 124 * k + i) (by omega) (by omega) (by omega))
  · have h40 := (hW.2.2.2.2.2.1 k hk).1
    rw [g _ (o + 870 + 121 * k + 1 + 3 * i + j) (870 + 121 * k + 1 + 3 * i + j) (by omega) (by omega) (by omega)]; exact (a8 k hk).2 i hi j hj
theorem again_ref {M : MM} {j : Nat} (hj : j < 3) : ∃ M2, (Fr [91] M M2 ∧ (∀ i, i < 1130 → gI M2 91 i = gI M 91 (1130 * (j + 1) + i)) ∧ ∀ i, 1130 ≤ i → gI M2 91 i = gI M 91 i) ∧ ∀ _k : Unit, fX12_again_l22 FU M (nI j) (nI 0) = some (1, M2) := by
  refine lpk (κ := Unit) (σ := MM × Nat) (fun _ f st => fX12_again_l22 f st.1 (nI j) (nI st.2)) (fun _ M2 => some (1, M2)) 1130
    (fun i st => i = st.2 ∧ Fr [91] M st.1 ∧ (∀ x, x < i → gI st.1 91 x = gI M 91 (1130 * (j + 1) + x)) ∧ ∀ x, i ≤ x → gI st.1 91 x = gI M 91 x) _ ?_ ?_ FU 0 (M, 0) (by omega) (by decide) ⟨rfl, Fr.rfl, fun x hx => absurd hx (Nat.not_lt_zero x), fun _ _ => rfl⟩
  · rintro i ⟨M1, i2⟩ hi ⟨rfl, hF, b1, b2⟩
    left
    simp only [] at hF b1 b2
    refine ⟨(sI M1 91 i (gI M1 91 (1130 * (j + 1) + i)), i + 1), ⟨rfl, hF.pI (by decide), fun x hx => ?_, fun x hx => ?_⟩, fun _ f => ?_⟩
    · show gI (sI M1 91 i _) 91 x = _
      by_cases e : x = i
      · rw [e, gI_eq]; exact b2 _ (by omega)
      · rw [gI_nk _ _ _ _ _ _ e]; exact b1 x (by omega)
    · show gI (sI M1 91 i _) 91 x = _
      rw [gI_nk _ _ _ _ _ _ (by omega)]; exact b2 x (by omega)
    · show fX12_again_l22 (f + 1) M1 (nI j) (nI i) = _
      rw [fX12_again_l22.eq_2, show (1130 : Int32) = nI 1130 from rfl, le_f hi (by decide), nI_1, pk_mul, nI_add, gd_inb (by omega) (by decide), gd_inb (by omega) (by decide), ix_nI (by omega), ix_nI (by omega), bnd_r, nI_1]
  · rintro ⟨M1, i2⟩ ⟨rfl, hF, b1, b2⟩
    refine ⟨M1, ⟨hF, b1, b2⟩, fun _ f => ?_⟩
    show fX12_again_l22 (f + 1) M1 (nI j) (nI 1130) = _
    rw [fX12_again_l22.eq_2, if_pos (by decide)]
theorem e33 : E33 Inv := by
  intro K M x1 hI
  obtain ⟨hK, T, I, hW, hC, hM, hB, hIm⟩ := id hI
  unfold fX11_again fX12_again
  rcases rng x1 (n := 3) (by decide) with h | ⟨j, hj, rfl⟩
  · refine ⟨0, M, M, ?_, by rw [nl2, isIn3_no (by decide) h, if_pos rfl], hI⟩
    rcases h with h | h
    · rw [if_pos h]
    · by_cases c : x1 < 0
      · rw [if_pos c]
      · rw [if_neg c, if_pos (show (3 : Int32) ≤ x1 from h)]
  · have r1 : fX12_isIn (nI j) 0 2 = 1 := isIn3_yes (n := 2) (by decide) (by omega)
    have hh := hIm j hj
    rw [if_neg (nI_pos (by omega)), if_neg (show ¬ (3 : Int32) ≤ nI j from nI_ge (b := 3) hj (by decide)), gd_inb hj (by decide), ix_nI (by omega)]
    have rR : ∀ M1, gI M1 92 j = gI M 92 j → True := fun _ _ => trivial
    clear rR
    cases hU : I j with
    | none =>
      rw [hU] at hh
      obtain ⟨b1, b2⟩ := hh
      rw [b2]
      exact ⟨0, M, M, rfl, by rw [r1, if_neg i10, gd_inb hj (by decide), b1, if_pos rfl], hI⟩
    | some U =>
      rw [hU] at hh
      obtain ⟨b1, b2, b3, a, b4, b5, b6, b7, b8⟩ := hh
      obtain ⟨M1, d1, d2, d3⟩ := told_cp (a0 := 1) b2 b7 (by omega)
      obtain ⟨M2, ⟨f1, f2, f3⟩, f4⟩ := again_ref (M := M1) hj
      have k : ∀ c, (c < 1 ∨ 39 < c) → c ≠ 91 → M2.1 c = M.1 c := fun c h1 h2 => by rw [(f1 c (by simp [h2])).1]; exact d2 c h1
      have g91 : ∀ i, gI M1 91 i = gI M 91 i := fun i => d2.gi (by omega) i
      rw [b4]
      refine ⟨1, M1, M2, by show (fX9_copyFrom M 1 a).bind _ = _; rw [d1]; rfl, ?_, ⟨hK.1, RD_congr hK.2 (k 47 (by omega) (by decide))⟩, U, I, b2, CT_congr b2 d3 (fun c h1 h2 => (f1 c (by simp; omega)).1), MT_shift b2 b3 (fun i hi => by rw [Nat.zero_add, f2 i hi, g91]), BN_congr hB (k 60 (by omega) (by decide)) (k 73 (by omega) (by decide)), IM_congr hIm (fun i hi => by rw [f3 i hi, g91]) (k 92 (by omega) (by decide)) (fun c hc => k c (by omega) (by omega))⟩
      have e92 : gI M1 92 j = 1 := by rw [d2.gi (by omega)]; exact b1
      rw [r1, if_neg i10, gd_inb hj (by decide), e92, if_neg i10]
      exact f4 ()
