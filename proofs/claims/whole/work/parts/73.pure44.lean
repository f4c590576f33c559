/-! ===== fits: the class's answers ===== -/
theorem meas_all {M : MM} {T : TOLD} (hW : TW T) (hC : CT M 1 T) (hB : BN M) {j l k : Nat} (hj : j < tNum T 0) (hl : l < tNum T 1) (hk : k < tNum T 3) (w : Int32) :
    ∃ M2, fX3_measure M (1 + (6 + 16 * j)) (1 + (15 + 16 * l)) (1 + (20 + 16 * k)) w = some M2 ∧ Fr cL M M2 ∧ BN M2 ∧ gI M2 61 3 = nI (pS (tPar T j)) ∧ FCl M2 (nI (2 ^ pN (tPar T j) - 1)) (fsN (tPar T j) (tLaw T l) (fun s => tSig T k (1 + s)) (tSig T k 0) w (nI (2 ^ pN (tPar T j) - 1)) (2 ^ pN (tPar T j))) := by
  have hP := hW.2.2.2.1 j hj
  have n0 := num_lt hW (s := 0) (by decide)
  have n1 := num_lt hW (s := 1) (by decide)
  have n3 := num_lt hW (s := 3) (by decide)
  have hL := told_law hC hW hl
  have hS := hC.2.2.2.2.2.2.2.2.1 k hk
  have hS2 := hW.2.2.2.2.2.2 k hk
  have hCP := hC.2.2.2.2.2.1 j hj
  obtain ⟨M1, a1, a2, a3, a4, -⟩ := par_beg hW hC hB hj
  generalize tPar T j = P at *
  generalize hLL : tLaw T l = L at *
  have hn := hP.2.2.1
  have hp := p8 hn
  have hp0 : 0 < 2 ^ pN P := Nat.pow_pos (by decide)
  let V := nI (2 ^ pN P - 1)
  let M5 := sI (sI (sI (sI (sI M1 88 1 0) 88 2 V) 88 3 V) 88 4 (-1)) 88 5 (-2)
  have hF5 : Fr [88] M1 M5 := ((((Fr.rfl.pI (by decide)).pI (by decide)).pI (by decide)).pI (by decide)).pI (by decide)
  obtain ⟨M6, b1, b2, b3, -⟩ := fill_spec (M := M5) (a := 89) (n := 80) (v := 0) (by decide)
  have hF6 : Fr [88, 89] M1 M6 := (hF5.mono (by decide)).trans (b2.mono (by decide))
  have hFall : Fr cL M M6 := a2.trans (hF6.mono (by decide))
  have hX0 : FCl M6 V (fsN P L (fun s => tSig T k (1 + s)) (tSig T k 0) w V 0) := by
    refine ⟨?_, ?_, ?_, ?_, ?_, b3⟩
    · rw [b2.gi (by decide)]; show gI (sI (sI (sI (sI (sI M1 88 1 0) 88 2 V) 88 3 V) 88 4 (-1)) 88 5 (-2)) 88 1 = _
      simp (disch := decide) only [gI_nk, gI_eq]; rfl
    · rw [b2.gi (by decide)]; show gI (sI (sI (sI (sI (sI M1 88 1 0) 88 2 V) 88 3 V) 88 4 (-1)) 88 5 (-2)) 88 2 = _
      simp (disch := decide) only [gI_nk, gI_eq]; rfl
    · rw [b2.gi (by decide)]; show gI (sI (sI (sI (sI (sI M1 88 1 0) 88 2 V) 88 3 V) 88 4 (-1)) 88 5 (-2)) 88 3 = _
      simp (disch := decide) only [gI_nk, gI_eq]; exact (andnot0 V).symm
    · rw [b2.gi (by decide)]; show gI (sI (sI (sI (sI (sI M1 88 1 0) 88 2 V) 88 3 V) 88 4 (-1)) 88 5 (-2)) 88 4 = _
      simp (disch := decide) only [gI_nk, gI_eq]; rfl
    · rw [b2.gi (by decide)]; show gI (sI (sI (sI (sI (sI M1 88 1 0) 88 2 V) 88 3 V) 88 4 (-1)) 88 5 (-2)) 88 5 = _
      rw [gI_eq]; rfl
  obtain ⟨E, hE⟩ : ∃ E, E = 2 ^ pN P := ⟨_, rfl⟩
  have hfull : sbN P (E - 1) = scnOf P := subS_full (fun i hi => by rw [hE, Nat.testBit_two_pow_sub_one]; exact decide_eq_true hi)
  have key := lpk (κ := Unit) (σ := MM × Nat) (fun _ f st => fX3_measure_l61 (1 + (6 + 16 * j)) (1 + (15 + 16 * l)) (1 + (20 + 16 * k)) f st.1 w V (nI (if st.2 = 0 then E - 1 else st.2 - 1)) (nI st.2)) (fun _ M2 => some M2) E
    (fun g st => g = st.2 ∧ Fr [69, 70, 74, 75, 76, 77, 88, 89] M6 st.1 ∧ BS st.1 (sbN P (if g = 0 then E - 1 else g - 1)) aT ∧ FCl st.1 V (fsN P L (fun s => tSig T k (1 + s)) (tSig T k 0) w V g))
    (fun M2 => Fr [69, 70, 74, 75, 76, 77, 88, 89] M6 M2 ∧ (∃ m, BS M2 (sbN P m) aT) ∧ FCl M2 V (fsN P L (fun s => tSig T k (1 + s)) (tSig T k 0) w V E)) ?_ ?_ FU 0 (M6, 0) (by omega) (by show _ < 5000; omega) ⟨rfl, Fr.rfl, by
      show BS M6 (sbN P (E - 1)) aT
      rw [hfull]; exact BS_fr a3 hF6 (by decide), hX0⟩
  · obtain ⟨M7, ⟨h1, ⟨m, h2⟩, h3⟩, h4⟩ := key
    refine ⟨M7, ?_, hFall.trans (h1.mono (by decide)), BN_fr (BN_fr a4 hF6 (by decide) (by decide)) h1 (by decide) (by decide), h2.1.2.2.2.2.2.1, by rw [hE] at h3; exact h3⟩
    unfold fX3_measure
    rw [hCP.2.2.1, shl_nI (by omega), nl1, pk_sub (by omega), bnd_r, a1, bd_s, bnd_r, bnd_r, bnd_r, bnd_r, bnd_r, show (80 : Nat) = 80 from rfl]
    show (fJ7_fill_53178 M5 89 80 0).bind _ = _
    rw [b1, bd_s]
    have := h4 ()
    simp only [if_pos, hE] at this
    exact this
  · rintro g ⟨M7, g2⟩ hg ⟨rfl, hF, c1, c2⟩
    simp only [] at hF c1 c2
    have hFt := hFall.trans (hF.mono (P2 := cL) (by decide))
    obtain ⟨M8, d1, d2, d3, d4, d5⟩ := meas_step (M := M7) (a1 := 1 + (6 + 16 * j)) (a2 := 1 + (15 + 16 * l)) (a3 := 1 + (20 + 16 * k)) (sl := tSig T k 0) (sg := fun s => tSig T k (1 + s)) (g := g) (w := w) (y19 := V) hP (by omega) (by omega) (CP_congr hCP (fun c h1 h2 => (hFt c (by simp; omega)).1)) (CLw_fr hL hFt (by decide)) (by rw [hFt.gi (by simp; omega)]; exact hS.1) hS2.1 (fun s hs => ⟨by rw [hFt.gi (by simp; omega)]; exact hS.2 s hs, hS2.2 s hs⟩) (by split <;> omega) (by omega) c1 c2 (lst_le hP (fun s hs => hS2.2 s hs) g) (by
      show ¬ nI (2 ^ pN P - 1) < nI g
      rw [← hE]; exact nI_nlt (by omega) (by omega))
    refine Or.inl ⟨(M8, g + 1), ⟨rfl, hF.trans d4, ?_, d3⟩, fun _ f => ?_⟩
    · show BS M8 (sbN P (if g + 1 = 0 then E - 1 else g + 1 - 1)) aT
      rw [if_neg (by omega), Nat.add_sub_cancel]; exact d2
    · show fX3_measure_l61 _ _ _ (f + 1) M7 w V (nI (if g = 0 then E - 1 else g - 1)) (nI g) = fX3_measure_l61 _ _ _ f M8 w V (nI (if g + 1 = 0 then E - 1 else g + 1 - 1)) (nI (g + 1))
      rw [d5, if_neg (show ¬ g + 1 = 0 by omega), Nat.add_sub_cancel]
  · rintro ⟨M7, g2⟩ ⟨rfl, hF, c1, c2⟩
    refine ⟨M7, ⟨hF, ⟨_, c1⟩, c2⟩, fun _ f => ?_⟩
    show fX3_measure_l61 _ _ _ (f + 1) M7 w V _ (nI E) = _
    rw [fX3_measure_l61.eq_2, if_pos (show nI (2 ^ pN P - 1) < nI E from nI_lt (by omega) (by omega))]
def mxA (al : Nat → Nat) (s : Nat) : Nat → Nat
  | 0 => 0
  | c + 1 => max (mxA al s c) (al (10 * s + c))
theorem mxA_le {al : Nat → Nat} {s m : Nat} (h : ∀ k, al k ≤ m) : ∀ c, mxA al s c ≤ m
  | 0 => Nat.zero_le _
  | c + 1 => Nat.max_le.mpr ⟨mxA_le h c, h _⟩
def nxs (al : Nat → Nat) : Nat → Option Nat × Nat
  | 0 => (none, 0)
  | s + 1 => match (nxs al s).1 with
    | none => (some s, mxA al s 10)
    | some b => if mxA al s 10 < (nxs al s).2 then (some s, mxA al s 10) else (some b, (nxs al s).2)
theorem nxs_le {al : Nat → Nat} {m : Nat} (h : ∀ k, al k ≤ m) : ∀ s, (nxs al s).2 ≤ m ∧ ∀ b, (nxs al s).1 = some b → b < s
  | 0 => ⟨Nat.zero_le _, fun b e => by cases e⟩
  | s + 1 => by
    obtain ⟨h1, h2⟩ := nxs_le h s
    have h3 := mxA_le (s := s) h 10
    rw [nxs]
    cases e : (nxs al s).1 with
    | none => exact ⟨h3, fun b z => by cases z; omega⟩
    | some u =>
      have := h2 u e
      simp only []
      split
      · exact ⟨h3, fun b z => by cases z; omega⟩
      · exact ⟨h1, fun b z => by cases z; omega⟩
theorem mx_cls {M : MM} {al : Nat → Nat} {s : Nat} {y5 y6 : Int32} (hs : s < 8) (hal : ∀ k, k < 80 → gI M 89 k = nI (al k)) (hm : ∀ k, al k ≤ 256) (kk : Int32 → Int32 → Int32 → Int32 → Option Int32) : fX3_nextShine_l26 M kk FU y5 y6 (nI s) 0 0 = kk y5 y6 (nI s) (nI (mxA al s 10)) := by
  have key := lpk (κ := Unit) (σ := Nat) (fun _ f c => fX3_nextShine_l26 M kk f y5 y6 (nI s) (nI (mxA al s c)) (nI c)) (fun _ (r : Option Int32) => r) 10
    (fun c st => c = st) (fun r => r = kk y5 y6 (nI s) (nI (mxA al s 10))) ?_ ?_ FU 0 0 (by omega) (by decide) rfl
  · obtain ⟨r, h1, h2⟩ := key
    rw [← h1]
    exact h2 ()
  · rintro c c2 hc rfl
    refine Or.inl ⟨c + 1, rfl, fun _ f => ?_⟩
    have h1 := mxA_le (s := s) hm c
    have h2 := hm (10 * s + c)
    show fX3_nextShine_l26 M kk (f + 1) y5 y6 (nI s) (nI (mxA al s c)) (nI c) = fX3_nextShine_l26 M kk f y5 y6 (nI s) (nI (max (mxA al s c) (al (10 * s + c)))) (nI (c + 1))
    rw [fX3_nextShine_l26.eq_2, nl10, le_f hc (by decide), pk_mul, nI_add, gd_inb (by omega) (by decide), ix_nI (by omega), hal _ (by omega), jmax_nI (by omega) (by omega), bnd_r, nI_1]
  · rintro c rfl
    refine ⟨_, rfl, fun _ f => ?_⟩
    show fX3_nextShine_l26 M kk (f + 1) y5 y6 (nI s) (nI (mxA al s 10)) (nI 10) = _
    rw [fX3_nextShine_l26.eq_2, nl10, le_t (Nat.le_refl _) (by decide)]
theorem nxt_cls {M : MM} {al : Nat → Nat} {n : Nat} (hn : n ≤ 8) (h61 : gI M 61 3 = nI n) (hal : ∀ k, k < 80 → gI M 89 k = nI (al k)) (hm : ∀ k, al k ≤ 256) : fX3_nextShine M = some (opI (nxs al n).1) := by
  have key := lpk (κ := Unit) (σ := Nat) (fun _ f s => fX3_nextShine_l6 M f (opI (nxs al s).1) (nI (nxs al s).2) (nI s)) (fun _ (r : Int32) => some r) n
    (fun s st => s = st) (fun r => r = opI (nxs al n).1) ?_ ?_ FU 0 0 (by omega) (by show _ < 5000; omega) rfl
  · obtain ⟨r, h1, h2⟩ := key
    rw [← h1]
    exact h2 ()
  · rintro s s2 hs rfl
    refine Or.inl ⟨s + 1, rfl, fun _ f => ?_⟩
    obtain ⟨h1, h2⟩ := nxs_le hm s
    have h3 := mxA_le (s := s) hm 10
    show fX3_nextShine_l6 M (f + 1) (opI (nxs al s).1) (nI (nxs al s).2) (nI s) = fX3_nextShine_l6 M f (opI (nxs al (s + 1)).1) (nI (nxs al (s + 1)).2) (nI (s + 1))
    rw [fX3_nextShine_l6.eq_2, h61, le_f hs (by omega), mx_cls (by omega) hal hm, nxs]
    unfold fX3_nextShine_j72
    cases e : (nxs al s).1 with
    | none => simp only []; rw [if_pos (show opI none = -1 from rfl), nI_1]; rfl
    | some b =>
      have := h2 b e
      simp only []
      rw [show opI (some b) = nI b from rfl, m1_iff (by omega), nI_1]
      by_cases c : mxA al s 10 < (nxs al s).2
      · rw [lt_t c (by omega), if_pos c]; rfl
      · rw [lt_f (by omega) (by omega), if_neg c]; rfl
  · rintro s rfl
    refine ⟨_, rfl, fun _ f => ?_⟩
    show fX3_nextShine_l6 M (f + 1) (opI (nxs al n).1) (nI (nxs al n).2) (nI n) = _
    rw [fX3_nextShine_l6.eq_2, h61, le_t (Nat.le_refl n) (by omega)]
/-- the answer to 0 .. 4 -/
def fitA (X : FST) (V : Int32) (n i : Nat) : Int32 := if i = 0 then nI X.1 else if i = 3 then opI X.2.2.2.1 else if X.1 = 0 then -1 else if i = 1 then X.2.1 else if i = 2 then V &&& (X.2.2.1 ^^^ -1) else opI (nxs X.2.2.2.2.2 n).1
theorem tell_cls {M : MM} {X : FST} {V : Int32} {n i : Nat} (hi : i < 5) (hn : n ≤ 8) (hX : FCl M V X) (h61 : gI M 61 3 = nI n) (hm : ∀ k, X.2.2.2.2.2 k ≤ 256) (hc : X.1 ≤ 256) : fX3_tell M (nI i) = some (fitA X V n i) := by
  obtain ⟨x1, x2, x3, x4, x5, x6⟩ := hX
  unfold fX3_tell fitA
  rw [nl0, nl3, nl10, nl1, nl2, nl4]
  by_cases c0 : i = 0
  · rw [eqn_t c0, if_pos c0, x1]
  · rw [eqn_f c0 (by omega) (by decide), if_neg c0]
    by_cases c3 : i = 3
    · rw [eqn_t c3, if_pos c3, x4]
    · rw [eqn_f c3 (by omega) (by decide), if_neg c3, lt_t (by omega) (by decide), x1]
      by_cases z : X.1 = 0
      · rw [eqn_t z, if_pos z]
      · rw [eqn_f z (by omega) (by decide), if_neg z]
        by_cases c1 : i = 1
        · rw [eqn_t c1, if_pos c1, x2]
        · rw [eqn_f c1 (by omega) (by decide), if_neg c1]
          by_cases c2 : i = 2
          · rw [eqn_t c2, if_pos c2, x3]; rfl
          · rw [eqn_f c2 (by omega) (by decide), if_neg c2, eqn_t (show i = 4 by omega), nxt_cls hn h61 x6 hm]
            rfl
theorem tell_big {M : MM} {X : FST} {V x : Int32} (hx : 10 ≤ x) (hX : FCl M V X) : fX3_tell M x = some (fnI X.2.2.2.2.1) := by
  rw [nl10, le_toInt (by decide)] at hx
  have ne : ∀ k : Nat, k < 10 → ¬ x = nI k := fun k hk e => by rw [e, nI_toInt (by omega)] at hx; omega
  unfold fX3_tell
  rw [if_neg (show ¬ x = 0 from ne 0 (by decide)), if_neg (show ¬ x = 3 from ne 3 (by decide)), if_neg (show ¬ x < 10 by rw [nl10, lt_toInt (by decide)]; omega), hX.2.2.2.2.1]
