/-! ===== drawn ===== -/
def nxS (s : Int32) : Int32 := s * 1103515245 + 12345
/-- a way of drawing on -/
def NXF (nx : Int32 → Int32) : Prop := ∀ s : Int32, s * 1103515245 + 12345 = nx s
theorem nxS_F : NXF nxS := fun _ => rfl
def uS (s : Int32) : Nat := s.toBitVec.toNat / 65536
theorem uS_lt (s : Int32) : uS s < 65536 := by
  have := s.toBitVec.isLt
  unfold uS
  omega
theorem ushr16 (s : Int32) : jushr s 16 = nI (uS s) := by
  have h : s = nI s.toBitVec.toNat := Int32.toBitVec_inj.mp (by show _ = BitVec.ofNat 32 _; simp)
  unfold jushr uS
  have := pk_ushrN (n := s.toBitVec.toNat) s.toBitVec.isLt 16 16 (by decide)
  rw [← h] at this
  exact this
def vlS (s : Int32) (n : Nat) : Nat := uS s % n
theorem val_I {s : Int32} {n : Nat} (h0 : 0 < n) (hn : n < 2 ^ 31) : jushr s 16 - jushr s 16 / nI n * nI n = nI (vlS s n) := by
  rw [ushr16, pk_rem (by have := uS_lt s; omega) h0 hn]
  rfl
/-- one turn of drawing -/
def drw (nx : Int32 → Int32) (L : Nat → Nat) (Z : PLS × Int32) : PLS × Int32 :=
  if vlS (nx Z.2) 4 = 3 then (cntS L Z.1, nx Z.2) else
  if vlS (nx Z.2) 4 = 2 then (if cS Z.1.1 = 0 then (Z.1, nx Z.2) else ((setF Z.1.1 (vlS (nx (nx Z.2)) (cS Z.1.1)) (vlS (nx (nx (nx Z.2))) 8), Z.1.2), nx (nx (nx Z.2)))) else
  if cN Z.1.1 = 0 then (Z.1, nx Z.2) else ((goS Z.1 (vlS (nx (nx Z.2)) (cN Z.1.1)) (vlS (nx (nx (nx Z.2))) 8)).getD Z.1, nx (nx (nx Z.2)))
def drwN (nx : Int32 → Int32) (L : Nat → Nat) (Z : PLS × Int32) : Nat → PLS × Int32
  | 0 => Z
  | n + 1 => drw nx L (drwN nx L Z n)
theorem drw_PX {nx : Int32 → Int32} {L : Nat → Nat} {Z : PLS × Int32} (h : PX Z.1) : PX (drw nx L Z).1 := by
  have v8 : vlS (nx (nx (nx Z.2))) 8 < 8 := Nat.mod_lt _ (by decide)
  unfold drw
  split
  · exact h
  · split
    · split
      · exact h
      · exact setF_PX h v8
    · split
      · exact h
      · rename_i c
        have hp : vlS (nx (nx Z.2)) (cN Z.1.1) < cN Z.1.1 := Nat.mod_lt _ (by omega)
        show PX ((goS Z.1 (vlS (nx (nx Z.2)) (cN Z.1.1)) (vlS (nx (nx (nx Z.2))) 8)).getD Z.1)
        cases hg : goS Z.1 (vlS (nx (nx Z.2)) (cN Z.1.1)) (vlS (nx (nx (nx Z.2))) 8) with
        | none => exact h
        | some X2 =>
          obtain ⟨_, _, _, _, _, _, hh⟩ := go_PX h hp hg
          exact hh
theorem drwN_PX {nx : Int32 → Int32} {L : Nat → Nat} {Z : PLS × Int32} (h : PX Z.1) : ∀ n, PX (drwN nx L Z n).1
  | 0 => h
  | n + 1 => drw_PX (drwN_PX h n)
/-! the class -/
def DC (M : MM) (a : Nat) (L : Nat → Nat) (Z : PLS × Int32) : Prop := PC M a L Z.1 ∧ gI M 78 4 = Z.2
theorem PC_seed {M : MM} {a : Nat} {L : Nat → Nat} {X : PLS} (h : PC M a L X) (v : Int32) : PC (sI M 78 4 v) a L X := by
  obtain ⟨hB, hL, h62, h78, h79, h80⟩ := h
  have f : Fr [78] M (sI M 78 4 v) := Fr.rfl.pI (by decide)
  exact ⟨BS_fr hB f (by decide), CLw_fr hL f (by decide), fun k q hk e => by rw [f.gi (by decide)]; exact h62 k q hk e, by rw [gI_nk _ _ _ _ _ _ (by decide)]; exact h78, fun p hp => by rw [f.gi (by decide)]; exact h79 p hp, fun p hp => by rw [f.gi (by decide)]; exact h80 p hp⟩
theorem draw_cls {nx : Int32 → Int32} (hx : NXF nx) {M : MM} {a n : Nat} {L : Nat → Nat} {Z : PLS × Int32} (h : DC M a L Z) (h0 : 0 < n) (hn : n < 2 ^ 31) : ∃ M2, fX6_draw M (nI n) = some (nI (vlS (nx Z.2) n), M2) ∧ Fr [78] M M2 ∧ DC M2 a L (Z.1, nx Z.2) := by
  refine ⟨sI M 78 4 (nx Z.2), ?_, Fr.rfl.pI (by decide), PC_seed h.1 _, gI_eq _ _ _ _⟩
  have e : Z.2 * 1103515245 + 12345 = nx Z.2 := hx Z.2
  unfold fX6_draw
  rw [h.2, e, bnd_r, nl1, le_t h0 hn, gd_t (nz_nI h0 hn), gI_eq, val_I h0 hn]
theorem drw_cls {nx : Int32 → Int32} (hx : NXF nx) {M : MM} {a : Nat} {L : Nat → Nat} {Z : PLS × Int32} (h : DC M a L Z) (hX : PX Z.1) : ∃ M2, (∀ f y4 y5, y5 < y4 → y4 < 2 ^ 31 → fX6_performDrawn_l8 a (f + 1) M (nI y4) (nI y5) = fX6_performDrawn_l8 a f M2 (nI y4) (nI (y5 + 1))) ∧ Fr pF M M2 ∧ DC M2 a L (drw nx L Z) := by
  have hS := h.1.1.1.1
  have h8 := hS.2.2.2.1
  have hn8 := hS.2.2.1
  obtain ⟨M1, a1, a2, a3⟩ := draw_cls hx h (n := 4) (by decide) (by decide)
  have v4 : vlS (nx Z.2) 4 < 4 := Nat.mod_lt _ (by decide)
  have head : ∀ f y4 y5, y5 < y4 → y4 < 2 ^ 31 → fX6_performDrawn_l8 a (f + 1) M (nI y4) (nI y5) = (if nI (vlS (nx Z.2) 4) = 3 then (fX6_countAll M1 a).bind (fun p15 => fX6_performDrawn_l8 a f p15 (nI y4) (nI (y5 + 1))) else (if nI (vlS (nx Z.2) 4) = 2 then (fX6_turnDrawn M1).bind (fun p13 => fX6_performDrawn_l8 a f p13 (nI y4) (nI (y5 + 1))) else (fX6_goDrawn M1).bind (fun p11 => fX6_performDrawn_l8 a f p11 (nI y4) (nI (y5 + 1))))) := fun f y4 y5 c1 c2 => by
    rw [fX6_performDrawn_l8.eq_2, le_f c1 c2, nl4, a1, bd_s, nI_1]
  unfold drw
  by_cases c3 : vlS (nx Z.2) 4 = 3
  · rw [if_pos c3]
    obtain ⟨M2, b1, b2, b3, b4⟩ := countAll_cls a3.1
    refine ⟨M2, fun f y4 y5 c1 c2 => ?_, (a2.mono (by decide)).trans (b2.mono (by decide)), b3, b4.trans a3.2⟩
    rw [head f y4 y5 c1 c2, nl3, eqn_t c3, b1, bd_s]
  · rw [if_neg c3]
    by_cases c2 : vlS (nx Z.2) 4 = 2
    · rw [if_pos c2]
      have head2 : ∀ f y4 y5, y5 < y4 → y4 < 2 ^ 31 → fX6_performDrawn_l8 a (f + 1) M (nI y4) (nI y5) = (fX6_turnDrawn M1).bind (fun p13 => fX6_performDrawn_l8 a f p13 (nI y4) (nI (y5 + 1))) := fun f y4 y5 d1 d2 => by
        rw [head f y4 y5 d1 d2, nl3, eqn_f c3 (by omega) (by decide), nl2, eqn_t c2]
      have e3 : gI M1 61 3 = nI (cS Z.1.1) := a3.1.1.1.2.2.2.2.2.1
      by_cases z : cS Z.1.1 = 0
      · rw [if_pos z]
        refine ⟨M1, fun f y4 y5 d1 d2 => ?_, a2.mono (by decide), a3⟩
        rw [head2 f y4 y5 d1 d2]
        unfold fX6_turnDrawn
        rw [e3, eqz_t z, bd_s]
      · rw [if_neg z]
        obtain ⟨M2, b1, b2, b3⟩ := draw_cls hx a3 (n := cS Z.1.1) (by omega) (by omega)
        obtain ⟨M3, d1, d2, d3⟩ := draw_cls hx b3 (n := 8) (by decide) (by decide)
        have hs : vlS (nx (nx Z.2)) (cS Z.1.1) < cS Z.1.1 := Nat.mod_lt _ (by omega)
        have hd : vlS (nx (nx (nx Z.2))) 8 < 8 := Nat.mod_lt _ (by decide)
        obtain ⟨M4, f1, f2, f3⟩ := face_cls d3.1 hs hd
        refine ⟨M4, fun f y4 y5 g1 g2 => ?_, (((a2.mono (by decide)).trans (b2.mono (by decide))).trans (d2.mono (by decide))).trans (f2.mono (by decide)), f3, by rw [f2.gi (by decide)]; exact d3.2⟩
        rw [head2 f y4 y5 g1 g2]
        unfold fX6_turnDrawn
        rw [e3, eqz_f (by omega) (by omega), b1, bd_s, nl8, d1, bd_s]
        show ((fX0_face M3 (nI (vlS (nx (nx Z.2)) (cS Z.1.1))) (nI (vlS (nx (nx (nx Z.2))) 8))).bind _).bind _ = _
        rw [f1]
        rfl
    · rw [if_neg c2]
      have head2 : ∀ f y4 y5, y5 < y4 → y4 < 2 ^ 31 → fX6_performDrawn_l8 a (f + 1) M (nI y4) (nI y5) = (fX6_goDrawn M1).bind (fun p13 => fX6_performDrawn_l8 a f p13 (nI y4) (nI (y5 + 1))) := fun f y4 y5 d1 d2 => by
        rw [head f y4 y5 d1 d2, nl3, eqn_f c3 (by omega) (by decide), nl2, eqn_f c2 (by omega) (by decide)]
      have e2 : gI M1 61 2 = nI (cN Z.1.1) := a3.1.1.1.2.2.2.2.1
      by_cases z : cN Z.1.1 = 0
      · rw [if_pos z]
        refine ⟨M1, fun f y4 y5 d1 d2 => ?_, a2.mono (by decide), a3⟩
        rw [head2 f y4 y5 d1 d2]
        unfold fX6_goDrawn
        rw [e2, eqz_t z, bd_s]
      · rw [if_neg z]
        obtain ⟨M2, b1, b2, b3⟩ := draw_cls hx a3 (n := cN Z.1.1) (by omega) (by omega)
        obtain ⟨M3, d1, d2, d3⟩ := draw_cls hx b3 (n := 8) (by decide) (by decide)
        have hs : vlS (nx (nx Z.2)) (cN Z.1.1) < cN Z.1.1 := Nat.mod_lt _ (by omega)
        have hd : vlS (nx (nx (nx Z.2))) 8 < 8 := Nat.mod_lt _ (by decide)
        have hg := go_cls d3.1 hX hs hd
        have hF3 : Fr pF M M3 := ((a2.mono (by decide)).trans (b2.mono (by decide))).trans (d2.mono (by decide))
        have head3 : ∀ f y4 y5, y5 < y4 → y4 < 2 ^ 31 → fX6_performDrawn_l8 a (f + 1) M (nI y4) (nI y5) = ((fX6_go M3 (nI (vlS (nx (nx Z.2)) (cN Z.1.1))) (nI (vlS (nx (nx (nx Z.2))) 8))).bind (fun p6 => some p6.2)).bind (fun p13 => fX6_performDrawn_l8 a f p13 (nI y4) (nI (y5 + 1))) := fun f y4 y5 g1 g2 => by
          rw [head2 f y4 y5 g1 g2]
          unfold fX6_goDrawn
          rw [e2, eqz_f (by omega) (by omega), b1, bd_s, nl8, d1, bd_s]
        cases hgo : goS Z.1 (vlS (nx (nx Z.2)) (cN Z.1.1)) (vlS (nx (nx (nx Z.2))) 8) with
        | none =>
          rw [hgo] at hg
          simp only [] at hg
          refine ⟨M3, fun f y4 y5 g1 g2 => ?_, hF3, d3⟩
          rw [head3 f y4 y5 g1 g2, hg]
          rfl
        | some X2 =>
          rw [hgo] at hg
          simp only [] at hg
          obtain ⟨M4, f1, f2, f3⟩ := hg
          refine ⟨M4, fun f y4 y5 g1 g2 => ?_, hF3.trans (f2.mono (by decide)), f3, by rw [f2.gi (by decide)]; exact d3.2⟩
          rw [head3 f y4 y5 g1 g2, f1]
          rfl
theorem drwN_cls {nx : Int32 → Int32} (hx : NXF nx) {M : MM} {a n : Nat} {L : Nat → Nat} {X : PLS} {s : Int32} (h : PC M a L X) (hX : PX X) (hn : n ≤ 40) : ∃ M2, fX6_performDrawn M a s (nI n) = some M2 ∧ Fr pF M M2 ∧ PC M2 a L (drwN nx L (X, s) n).1 := by
  have hD : DC (sI M 78 4 s) a L (X, s) := ⟨PC_seed h s, gI_eq _ _ _ _⟩
  have key := lpk (κ := Unit) (σ := MM × Nat) (fun _ f st => fX6_performDrawn_l8 a f st.1 (nI n) (nI st.2)) (fun _ M2 => some M2) n
    (fun i st => i = st.2 ∧ Fr pF M st.1 ∧ DC st.1 a L (drwN nx L (X, s) i)) (fun M2 => Fr pF M M2 ∧ DC M2 a L (drwN nx L (X, s) n)) ?_ ?_ FU 0 (sI M 78 4 s, 0) (by omega) (by show _ < 5000; omega) ⟨rfl, Fr.rfl.pI (by decide), hD⟩
  · obtain ⟨M2, ⟨h1, h2⟩, h3⟩ := key
    refine ⟨M2, ?_, h1, h2.1⟩
    unfold fX6_performDrawn
    rw [bnd_r]
    exact h3 ()
  · rintro i ⟨M1, i2⟩ hi ⟨rfl, hF, a1⟩
    left
    simp only [] at hF a1
    obtain ⟨M2, b1, b2, b3⟩ := drw_cls hx a1 (drwN_PX (Z := (X, s)) hX i)
    exact ⟨(M2, i + 1), ⟨rfl, hF.trans b2, b3⟩, fun _ f => b1 f n i hi (by omega)⟩
  · rintro ⟨M1, i2⟩ ⟨rfl, hF, a1⟩
    refine ⟨M1, ⟨hF, a1⟩, fun _ f => ?_⟩
    show fX6_performDrawn_l8 a (f + 1) M1 (nI n) (nI n) = _
    rw [fX6_performDrawn_l8.eq_2, le_t (Nat.le_refl _) (by omega)]
/-! the reference -/
def DM (M : MM) (o : Nat) (P : PARD) (l0 : Nat) (L : Nat → Nat) (Z : PLS × Int32) : Prop := PM M o P l0 L Z.1 ∧ gI M 90 43 = Z.2
theorem below_ref {nx : Int32 → Int32} (hx : NXF nx) {M : MM} {o l0 n : Nat} {P : PARD} {L : Nat → Nat} {Z : PLS × Int32} (h : DM M o P l0 L Z) (h0 : 0 < n) (hn : n < 2 ^ 31) : ∃ M2, fX12_below M (nI n) = some (nI (vlS (nx Z.2) n), M2) ∧ Fr [90] M M2 ∧ DM M2 o P l0 L (Z.1, nx Z.2) := by
  refine ⟨sI M 90 43 (nx Z.2), ?_, Fr.rfl.pI (by decide), PM_32 h.1 ⟨by decide, by decide⟩, gI_eq _ _ _ _⟩
  have e : Z.2 * 1103515245 + 12345 = nx Z.2 := hx Z.2
  unfold fX12_below
  rw [h.2, e, bnd_r, gd_t (nz_nI h0 hn), gI_eq, val_I h0 hn]
theorem drw_ref {nx : Int32 → Int32} (hx : NXF nx) {M : MM} {o l0 : Nat} {P : PARD} {L : Nat → Nat} {Z : PLS × Int32} (h : DM M o P l0 L Z) (hX : PX Z.1) : ∃ M2, fX12_draws M = some M2 ∧ Fr rL M M2 ∧ DM M2 o P l0 L (drw nx L Z) := by
  have hS := h.1.1.2.2.2.2.1
  have h8 := hS.2.2.2.1
  have hn8 := hS.2.2.1
  obtain ⟨M1, a1, a2, a3⟩ := below_ref hx h (n := 4) (by decide) (by decide)
  have v4 : vlS (nx Z.2) 4 < 4 := Nat.mod_lt _ (by decide)
  have e13 : gI M1 90 13 = nI (cN Z.1.1) := a3.1.1.2.2.2.2.2.2.2.1
  have e14 : gI M1 90 14 = nI (cS Z.1.1) := a3.1.1.2.2.2.2.2.2.2.2.1
  unfold drw
  by_cases c3 : vlS (nx Z.2) 4 = 3
  · rw [if_pos c3]
    obtain ⟨M2, b1, b2, b3, b4⟩ := counts_ref a3.1
    refine ⟨M2, ?_, (a2.mono (by decide)).trans (b2.mono (by decide)), b4, (b3 43 (by decide)).trans a3.2⟩
    unfold fX12_draws fX12_draws_j22
    rw [nl4, a1, bd_s, c3, if_pos (show (2 : Int32) ≤ nI 3 by decide), if_pos (show nI 3 = 3 by decide), b1]
    rfl
  · rw [if_neg c3]
    by_cases c2 : vlS (nx Z.2) 4 = 2
    · rw [if_pos c2]
      have head : fX12_draws M = (if nI (cS Z.1.1) ≤ 0 then some M1 else (fX12_below M1 (nI (cS Z.1.1))).bind (fun p9 => (fX12_below p9.2 8).bind (fun p11 => fX12_draws_j63 p11.2 p9.1 p11.1 1))) := by
        unfold fX12_draws fX12_draws_j22
        rw [nl4, a1, bd_s, c2, if_pos (show (2 : Int32) ≤ nI 2 by decide), e14, if_neg (show ¬ nI 2 = 3 by decide)]
        simp only [if_pos (show (2 : Int32) ≤ nI 2 by decide)]
      rw [head]
      by_cases z : cS Z.1.1 = 0
      · rw [if_pos z]
        exact ⟨M1, by rw [le0_t z], a2.mono (by decide), a3⟩
      · rw [if_neg z]
        obtain ⟨M2, b1, b2, b3⟩ := below_ref hx a3 (n := cS Z.1.1) (by omega) (by omega)
        obtain ⟨M3, d1, d2, d3⟩ := below_ref hx b3 (n := 8) (by decide) (by decide)
        have hs : vlS (nx (nx Z.2)) (cS Z.1.1) < cS Z.1.1 := Nat.mod_lt _ (by omega)
        have hd : vlS (nx (nx (nx Z.2))) 8 < 8 := Nat.mod_lt _ (by decide)
        have hg := deed_ref (e1 := nI (vlS (nx (nx Z.2)) (cS Z.1.1))) d3.1 hX (e0 := 1) (e2 := nI (vlS (nx (nx (nx Z.2))) 8)) ⟨⟨1, by decide, rfl⟩, fun _ => ⟨_, hd, rfl⟩⟩
        have hde : deedS L Z.1 1 (nI (vlS (nx (nx Z.2)) (cS Z.1.1))) (nI (vlS (nx (nx (nx Z.2))) 8)) = some (setF Z.1.1 (vlS (nx (nx Z.2)) (cS Z.1.1)) (vlS (nx (nx (nx Z.2))) 8), Z.1.2) := by
          unfold deedS
          rw [if_neg (by decide), if_neg (by decide), if_neg (fun q => by
            rcases q with q | q
            · exact nI_pos (by omega) q
            · exact nI_ge hs (by omega) q), if_pos rfl, ix_nI (by omega), ix_nI (by omega)]
        rw [hde] at hg
        obtain ⟨g1, M4, g2, g3, g4, g5⟩ := hg
        refine ⟨M4, ?_, (((a2.mono (by decide)).trans (b2.mono (by decide))).trans (d2.mono (by decide))).trans g3, g5, (g4 43 (by decide)).trans d3.2⟩
        rw [le0_f (by omega) (by omega), b1, bd_s, nl8, d1, bd_s]
        unfold fX12_draws_j63
        rw [g1, bd_s, if_neg i10, g2]
        rfl
    · rw [if_neg c2]
      have head : fX12_draws M = (if nI (cN Z.1.1) ≤ 0 then some M1 else (fX12_below M1 (nI (cN Z.1.1))).bind (fun p9 => (fX12_below p9.2 8).bind (fun p11 => fX12_draws_j63 p11.2 p9.1 p11.1 0))) := by
        unfold fX12_draws fX12_draws_j22
        rw [nl4, a1, bd_s, e13]
        have l2 : ¬ (2 : Int32) ≤ nI (vlS (nx Z.2) 4) := nI_ge (b := 2) (by omega) (by decide)
        rw [if_neg l2, if_neg (show ¬ nI (vlS (nx Z.2) 4) = 3 from fun q => c3 ((nI_eq (b := 3) (by omega) (by decide)).mp q))]
        simp only [if_neg l2]
      rw [head]
      by_cases z : cN Z.1.1 = 0
      · rw [if_pos z]
        exact ⟨M1, by rw [le0_t z], a2.mono (by decide), a3⟩
      · rw [if_neg z]
        obtain ⟨M2, b1, b2, b3⟩ := below_ref hx a3 (n := cN Z.1.1) (by omega) (by omega)
        obtain ⟨M3, d1, d2, d3⟩ := below_ref hx b3 (n := 8) (by decide) (by decide)
        have hs : vlS (nx (nx Z.2)) (cN Z.1.1) < cN Z.1.1 := Nat.mod_lt _ (by omega)
        have hd : vlS (nx (nx (nx Z.2))) 8 < 8 := Nat.mod_lt _ (by decide)
        have hg := go_ref d3.1 hX hs hd
        have hF3 : Fr rL M M3 := ((a2.mono (by decide)).trans (b2.mono (by decide))).trans (d2.mono (by decide))
        rw [le0_f (by omega) (by omega), b1, bd_s, nl8, d1, bd_s]
        unfold fX12_draws_j63
        cases hgo : goS Z.1 (vlS (nx (nx Z.2)) (cN Z.1.1)) (vlS (nx (nx (nx Z.2))) 8) with
        | none =>
          rw [hgo] at hg
          simp only [] at hg
          exact ⟨M3, by rw [hg]; rfl, hF3, d3⟩
        | some X2 =>
          rw [hgo] at hg
          simp only [] at hg
          obtain ⟨g1, M4, g2, g3, g4, g5⟩ := hg
          exact ⟨M4, by rw [g1, bd_s, if_neg i10, g2]; rfl, hF3.trans g3, g5, (g4 43 (by decide)).trans d3.2⟩
theorem e27 : E27 Inv := by
  intro K M x1 x2 x3 x4 x5 hI
  refine pl_case (v := -2) hI (C := fX11_drawn M x1 x2 x3 x4 x5) (R := fun M1 => fX12_drawn M1 x1 x2 x3 x4 x5) rfl (fun _ => rfl) ?_
  intro T j l hW hC hM hB hj hl e1 e2
  have hP := hW.2.2.2.1 j hj
  rcases rng x4 (n := 41) (by decide) with h | ⟨n, hn, rfl⟩
  · refine ⟨-2, M, ?_, Fr.rfl, hB, fun M3 _ _ _ => ⟨M3, ?_, Fr.rfl⟩⟩
    · rcases h with h | h
      · rw [if_pos h]
      · have h9 := (le_toInt (by decide)).mp h
        rw [if_neg (fun q => by have := lt0_toInt.mp q; omega), if_neg (fun q => by
          rw [Int32.le_iff_toInt_le] at q
          have e : (40 : Int32).toInt = 40 := by decide
          omega)]
    · rw [show (40 : Int32) = nI 40 from rfl, isIn3_no (by decide) h, if_pos rfl]
  · rw [if_neg (nI_pos (by omega)), if_pos (show nI n ≤ (40 : Int32) from nI_le (b := 40) (by omega) (by decide))]
    have r0 : fX12_isIn (nI n) 0 40 = 1 := isIn3_yes (n := 40) (by decide) (by omega)
    by_cases h5 : x5 < 50 ∨ (60 : Int32) ≤ x5
    · have hin : fX12_isIn x5 50 59 = 0 := by
        refine isIn_f ?_
        rcases h5 with z | z
        · exact Or.inl z
        · refine Or.inr ?_
          have z9 := (le_toInt (n := 60) (by decide)).mp z
          exact (gt_toInt (n := 59) (by decide)).mpr (by omega)
      obtain ⟨M1, a1, a2, a3⟩ := play_beg hW hC hB hj hl
      obtain ⟨M2, b1, b2, b3⟩ := drwN_cls nxS_F (s := x3) a3 (pl0_PX hP) (n := n) (by omega)
      obtain ⟨v, ⟨M5, f1, f2⟩, f3⟩ := tell_both (o := 610 + 124 * j) (P := tPar T j) (l0 := 858 + 6 * l) b3 (drwN_PX (nx := nxS) (Z := (pl0 (tPar T j), x3)) (pl0_PX hP) n) x5
      refine ⟨v, M5, ?_, (a2.trans (b2.mono (by decide))).trans (f2.mono (by decide)), BN_fr (PC_BN b3) f2 (by decide) (by decide), fun M3 _ hS hL => ?_⟩
      · have hj62 : fX11_drawn_j62 M x3 (nI n) x5 (1 + (6 + 16 * j)) (1 + (15 + 16 * l)) = some (v, M5) := by
          unfold fX11_drawn_j62
          rw [a1, bd_s, b1, bd_s, f1]
          rfl
        by_cases c : x5 < 50
        · rw [if_pos c]; exact hj62
        · rw [if_neg c, if_pos (h5.resolve_left c)]; exact hj62
      · rw [r0, if_neg i10, hin, if_pos rfl, bnd_r]
        have hS6 : MS (sI M3 90 43 x3) (610 + 124 * j) (tPar T j) (scnOf (tPar T j)) := MS_gen hS (fun k hk => gI_nk _ _ _ _ _ _ (by omega)) (fun c k hc => gI_ne _ _ _ _ _ _ (by omega))
        have hL6 : ML (sI M3 90 43 x3) (858 + 6 * l) (tLaw T l) (tLaw T l 0) := ML_gen hL (gI_nk _ _ _ _ _ _ (by decide)) (gI_nk _ _ _ _ _ _ (by decide)) (fun k => gI_ne _ _ _ _ _ _ (by decide))
        obtain ⟨M6, d1, d2, d3, -, d5⟩ := begins_ref hS6 hL6
        have key := lpk (κ := Unit) (σ := MM × Nat) (fun _ f st => fX12_drawn_l47 (fun M19 y20 => (fX12_nowOf M19 y20).bind (fun p21 => some (p21.1, p21.2))) f st.1 (nI n) x5 (nI st.2)) (fun _ M2 => (fX12_nowOf M2 x5).bind (fun p21 => some (p21.1, p21.2))) n
          (fun i st => i = st.2 ∧ Fr rL M3 st.1 ∧ DM st.1 (610 + 124 * j) (tPar T j) (858 + 6 * l) (tLaw T l) (drwN nxS (tLaw T l) (pl0 (tPar T j), x3) i)) (fun M2 => Fr rL M3 M2 ∧ DM M2 (610 + 124 * j) (tPar T j) (858 + 6 * l) (tLaw T l) (drwN nxS (tLaw T l) (pl0 (tPar T j), x3) n)) ?_ ?_ FU 0 (M6, 0) (by omega) (by show _ < 5000; omega) ⟨rfl, (Fr.rfl.pI (by decide)).trans (d2.mono (by decide)), d5, by rw [d3 43 (by decide) (by decide), gI_eq]; rfl⟩
        · obtain ⟨M7, ⟨g1, g2⟩, g3⟩ := key
          obtain ⟨M8, k1, k2⟩ := f3 M7 g2.1
          refine ⟨M8, ?_, g1.trans (k2.mono (by decide))⟩
          rw [d1, bd_s]
          have := g3 ()
          simp only [] at this
          rw [nl0, this, k1]
          rfl
        · rintro i ⟨M7, i2⟩ hi ⟨rfl, hF, g1⟩
          left
          simp only [] at hF g1
          obtain ⟨M8, k1, k2, k3⟩ := drw_ref nxS_F g1 (drwN_PX (nx := nxS) (Z := (pl0 (tPar T j), x3)) (pl0_PX hP) i)
          refine ⟨(M8, i + 1), ⟨rfl, hF.trans k2, k3⟩, fun _ f => ?_⟩
          show fX12_drawn_l47 _ (f + 1) M7 (nI n) x5 (nI i) = fX12_drawn_l47 _ f M8 (nI n) x5 (nI (i + 1))
          rw [fX12_drawn_l47.eq_2, le_f hi (by omega), k1, bd_s, nI_1]
        · rintro ⟨M7, i2⟩ ⟨rfl, hF, g1⟩
          refine ⟨M7, ⟨hF, g1⟩, fun _ f => ?_⟩
          show fX12_drawn_l47 _ (f + 1) M7 (nI n) x5 (nI n) = _
          rw [fX12_drawn_l47.eq_2, le_t (Nat.le_refl _) (by omega)]
    · have c1 : ¬ x5 < 50 := fun z => h5 (Or.inl z)
      have c2 : ¬ (60 : Int32) ≤ x5 := fun z => h5 (Or.inr z)
      refine ⟨-2, M, by rw [if_neg c1, if_neg c2], Fr.rfl, hB, fun M3 _ _ _ => ⟨M3, ?_, Fr.rfl⟩⟩
      have hin : fX12_isIn x5 50 59 = 1 := by
        refine isIn_t c1 (fun z => c2 ?_)
        have z9 := (gt_toInt (n := 59) (by decide)).mp z
        exact (le_toInt (n := 60) (by decide)).mpr (by omega)
      rw [r0, if_neg i10, hin, if_neg i10]
