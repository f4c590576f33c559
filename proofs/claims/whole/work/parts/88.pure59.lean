/-! ===== text: a line ===== -/
abbrev wdK (tp : Nat → Nat) (len x s : Nat) : Prop := tkK tp len s = 1 ∧ flN x + 1 ≤ wcT tp len s ∧ wcT tp len s ≤ flN (x + 1)
abbrev sopK (tp : Nat → Nat) (len s : Nat) : Prop := tkK tp len s = 1 ∧ 4 ≤ wcT tp len s ∧ wcT tp len s ≤ 7
def ln0 (D : DRF) (w : Nat) (σ : RST) : RST := if fulD D w = true then mkF 3 σ.1 σ else σ
def ln1 (tp : Nat → Nat) (len : Nat) (D : DRF) (w : Nat) (σ : RST) : RST := mvF tp len (ln0 D w σ)
def ln2 (tp : Nat → Nat) (len : Nat) (D : DRF) (w : Nat) (σ : RST) : RST := stK tp len w (nmN w) (ln1 tp len D w σ)
def ln3 (tp : Nat → Nat) (len : Nat) (D : DRF) (w : Nat) (σ : RST) : RST := if w = 12 then (if sopK tp len (ln2 tp len D w σ).1 then mvF tp len (ln2 tp len D w σ) else rfF (ln2 tp len D w σ)) else ln2 tp len D w σ
def endF (tp : Nat → Nat) (len : Nat) (σ : RST) : RST := if σ.2.1 = 1 then σ else if tkK tp len σ.1 = 3 then mvF tp len σ else rfF σ
def lnS (tp : Nat → Nat) (len x : Nat) (D : DRF) (σ : RST) : RST := if wdK tp len x σ.1 then endF tp len (ln3 tp len D (wcT tp len σ.1 - 1) σ) else rfF σ
def lnD (tp : Nat → Nat) (len x : Nat) (D : DRF) (σ : RST) : DRF := if (lnS tp len x D σ).2.1 = 0 then kpD (wcT tp len σ.1 - 1) (fun k => vlK tp len (wcT tp len σ.1 - 1) k (ln1 tp len D (wcT tp len σ.1 - 1) σ)) (wcT tp len (ln2 tp len D (wcT tp len σ.1 - 1) σ).1 - 4) D else D
theorem mkF_0 {k q : Nat} {σ : RST} (hk : k ≠ 0) : (mkF k q σ).2.1 ≠ 0 := by
  unfold mkF
  by_cases c : σ.2.1 = 0
  · rw [if_pos c]; exact hk
  · rw [if_neg c]; exact c
theorem mkF_n1 {k q : Nat} {σ : RST} (hk : k ≠ 1) (h : σ.2.1 ≠ 1) : (mkF k q σ).2.1 ≠ 1 := by
  unfold mkF
  by_cases c : σ.2.1 = 0
  · rw [if_pos c]; exact hk
  · rw [if_neg c]; exact h
theorem ln0_n1 {D : DRF} {w : Nat} {σ : RST} (h : σ.2.1 ≠ 1) : (ln0 D w σ).2.1 ≠ 1 := by
  unfold ln0
  split
  · exact mkF_n1 (by decide) h
  · exact h
theorem ln0_full {D : DRF} {w : Nat} {σ : RST} (h : (ln0 D w σ).2.1 = 0) : fulD D w = false ∧ σ.2.1 = 0 := by
  unfold ln0 at h
  cases e : fulD D w with
  | true => rw [e, if_pos rfl] at h; exact absurd h (mkF_0 (by decide))
  | false => rw [e, if_neg Bool.false_ne_true] at h; exact ⟨rfl, h⟩
theorem ln0_1 {D : DRF} {w : Nat} {σ : RST} : (ln0 D w σ).1 = σ.1 := by
  unfold ln0
  split
  · exact mkF_1 _ _ _
  · rfl
theorem endF_0 {tp : Nat → Nat} {len : Nat} {σ : RST} (h : (endF tp len σ).2.1 = 0) : σ.2.1 = 0 ∧ tkK tp len σ.1 = 3 := by
  unfold endF at h
  by_cases c : σ.2.1 = 1
  · rw [if_pos c] at h; omega
  · rw [if_neg c] at h
    by_cases d : tkK tp len σ.1 = 3
    · rw [if_pos d] at h; exact ⟨h, d⟩
    · rw [if_neg d] at h; exact absurd (show (1 : Nat) = 0 from h) (by decide)
theorem ln3_0 {tp : Nat → Nat} {len : Nat} {D : DRF} {w : Nat} {σ : RST} (h : (ln3 tp len D w σ).2.1 = 0) : (ln2 tp len D w σ).2.1 = 0 ∧ (w = 12 → sopK tp len (ln2 tp len D w σ).1) := by
  unfold ln3 at h
  by_cases c : w = 12
  · rw [if_pos c] at h
    by_cases d : sopK tp len (ln2 tp len D w σ).1
    · rw [if_pos d] at h; exact ⟨h, fun _ => d⟩
    · rw [if_neg d] at h; exact absurd (show (1 : Nat) = 0 from h) (by decide)
  · rw [if_neg c] at h; exact ⟨h, fun e => absurd e c⟩
theorem lnS_0 {tp : Nat → Nat} {len x : Nat} {D : DRF} {σ : RST} (h : (lnS tp len x D σ).2.1 = 0) : wdK tp len x σ.1 ∧ fulD D (wcT tp len σ.1 - 1) = false ∧ σ.2.1 = 0 ∧ (wcT tp len σ.1 - 1 = 12 → sopK tp len (ln2 tp len D (wcT tp len σ.1 - 1) σ).1) ∧ ∀ j, j < nmN (wcT tp len σ.1 - 1) → bnL (wcT tp len σ.1 - 1) j ≤ vlK tp len (wcT tp len σ.1 - 1) j (ln1 tp len D (wcT tp len σ.1 - 1) σ) ∧ vlK tp len (wcT tp len σ.1 - 1) j (ln1 tp len D (wcT tp len σ.1 - 1) σ) ≤ bnG (wcT tp len σ.1 - 1) j := by
  unfold lnS at h
  by_cases c : wdK tp len x σ.1
  · rw [if_pos c] at h
    obtain ⟨h1, h2⟩ := ln3_0 (endF_0 h).1
    obtain ⟨h3, h4⟩ := stK_0 _ (show (stK tp len (wcT tp len σ.1 - 1) (nmN (wcT tp len σ.1 - 1)) (ln1 tp len D (wcT tp len σ.1 - 1) σ)).2.1 = 0 from h1)
    obtain ⟨h5, h6⟩ := ln0_full (show (ln0 D (wcT tp len σ.1 - 1) σ).2.1 = 0 from h3)
    exact ⟨c, h5, h6, h2, h4⟩
  · rw [if_neg c] at h; exact absurd (show (1 : Nat) = 0 from h) (by decide)
theorem fl_20 {tp : Nat → Nat} {len x s : Nat} (hx : x < 4) (h : wdK tp len x s) : wcT tp len s - 1 < 20 := by
  have : flN (x + 1) ≤ 20 := by
    rcases (show x = 0 ∨ x = 1 ∨ x = 2 ∨ x = 3 by omega) with rfl | rfl | rfl | rfl <;> decide
  have := h.2.1
  have := h.2.2
  omega
theorem rfF_ge {σ : RST} : (rfF σ).1 = σ.1 := rfl
theorem lnS_prog {tp : Nat → Nat} {len x : Nat} {D : DRF} {σ : RST} (hs : σ.1 < len) : (lnS tp len x D σ).2.1 = 1 ∨ σ.1 < (lnS tp len x D σ).1 := by
  unfold lnS
  split
  · right
    have h1 : σ.1 < (ln1 tp len D (wcT tp len σ.1 - 1) σ).1 := by
      show σ.1 < nxT tp len (ln0 D (wcT tp len σ.1 - 1) σ).1
      rw [ln0_1]; exact nxT_gt hs
    have h2 : σ.1 < (ln2 tp len D (wcT tp len σ.1 - 1) σ).1 := Nat.lt_of_lt_of_le h1 (stK_ge _)
    have h3 : σ.1 < (ln3 tp len D (wcT tp len σ.1 - 1) σ).1 := by
      unfold ln3
      split
      · split
        · exact Nat.lt_of_lt_of_le h2 nxT_ge
        · exact h2
      · exact h2
    unfold endF
    split
    · exact h3
    · split
      · exact Nat.lt_of_lt_of_le h3 nxT_ge
      · exact h3
  · left; rfl
def rdCL : List Nat := [41, 42, 43, 44, 45, 46, 47, 48, 49, 50, 51, 52, 53, 54, 55, 56, 57, 58]
theorem sop_lt {n : Nat} (h1 : 1 ≤ n) (h2 : n ≤ 3) : nI (n - 1) - 3 < 0 := by
  rcases (show n = 1 ∨ n = 2 ∨ n = 3 by omega) with rfl | rfl | rfl <;> decide
/-- behind the numbers -/
theorem tail_cls {M : MM} {tp : Nat → Nat} {len w kd : Nat} {D : DRF} {σ : RST} {v : Nat → Nat} (hw : w < 20) (hC : CS M tp len σ) (h1 : σ.2.1 ≠ 1) (hD : DWf D) (hc : CDf M D)
    (hk : σ.2.1 = 0 → (∀ j, j < nmN w → (bnL w j ≤ v j ∧ v j ≤ bnG w j) ∧ gI M 58 j = nI (v j)) ∧ fulD D w = false ∧ (w = 12 → kd < 4 ∧ gI M 41 11 = nI kd)) :
    ∃ M2, fX7_readLine_j91 M (nI w) = some M2 ∧ Fr rdCL M M2 ∧ CS M2 tp len (endF tp len σ) ∧ CDf M2 (if (endF tp len σ).2.1 = 0 then kpD w v kd D else D) ∧ DWf (if (endF tp len σ).2.1 = 0 then kpD w v kd D else D) := by
  have hk5 := tkK_5 tp len σ.1
  have hf6 := hC.2.2.2.2.2.2.2.2.2
  unfold fX7_readLine_j91 fX7_readLine_j116
  rw [hC.2.2.2.2.1, hC.2.2.2.2.2.2.2.1, nl3]
  have ee : endF tp len σ = if tkK tp len σ.1 = 3 then mvF tp len σ else rfF σ := by unfold endF; rw [if_neg h1]
  by_cases c : tkK tp len σ.1 = 3
  · rw [eqn_t c, ee, if_pos c]
    show ∃ M2, _ ∧ _ ∧ _ ∧ CDf M2 (if σ.2.1 = 0 then _ else _) ∧ DWf (if σ.2.1 = 0 then _ else _)
    by_cases d : σ.2.1 = 0
    · obtain ⟨k1, k2, k3⟩ := hk d
      obtain ⟨M2, m1, m2, m3, m4⟩ := keep_cls hw hc hD k1 k2 k3
      obtain ⟨M3, t1, t2, t3⟩ := tok_CS (CS_fr hC m2 (by decide) (by decide))
      rw [eqz_t d, if_pos d]
      exact ⟨M3, by rw [m1, bd_s, t1]; rfl, (m2.mono (by decide)).trans (t2.1.mono (by decide)), t3, CDf_fr m3 t2.1 (by decide), m4⟩
    · obtain ⟨M3, t1, t2, t3⟩ := tok_CS hC
      rw [eqz_f (by omega) (by omega), if_neg d]
      exact ⟨M3, by rw [t1]; rfl, t2.1.mono (by decide), t3, CDf_fr hc t2.1 (by decide), hD⟩
  · obtain ⟨M3, t1, t2, t3⟩ := ref_CS hC
    rw [eqn_f c (by omega) (by decide), ee, if_neg c, if_neg (show ¬ (rfF σ).2.1 = 0 from by show ¬ (1 : Nat) = 0; decide)]
    exact ⟨M3, by rw [t1]; rfl, t2.1.mono (by decide), t3, CDf_fr hc t2.1 (by decide), hD⟩
theorem line_CS {M : MM} {tp : Nat → Nat} {len x : Nat} {D : DRF} {σ : RST} (hx : x < 4) (hC : CS M tp len σ) (h1 : σ.2.1 ≠ 1) (hD : DWf D) (hc : CDf M D) :
    ∃ M2, fX7_readLine M (nI x) = some M2 ∧ Fr rdCL M M2 ∧ CS M2 tp len (lnS tp len x D σ) ∧ CDf M2 (lnD tp len x D σ) ∧ DWf (lnD tp len x D σ) := by
  unfold fX7_readLine
  rw [line_cls hC.1 hC.2.1 hC.2.2.2.1 hx hC.2.2.2.2.1 hC.2.2.2.2.2.1 hC.2.2.2.2.2.2.1, bd_s]
  by_cases c : wdK tp len x σ.1
  · have hw := fl_20 hx c
    have hlS : lnS tp len x D σ = endF tp len (ln3 tp len D (wcT tp len σ.1 - 1) σ) := by unfold lnS; rw [if_pos c]
    have hlD : lnD tp len x D σ = if (endF tp len (ln3 tp len D (wcT tp len σ.1 - 1) σ)).2.1 = 0 then kpD (wcT tp len σ.1 - 1) (fun k => vlK tp len (wcT tp len σ.1 - 1) k (ln1 tp len D (wcT tp len σ.1 - 1) σ)) (wcT tp len (ln2 tp len D (wcT tp len σ.1 - 1) σ).1 - 4) D else D := by unfold lnD; rw [hlS]
    rw [if_pos c, if_neg (m1_ne (by omega)), full_cls hD hc hw, bI_0, hC.2.2.2.2.2.1, hlS, hlD]
    generalize wcT tp len σ.1 - 1 = w at *
    obtain ⟨Ma, p1, p2, p3⟩ : ∃ Ma, (if fulD D w = true then (fX7_mark M 3 (nI σ.1)).bind (fun p37 => fX7_readLine_j33 p37 (nI w)) else fX7_readLine_j33 M (nI w)) = fX7_readLine_j33 Ma (nI w) ∧ W41 M Ma ∧ CS Ma tp len (ln0 D w σ) := by
      unfold ln0
      cases e : fulD D w with
      | true =>
        obtain ⟨Ma, m1, m2, m3⟩ := mark_CS (k := 3) (q := σ.1) hC (by decide)
        refine ⟨Ma, ?_, m2, by rw [if_pos rfl]; exact m3⟩
        rw [if_pos rfl, show (3 : Int32) = nI 3 from rfl, m1]; rfl
      | false => exact ⟨M, by rw [if_neg Bool.false_ne_true], ⟨Fr.rfl, rfl⟩, by rw [if_neg Bool.false_ne_true]; exact hC⟩
    rw [p1]
    unfold fX7_readLine_j33
    obtain ⟨Mb, q1, q2, q3⟩ := tok_CS p3
    have h1n : (ln1 tp len D w σ).2.1 ≠ 1 := ln0_n1 (D := D) (w := w) h1
    obtain ⟨b, Mc, r1, ⟨r2, r3⟩, r4, r5⟩ := nums_cls (tp := tp) (len := len) (w := w) (σ := ln1 tp len D w σ) hw (nmN w) 0 FU Mb (by omega) (by have := nm_5 w hw; show _ < 5000; omega) q3 h1n (fun _ j hj => absurd hj (Nat.not_lt_zero j))
    rw [q1, bd_s]
    unfold fX7_readNumbers
    rw [show (0 : Int32) = nI 0 from rfl, r1, bd_s]
    have hFc : Fr rdCL M Mc := (p2.1.mono (by decide)).trans ((q2.1.mono (by decide)).trans (r2.mono (by decide)))
    have hcc : CDf Mc D := CDf_fr (CDf_fr hc (p2.trans q2).1 (by decide)) r2 (by decide)
    cases b with
    | false =>
      obtain ⟨s, s1, s2⟩ := r5 rfl
      obtain ⟨Md, t1, t2, t3⟩ := ref_CS s1
      have e2 : ln2 tp len D w σ = rfF s := s2
      have e3 : (ln3 tp len D w σ) = rfF s := by
        unfold ln3
        by_cases z : w = 12
        · exfalso
          have e0 : ln2 tp len D w σ = ln1 tp len D w σ := by unfold ln2; rw [z]; rfl
          rw [e0] at e2
          exact h1n (by rw [e2]; rfl)
        · rw [if_neg z]; exact e2
      have e4 : endF tp len (ln3 tp len D w σ) = rfF s := by rw [e3]; unfold endF; rw [if_pos (show (rfF s).2.1 = 1 from rfl)]
      rw [e4, if_neg (show ¬ (rfF s).2.1 = 0 from by show ¬ (1 : Nat) = 0; decide)]
      refine ⟨Md, ?_, hFc.trans (t2.1.mono (by decide)), t3, CDf_fr hcc t2.1 (by decide), hD⟩
      rw [if_pos (show bI false = nI 0 from rfl), t1]; rfl
    | true =>
      obtain ⟨s1, s2, s3⟩ := r4 rfl
      have s1 : CS Mc tp len (ln2 tp len D w σ) := s1
      have s2 : (ln2 tp len D w σ).2.1 ≠ 1 := s2
      have s3 : (ln2 tp len D w σ).2.1 = 0 → ∀ j, j < nmN w → gI Mc 58 j = nI (vlK tp len w j (ln1 tp len D w σ)) := s3
      have hval : (ln2 tp len D w σ).2.1 = 0 → (∀ j, j < nmN w → (bnL w j ≤ vlK tp len w j (ln1 tp len D w σ) ∧ vlK tp len w j (ln1 tp len D w σ) ≤ bnG w j) ∧ gI Mc 58 j = nI (vlK tp len w j (ln1 tp len D w σ))) ∧ fulD D w = false := fun z => by
        obtain ⟨y1, y2⟩ := stK_0 _ (show (stK tp len w (nmN w) (ln1 tp len D w σ)).2.1 = 0 from z)
        exact ⟨fun j hj => ⟨y2 j hj, s3 z j hj⟩, (ln0_full (show (ln0 D w σ).2.1 = 0 from y1)).1⟩
      rw [if_neg (show ¬ bI true = nI 0 from i10), show (12 : Int32) = nI 12 from rfl]
      by_cases z : w = 12
      · have l3 : ln3 tp len D w σ = if sopK tp len (ln2 tp len D w σ).1 then mvF tp len (ln2 tp len D w σ) else rfF (ln2 tp len D w σ) := by unfold ln3; rw [if_pos z]
        have hwc := wcT_le tp len (ln2 tp len D w σ).1
        rw [eqn_t z, show nI 0 = nI 0 from rfl, line_cls s1.1 s1.2.1 s1.2.2.2.1 (x := 0) (by decide) s1.2.2.2.2.1 s1.2.2.2.2.2.1 s1.2.2.2.2.2.2.1, bd_s, bnd_r, gI_eq]
        rw [show flN 0 + 1 = 1 from rfl, show flN (0 + 1) = 7 from rfl]
        by_cases y : sopK tp len (ln2 tp len D w σ).1
        · have y1 := y.2.1
          have y2 := y.2.2
          rw [if_pos y] at l3
          rw [if_pos (show tkK tp len (ln2 tp len D w σ).1 = 1 ∧ 1 ≤ wcT tp len (ln2 tp len D w σ).1 ∧ wcT tp len (ln2 tp len D w σ).1 ≤ 7 from ⟨y.1, by omega, by omega⟩), nl3, pk_sub (show 3 ≤ wcT tp len (ln2 tp len D w σ).1 - 1 by omega), lt_f (Nat.zero_le _) (by omega), le_t (by omega) (by decide)]
          obtain ⟨Md, t1, t2, t3⟩ := tok_CS (CS_11 (v := nI (wcT tp len (ln2 tp len D w σ).1 - 1 - 3)) s1)
          rw [t1, bd_s]
          have hF11 : Fr [41] Mc (sI Mc 41 11 (nI (wcT tp len (ln2 tp len D w σ).1 - 1 - 3))) := Fr.rfl.pI (by decide)
          rw [l3]
          obtain ⟨Me, u1, u2, u3, u4, u5⟩ := tail_cls (w := w) (kd := wcT tp len (ln2 tp len D w σ).1 - 4) (v := fun k => vlK tp len w k (ln1 tp len D w σ)) hw t3 s2 hD (CDf_fr hcc (hF11.trans t2.1) (by decide)) (fun e => ⟨fun j hj => ⟨((hval e).1 j hj).1, by rw [(hF11.trans t2.1).gi (by decide)]; exact ((hval e).1 j hj).2⟩, (hval e).2, fun _ => ⟨by omega, by rw [t2.2, gI_eq, show wcT tp len (ln2 tp len D w σ).1 - 1 - 3 = wcT tp len (ln2 tp len D w σ).1 - 4 by omega]⟩⟩)
          exact ⟨Me, u1, hFc.trans (((hF11.trans t2.1).mono (by decide)).trans u2), u3, u4, u5⟩
        · rw [if_neg y] at l3
          have e4 : endF tp len (ln3 tp len D w σ) = rfF (ln2 tp len D w σ) := by rw [l3]; unfold endF; rw [if_pos (show (rfF (ln2 tp len D w σ)).2.1 = 1 from rfl)]
          rw [e4, if_neg (show ¬ (rfF (ln2 tp len D w σ)).2.1 = 0 from by show ¬ (1 : Nat) = 0; decide)]
          have hneg : (if tkK tp len (ln2 tp len D w σ).1 = 1 ∧ 1 ≤ wcT tp len (ln2 tp len D w σ).1 ∧ wcT tp len (ln2 tp len D w σ).1 ≤ 7 then nI (wcT tp len (ln2 tp len D w σ).1 - 1) else -1) - 3 < 0 := by
            by_cases x1 : tkK tp len (ln2 tp len D w σ).1 = 1 ∧ 1 ≤ wcT tp len (ln2 tp len D w σ).1 ∧ wcT tp len (ln2 tp len D w σ).1 ≤ 7
            · rw [if_pos x1]
              exact sop_lt x1.2.1 (by
                rcases Nat.lt_or_ge (wcT tp len (ln2 tp len D w σ).1) 4 with q | q
                · omega
                · exact absurd ⟨x1.1, q, x1.2.2⟩ y)
            · rw [if_neg x1]; decide
          rw [show nI 0 = (0 : Int32) from rfl, if_pos hneg]
          unfold fX7_readLine_j82
          obtain ⟨Md, t1, t2, t3⟩ := ref_CS (CS_11 (v := (if tkK tp len (ln2 tp len D w σ).1 = 1 ∧ 1 ≤ wcT tp len (ln2 tp len D w σ).1 ∧ wcT tp len (ln2 tp len D w σ).1 ≤ 7 then nI (wcT tp len (ln2 tp len D w σ).1 - 1) else -1) - 3) s1)
          have hF11 : Fr [41] Mc (sI Mc 41 11 ((if tkK tp len (ln2 tp len D w σ).1 = 1 ∧ 1 ≤ wcT tp len (ln2 tp len D w σ).1 ∧ wcT tp len (ln2 tp len D w σ).1 ≤ 7 then nI (wcT tp len (ln2 tp len D w σ).1 - 1) else -1) - 3)) := Fr.rfl.pI (by decide)
          exact ⟨Md, by
            have : ∀ X : Option MM, X = some Md → X.bind (fun p30 => some p30) = some Md := fun X e => by rw [e]; rfl
            exact this _ t1, hFc.trans ((hF11.trans t2.1).mono (by decide)), t3, CDf_fr hcc (hF11.trans t2.1) (by decide), hD⟩
      · have l3 : ln3 tp len D w σ = ln2 tp len D w σ := by unfold ln3; rw [if_neg z]
        rw [eqn_f z (by omega) (by decide), l3]
        obtain ⟨Me, u1, u2, u3, u4, u5⟩ := tail_cls (w := w) (kd := wcT tp len (ln2 tp len D w σ).1 - 4) (v := fun k => vlK tp len w k (ln1 tp len D w σ)) hw s1 s2 hD hcc (fun e => ⟨(hval e).1, (hval e).2, fun q => absurd q z⟩)
        exact ⟨Me, u1, hFc.trans u2, u3, u4, u5⟩
  · obtain ⟨M2, t1, t2, t3⟩ := ref_CS hC
    have e1 : lnS tp len x D σ = rfF σ := by unfold lnS; rw [if_neg c]
    have e2 : lnD tp len x D σ = D := by unfold lnD; rw [e1, if_neg (show ¬ (rfF σ).2.1 = 0 from by show ¬ (1 : Nat) = 0; decide)]
    rw [if_neg c, if_pos rfl, e1, e2]
    exact ⟨M2, by rw [t1]; rfl, t2.1.mono (by decide), t3, CDf_fr hc t2.1 (by decide), hD⟩
