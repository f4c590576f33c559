theorem cp_any {S : SCN} {a b : Nat} (h : a ≠ b) (x y u v : Nat) : setF (setF (setF (setF S a x) b y) a u) b v = setF (setF S a u) b v := by
  rw [← setF_comm (setF S a x) u y h, setF_twice, setF_twice]
/-- what the reference asks first: are there both players -/
def plT (p1 : Int32 × MM) : Option (Int32 × MM) := (fX12_leastOf p1.2 0).bind (fun p4 => (if p4 = (-1) then some (0, p1.2) else (fX12_leastOf p1.2 1).bind (fun p7 => (if p7 = (-1) then some (0, p1.2) else some (1, p1.2)))))
theorem players_R (M1 : MM) (x1 x2 v : Int32) (g : Int32 × MM → Option (Int32 × MM)) : (fX12_arePlayers M1 x1 x2).bind (fun p1 => if p1.1 = 0 then some (v, p1.2) else g p1) = (fX12_areTold M1 x1 x2).bind (fun p1 => if p1.1 = 0 then some (v, p1.2) else (plT p1).bind (fun p1 => if p1.1 = 0 then some (v, p1.2) else g p1)) := by
  unfold fX12_arePlayers
  cases fX12_areTold M1 x1 x2 with
  | none => rfl
  | some p =>
    rw [bd_s, bd_s]
    by_cases c : p.1 = 0
    · rw [if_pos c, if_pos c, bd_s]
      rfl
    · rw [if_neg c, if_neg c]
      rfl
theorem plT_no {M : MM} {o : Nat} {P : PARD} {S : SCN} (hM : MS M o P S) (h : lsS S 0 = none ∨ lsS S 1 = none) : plT (1, M) = some (0, M) := by
  have l0' : fX12_leastOf M 0 = some (opI (lsS S 0)) := least_ref hM (p := 0) (by decide)
  have l1' : fX12_leastOf M 1 = some (opI (lsS S 1)) := least_ref hM (p := 1) (by decide)
  have hS := hM.2.2.2.2.1
  unfold plT
  show (fX12_leastOf M 0).bind _ = _
  rw [l0', bd_s]
  by_cases c : lsS S 0 = none
  · rw [if_pos ((ls_opI hS).mpr c)]
  · rw [if_neg (fun z => c ((ls_opI hS).mp z))]
    show (fX12_leastOf M 1).bind _ = _
    rw [l1', bd_s, if_pos ((ls_opI hS).mpr (h.resolve_left c))]
theorem plT_yes {M : MM} {o a b : Nat} {P : PARD} {S : SCN} (hM : MS M o P S) (ha : lsS S 0 = some a) (hb : lsS S 1 = some b) : plT (1, M) = some (1, M) := by
  have l0' : fX12_leastOf M 0 = some (opI (lsS S 0)) := least_ref hM (p := 0) (by decide)
  have l1' : fX12_leastOf M 1 = some (opI (lsS S 1)) := least_ref hM (p := 1) (by decide)
  have hS := hM.2.2.2.2.1
  unfold plT
  show (fX12_leastOf M 0).bind _ = _
  rw [l0', bd_s, if_neg (fun z => by rw [(ls_opI hS).mp z] at ha; cases ha)]
  show (fX12_leastOf M 1).bind _ = _
  rw [l1', bd_s, if_neg (fun z => by rw [(ls_opI hS).mp z] at hb; cases hb)]
theorem game_no {M : MM} {T : TOLD} (hC : CT M 1 T) (hW : TW T) {j : Nat} (hj : j < tNum T 0) (h : lsS (scnOf (tPar T j)) 0 = none ∨ lsS (scnOf (tPar T j)) 1 = none) : fX11_isGame M (1 + (6 + 16 * j)) = some 0 := by
  have l0' : fX5_leastShineOf M (1 + (6 + 16 * j)) 0 = some (opI (lsS (scnOf (tPar T j)) 0)) := told_least hC hW hj (p := 0) (by decide)
  have l1' : fX5_leastShineOf M (1 + (6 + 16 * j)) 1 = some (opI (lsS (scnOf (tPar T j)) 1)) := told_least hC hW hj (p := 1) (by decide)
  have hS := scn_SW (hW.2.2.2.1 j hj)
  unfold fX11_isGame
  rw [l0', bd_s]
  by_cases c : lsS (scnOf (tPar T j)) 0 = none
  · rw [if_pos ((ls_opI hS).mpr c)]
  · rw [if_neg (fun z => c ((ls_opI hS).mp z)), l1', bd_s, if_pos ((ls_opI hS).mpr (h.resolve_left c))]
theorem game_yes {M : MM} {T : TOLD} (hC : CT M 1 T) (hW : TW T) {j a b : Nat} (hj : j < tNum T 0) (ha : lsS (scnOf (tPar T j)) 0 = some a) (hb : lsS (scnOf (tPar T j)) 1 = some b) : fX11_isGame M (1 + (6 + 16 * j)) = some 1 := by
  have l0' : fX5_leastShineOf M (1 + (6 + 16 * j)) 0 = some (opI (lsS (scnOf (tPar T j)) 0)) := told_least hC hW hj (p := 0) (by decide)
  have l1' : fX5_leastShineOf M (1 + (6 + 16 * j)) 1 = some (opI (lsS (scnOf (tPar T j)) 1)) := told_least hC hW hj (p := 1) (by decide)
  have hS := scn_SW (hW.2.2.2.1 j hj)
  unfold fX11_isGame
  rw [l0', bd_s, if_neg (fun z => by rw [(ls_opI hS).mp z] at ha; cases ha), l1', bd_s, if_neg (fun z => by rw [(ls_opI hS).mp z] at hb; cases hb)]
theorem game_ab {S : SCN} {a b : Nat} (ha : lsS S 0 = some a) (hb : lsS S 1 = some b) : a ≠ b := fun e => by
  have h1 := (ls_lt ha).2
  have h2 := (ls_lt hb).2
  rw [e] at h1
  omega
theorem par_least {M M1 : MM} {T : TOLD} (hW : TW T) (hC : CT M 1 T) {j a b : Nat} (hj : j < tNum T 0) (hF : Fr cL M M1) (ha : lsS (scnOf (tPar T j)) 0 = some a) (hb : lsS (scnOf (tPar T j)) 1 = some b) : fX5_leastShineOf M1 (1 + (6 + 16 * j)) 0 = some (nI a) ∧ fX5_leastShineOf M1 (1 + (6 + 16 * j)) 1 = some (nI b) := by
  have h2 := num_lt hW (s := 0) (by decide)
  have hS := scn_SW (hW.2.2.2.1 j hj)
  have hcp := hC.2.2.2.2.2.1 j hj
  have e3 : gI M1 (1 + (6 + 16 * j)) 3 = nI (pS (tPar T j)) := by rw [hF.gi (by simp; omega)]; exact hcp.2.2.2.1
  have e7 : ∀ s, s < pS (tPar T j) → gI M1 (1 + (6 + 16 * j) + 7) s = nI (pSh (tPar T j) s 4) := fun s hs => by rw [hF.gi (by simp; omega)]; exact (hcp.2.2.2.2.2.1 s hs).2.2.2.2
  have l0' := least_cls (S := scnOf (tPar T j)) hS e3 e7 (p := 0) (by decide)
  have l1' := least_cls (S := scnOf (tPar T j)) hS e3 e7 (p := 1) (by decide)
  rw [ha] at l0'
  rw [hb] at l1'
  exact ⟨l0', l1'⟩
theorem e18 : E18 Inv := by
  intro K M x1 x2 x3 x4 hI
  refine pl_case (v := -1) hI (C := fX11_prize M x1 x2 x3 x4) (R := fun M1 => fX12_prize M1 x1 x2 x3 x4) rfl (fun M1 => players_R M1 x1 x2 (-1) _) ?_
  intro T j l hW hC hM hB hj hl e1 e2
  have hP := hW.2.2.2.1 j hj
  have hSW := scn_SW hP
  have hs8 : cS (scnOf (tPar T j)) ≤ 8 := hSW.2.2.2.1
  by_cases hg : lsS (scnOf (tPar T j)) 0 = none ∨ lsS (scnOf (tPar T j)) 1 = none
  · refine ⟨-1, M, by rw [game_no hC hW hj hg, bd_s, if_pos rfl], Fr.rfl, hB, fun M3 _ hS _ => ⟨M3, ?_, Fr.rfl⟩⟩
    rw [plT_no hS hg, bd_s, if_pos rfl]
  · obtain ⟨a, ha⟩ : ∃ a, lsS (scnOf (tPar T j)) 0 = some a := by
      cases h : lsS (scnOf (tPar T j)) 0 with
      | none => exact absurd (Or.inl h) hg
      | some a => exact ⟨a, rfl⟩
    obtain ⟨b, hb⟩ : ∃ b, lsS (scnOf (tPar T j)) 1 = some b := by
      cases h : lsS (scnOf (tPar T j)) 1 with
      | none => exact absurd (Or.inr h) hg
      | some a => exact ⟨a, rfl⟩
    have la := (ls_lt ha).1
    have lb := (ls_lt hb).1
    rw [game_yes hC hW hj ha hb, bd_s, if_neg i10]
    rcases rng x3 (n := 2) (by decide) with h | ⟨w, hw, rfl⟩
    · refine ⟨-1, M, ?_, Fr.rfl, hB, fun M3 _ hS _ => ⟨M3, ?_, Fr.rfl⟩⟩
      · rcases h with h | h
        · rw [if_pos h]
        · have h9 := (le_toInt (by decide)).mp h
          rw [if_neg (fun q => by have := lt0_toInt.mp q; omega), if_pos (show (1 : Int32) < x3 from (gt_toInt (n := 1) (by decide)).mpr (by omega))]
      · rw [plT_yes hS ha hb, bd_s, if_neg i10, nl1, isIn3_no (by decide) h, if_pos rfl]
    · rw [if_neg (nI_pos (by omega)), if_neg (show ¬ (1 : Int32) < nI w from nI_nlt (a := 1) (by omega) (by omega))]
      have w1 : fX12_isIn (nI w) 0 1 = 1 := isIn3_yes (n := 1) (by decide) (by omega)
      rcases rng x4 (n := 64) (by decide) with h | ⟨c, hc, rfl⟩
      · refine ⟨-1, M, ?_, Fr.rfl, hB, fun M3 _ hS _ => ⟨M3, ?_, Fr.rfl⟩⟩
        · rcases h with h | h
          · rw [if_pos h]
          · have h9 := (le_toInt (by decide)).mp h
            rw [if_neg (fun q => by have := lt0_toInt.mp q; omega), if_neg (show ¬ x4 < (64 : Int32) from fun q => by have := (lt_toInt (n := 64) (by decide)).mp q; omega)]
        · rw [plT_yes hS ha hb, bd_s, if_neg i10, w1, if_neg i10, show (63 : Int32) = nI 63 from rfl, isIn3_no (by decide) h, if_pos rfl]
      · obtain ⟨M1, a1, a2, a3, a4, -⟩ := par_beg hW hC hB hj
        obtain ⟨l0', l1'⟩ := par_least hW hC hj a2 ha hb
        obtain ⟨M2, d1, d2, d3, d4⟩ := couple_cls a3 (CLw_fr (told_law hC hW hl) a2 (by decide)) la lb hc
        refine ⟨nI (totS (setF (setF (scnOf (tPar T j)) a (c / 8)) b (c % 8)) (tLaw T l 0) (tLaw T l) w), M2, ?_, a2.trans (d2.mono (by decide)), BS_BN d3, fun M3 _ hS hL => ?_⟩
        · rw [if_neg (nI_pos (by omega)), if_pos (show nI c < (64 : Int32) from nI_lt (b := 64) hc (by decide))]
          unfold fX1_prizeOf
          rw [a1, bd_s, l0', bd_s, l1', bd_s, m1_iff (by omega), m1_iff (by omega), d1, bd_s, gd_inb (by omega) (by decide), ix_nI (by omega), d4 w (by omega)]
          rfl
        · obtain ⟨M4, r1, r2, -⟩ := prizeOf_ref hS hL ha hb hc (who := w) (by omega)
          refine ⟨M4, ?_, r2⟩
          have c1 : fX12_isIn (nI c) 0 63 = 1 := isIn3_yes (n := 63) (by decide) (by omega)
          rw [plT_yes hS ha hb, bd_s, if_neg i10, w1, if_neg i10, c1, if_neg i10, r1]
          rfl
/-! rests -/
def prS (S : SCN) (L : Nat → Nat) (a b w c : Nat) : Nat := totS (cpS S a b c) (L 0) L w
def rsB (p0 p1 : Nat → Nat) (c : Nat) : Bool := allN (fun f => decide (p0 (8 * f + c % 8) ≤ p0 c) && decide (p1 (c / 8 * 8 + f) ≤ p1 c)) 8
def frS (B : Nat → Bool) (x : Int32) : Nat → Nat → Nat → Int32
  | 0, _, m => if x = -1 then nI m else -1
  | n + 1, c, m => if B c then (if nI m = x then nI c else frS B x n (c + 1) (m + 1)) else frS B x n (c + 1) m
theorem isRest_cls {M : MM} {p0 p1 : Nat → Nat} (h0 : ∀ c, c < 64 → gI M 82 (2 * c) = nI (p0 c) ∧ gI M 82 (2 * c + 1) = nI (p1 c)) (hb : ∀ c, p0 c ≤ 64 ∧ p1 c ≤ 64) {c : Nat} (hc : c < 64) : fX1_isRest M (nI c) = some (bI (rsB p0 p1 c)) := by
  have key := lpk (κ := Unit) (σ := Nat) (fun _ f st => fX1_isRest_l2 M f (nI c) (nI st)) (fun _ (v : Int32) => some v) 8
    (fun i st => i = st ∧ allN (fun f => decide (p0 (8 * f + c % 8) ≤ p0 c) && decide (p1 (c / 8 * 8 + f) ≤ p1 c)) i = true) (fun v => v = bI (rsB p0 p1 c)) ?_ ?_ FU 0 0 (by omega) (by decide) ⟨rfl, rfl⟩
  · obtain ⟨v, e, h⟩ := key
    rw [e] at h
    exact h ()
  · rintro f f2 hf ⟨rfl, hn⟩
    have m1 := (hb (8 * f + c % 8)).1
    have m2 := (hb c).1
    have m3 := (hb (c / 8 * 8 + f)).2
    have m4 := (hb c).2
    have head : ∀ g, fX1_isRest_l2 M (g + 1) (nI c) (nI f) = (if nI (p0 (8 * f + c % 8)) ≤ nI (p0 c) then (if nI (p1 (c / 8 * 8 + f)) ≤ nI (p1 c) then fX1_isRest_l2 M g (nI c) (nI (f + 1)) else some 0) else some 0) := fun g => by
      rw [fX1_isRest_l2.eq_2, nl8, le_f hf (by decide), bnd_r, bnd_r, and7 c hc, and56 c hc, pk_mul, nI_add, nI_add]
      simp (disch := omega) only [nl2, nl1, pk_mul, nI_add, gd_inb, ix_nI]
      rw [(h0 (8 * f + c % 8) (by omega)).1, (h0 c hc).1, (h0 (c / 8 * 8 + f) (by omega)).2, (h0 c hc).2]
    by_cases c1 : p0 (8 * f + c % 8) ≤ p0 c
    · by_cases c2 : p1 (c / 8 * 8 + f) ≤ p1 c
      · refine Or.inl ⟨f + 1, ⟨rfl, ?_⟩, fun _ g => by rw [head g, le_t c1 (by omega), le_t c2 (by omega)]⟩
        rw [allN, hn, decide_eq_true c1, decide_eq_true c2]
        rfl
      · refine Or.inr ⟨0, ?_, fun _ g => by rw [head g, le_t c1 (by omega), le_f (by omega) (by omega)]⟩
        cases z : rsB p0 p1 c with
        | false => rfl
        | true =>
          have := allN_iff.mp z f hf
          rw [decide_eq_false c2, Bool.and_false] at this
          cases this
    · refine Or.inr ⟨0, ?_, fun _ g => by rw [head g, le_f (by omega) (by omega)]⟩
      cases z : rsB p0 p1 c with
      | false => rfl
      | true =>
        have := allN_iff.mp z f hf
        rw [decide_eq_false c1, Bool.false_and] at this
        cases this
  · rintro f ⟨rfl, hn⟩
    refine ⟨1, ?_, fun _ g => ?_⟩
    · show 1 = bI (rsB p0 p1 c)
      rw [show rsB p0 p1 c = true from hn, bI_t]
    · show fX1_isRest_l2 M (g + 1) (nI c) (nI 8) = _
      rw [fX1_isRest_l2.eq_2, nl8, le_t (Nat.le_refl _) (by decide)]
theorem isRest_ref {M : MM} {p0 p1 : Nat → Nat} (h0 : ∀ c, c < 64 → gI M 109 c = nI (p0 c) ∧ gI M 109 (64 + c) = nI (p1 c)) (hb : ∀ c, p0 c ≤ 64 ∧ p1 c ≤ 64) {c : Nat} (hc : c < 64) : fX12_isRest M (nI c) = some (bI (rsB p0 p1 c)) := by
  have ed : nI c / 8 = nI (c / 8) := pk_div (d := 8) (by omega) (by decide) (by decide)
  have er : nI c - nI c / 8 * 8 = nI (c % 8) := pk_rem (d := 8) (by omega) (by decide) (by decide)
  have key := lpk (κ := Unit) (σ := Nat) (fun _ f st => fX12_isRest_l4 M f (nI c) (bI (allN (fun f => decide (p0 (8 * f + c % 8) ≤ p0 c) && decide (p1 (c / 8 * 8 + f) ≤ p1 c)) st)) (nI st)) (fun _ (_ : Unit) => some (bI (rsB p0 p1 c))) 8
    (fun i st => i = st) (fun _ => True) ?_ ?_ FU 0 0 (by omega) (by decide) rfl
  · obtain ⟨_, -, h⟩ := key
    exact h ()
  · rintro f f2 hf rfl
    left
    have m1 := (hb (8 * f + c % 8)).1
    have m2 := (hb c).1
    have m3 := (hb (c / 8 * 8 + f)).2
    have m4 := (hb c).2
    refine ⟨f + 1, rfl, fun _ g => ?_⟩
    show fX12_isRest_l4 M (g + 1) (nI c) (bI (allN (fun f => decide (p0 (8 * f + c % 8) ≤ p0 c) && decide (p1 (c / 8 * 8 + f) ≤ p1 c)) f)) (nI f) = fX12_isRest_l4 M g (nI c) (bI (allN (fun f => decide (p0 (8 * f + c % 8) ≤ p0 c) && decide (p1 (c / 8 * 8 + f) ≤ p1 c)) f && (decide (p0 (8 * f + c % 8) ≤ p0 c) && decide (p1 (c / 8 * 8 + f) ≤ p1 c)))) (nI (f + 1))
    rw [fX12_isRest_l4.eq_2, nl8, le_f hf (by decide)]
    unfold fX12_isRest_j70 fX12_isRest_j71
    rw [show nI 8 = (8 : Int32) from rfl, er, ed, nI_1]
    have e1 : gI M 109 (8 * f + c % 8) = nI (p0 (8 * f + c % 8)) := (h0 _ (by omega)).1
    have e2 : gI M 109 (64 + c / 8 * 8 + f) = nI (p1 (c / 8 * 8 + f)) := by rw [Nat.add_assoc]; exact (h0 _ (by omega)).2
    simp (disch := omega) only [nl8, nl64, pk_mul, nI_add, gd_inb, ix_nI, e1, e2, (h0 c hc).1, (h0 c hc).2]
    cases allN (fun f => decide (p0 (8 * f + c % 8) ≤ p0 c) && decide (p1 (c / 8 * 8 + f) ≤ p1 c)) f with
    | false => rw [bI_f, if_pos rfl, Bool.false_and]; rfl
    | true =>
      rw [bI_t, if_neg i10, Bool.true_and]
      by_cases c1 : p0 (8 * f + c % 8) ≤ p0 c
      · rw [lt_f c1 (by omega), decide_eq_true c1, Bool.true_and]
        by_cases c2 : p1 (c / 8 * 8 + f) ≤ p1 c
        · rw [lt_f c2 (by omega), decide_eq_true c2]; rfl
        · rw [lt_t (by omega) (by omega), decide_eq_false c2]; rfl
      · rw [lt_t (by omega) (by omega), decide_eq_false c1, Bool.false_and]; rfl
  · rintro f rfl
    refine ⟨(), trivial, fun _ g => ?_⟩
    show fX12_isRest_l4 M (g + 1) (nI c) _ (nI 8) = _
    rw [fX12_isRest_l4.eq_2, nl8, le_t (Nat.le_refl _) (by decide), gd_t (by cases allN (fun f => decide (p0 (8 * f + c % 8) ≤ p0 c) && decide (p1 (c / 8 * 8 + f) ≤ p1 c)) 8 <;> decide)]
    rfl
theorem findRest_cls {M : MM} {B : Nat → Bool} (hB : ∀ c, c < 64 → fX1_isRest M (nI c) = some (bI (B c))) (x : Int32) : ∀ n c m f, c + n = 64 → n < f → fX1_findRest_l4 M (fun y11 y12 => (if y11 = (-1) then some y12 else some (-1))) f x (nI m) (nI c) = some (frS B x n c m) := by
  intro n
  induction n with
  | zero =>
    intro c m f hc hf
    obtain ⟨f, rfl⟩ : ∃ g, f = g + 1 := ⟨f - 1, by omega⟩
    rw [fX1_findRest_l4.eq_2, nl64, le_t (by omega) (by omega), frS]
    by_cases z : x = -1
    · rw [if_pos z, if_pos z]
    · rw [if_neg z, if_neg z]
  | succ n ih =>
    intro c m f hc hf
    obtain ⟨f, rfl⟩ : ∃ g, f = g + 1 := ⟨f - 1, by omega⟩
    rw [fX1_findRest_l4.eq_2, nl64, le_f (by omega) (by decide), hB c (by omega), bd_s, frS, nI_1]
    cases B c with
    | false => rw [bI_f, if_pos rfl, if_neg (show ¬ false = true by decide)]; exact ih (c + 1) m f (by omega) (by omega)
    | true =>
      rw [bI_t, if_neg i10, if_pos rfl, nI_1]
      by_cases z : nI m = x
      · rw [if_pos z, if_pos z]
      · rw [if_neg z, if_neg z]; exact ih (c + 1) (m + 1) f (by omega) (by omega)
theorem findRest_ref {M : MM} {B : Nat → Bool} (hB : ∀ c, c < 64 → fX12_isRest M (nI c) = some (bI (B c))) (x : Int32) : ∀ n c m f, c + n = 64 → n < f → fX12_rest_l60 (fun M30 y31 y32 => (if y31 = (-1) then some (y32, M30) else some ((-1), M30))) f M x (nI m) (nI c) = some (frS B x n c m, M) := by
  intro n
  induction n with
  | zero =>
    intro c m f hc hf
    obtain ⟨f, rfl⟩ : ∃ g, f = g + 1 := ⟨f - 1, by omega⟩
    rw [fX12_rest_l60.eq_2, nl64, le_t (by omega) (by omega), frS]
    by_cases z : x = -1
    · rw [if_pos z, if_pos z]
    · rw [if_neg z, if_neg z]
  | succ n ih =>
    intro c m f hc hf
    obtain ⟨f, rfl⟩ : ∃ g, f = g + 1 := ⟨f - 1, by omega⟩
    rw [fX12_rest_l60.eq_2, nl64, le_f (by omega) (by decide), hB c (by omega), bd_s, frS, nI_1]
    cases B c with
    | false => rw [bI_f, if_pos rfl, if_neg (show ¬ false = true by decide)]; exact ih (c + 1) m f (by omega) (by omega)
    | true =>
      rw [bI_t, if_neg i10, if_pos rfl, nI_1]
      by_cases z : nI m = x
      · rw [if_pos z, if_pos z]
      · rw [if_neg z, if_neg z]; exact ih (c + 1) (m + 1) f (by omega) (by omega)
theorem prS_le {S : SCN} (hS : SW S) {L : Nat → Nat} {a b w : Nat} (c : Nat) (hc : c < 64) : prS S L a b w c ≤ 64 := totS_le (setF_SW (setF_SW hS (by omega)) (by omega)) _ _ _
/-- a prize, 0 beyond the couples -/
def prB (S : SCN) (L : Nat → Nat) (a b w c : Nat) : Nat := if c < 64 then prS S L a b w c else 0
theorem prB_le {S : SCN} (hS : SW S) {L : Nat → Nat} {a b w : Nat} (c : Nat) : prB S L a b w c ≤ 64 := by
  unfold prB
  split
  · exact prS_le hS c (by assumption)
  · omega
theorem play_loop {M : MM} {S : SCN} {a1 al a b : Nat} {L : Nat → Nat} (hB : BS M S aT) (hL : CLw M al L) (ha : a < cS S) (hb : b < cS S) (hne : a ≠ b) : ∃ M2, (Fr cL M M2 ∧ BN M2 ∧ ∀ c, c < 64 → gI M2 82 (2 * c) = nI (prB S L a b 0 c) ∧ gI M2 82 (2 * c + 1) = nI (prB S L a b 1 c)) ∧ ∀ _k : Unit, fX1_playGame_l36 a1 al FU M (nI a) (nI b) (nI 0) = some M2 := by
  refine lpk (κ := Unit) (σ := MM × Nat) (fun _ f st => fX1_playGame_l36 a1 al f st.1 (nI a) (nI b) (nI st.2)) (fun _ M2 => some M2) 64
    (fun c st => c = st.2 ∧ Fr cL M st.1 ∧ (∃ x y, BS st.1 (setF (setF S a x) b y) aT) ∧ ∀ d, d < c → gI st.1 82 (2 * d) = nI (prB S L a b 0 d) ∧ gI st.1 82 (2 * d + 1) = nI (prB S L a b 1 d)) _ ?_ ?_ FU 0 (M, 0) (by omega) (by decide) ⟨rfl, Fr.rfl, ⟨cSh S a 2, cSh S b 2, by rw [setF_id, setF_id]; exact hB⟩, fun d hd => absurd hd (Nat.not_lt_zero d)⟩
  · rintro c ⟨M1, c2⟩ hc ⟨rfl, hF, ⟨x, y, b1⟩, b2⟩
    left
    simp only [] at hF b1 b2
    obtain ⟨M2, d1, d2, d3, d4⟩ := couple_cls b1 (CLw_fr hL hF (by decide)) (a := a) (b := b) ha hb hc
    rw [cp_any hne] at d3 d4
    have e0 : prB S L a b 0 c = totS (setF (setF S a (c / 8)) b (c % 8)) (L 0) L 0 := by unfold prB; rw [if_pos hc]; rfl
    have e1 : prB S L a b 1 c = totS (setF (setF S a (c / 8)) b (c % 8)) (L 0) L 1 := by unfold prB; rw [if_pos hc]; rfl
    have f3 : Fr [82] M2 (sI (sI M2 82 (2 * c) (gI M2 71 0)) 82 (2 * c + 1) (gI (sI M2 82 (2 * c) (gI M2 71 0)) 71 1)) := (Fr.rfl.pI (by decide)).pI (by decide)
    refine ⟨(sI (sI M2 82 (2 * c) (gI M2 71 0)) 82 (2 * c + 1) (gI (sI M2 82 (2 * c) (gI M2 71 0)) 71 1), c + 1), ⟨rfl, (hF.trans (d2.mono (by decide))).trans (f3.mono (by decide)), ⟨_, _, BS_fr d3 f3 (by decide)⟩, fun d hd => ?_⟩, fun _ f => ?_⟩
    · show gI (sI (sI M2 82 (2 * c) (gI M2 71 0)) 82 (2 * c + 1) (gI (sI M2 82 (2 * c) (gI M2 71 0)) 71 1)) 82 (2 * d) = _ ∧ gI (sI (sI M2 82 (2 * c) (gI M2 71 0)) 82 (2 * c + 1) (gI (sI M2 82 (2 * c) (gI M2 71 0)) 71 1)) 82 (2 * d + 1) = _
      by_cases e : d = c
      · rw [e, gI_nk _ _ _ _ _ _ (show 2 * c ≠ 2 * c + 1 by omega), gI_eq, gI_eq, gI_ne _ _ _ _ _ _ (by decide), d4 0 (by decide), d4 1 (by decide), e0, e1]
        exact ⟨rfl, rfl⟩
      · obtain ⟨g1, g2⟩ := b2 d (by omega)
        rw [gI_nk _ _ _ _ _ _ (show 2 * d ≠ 2 * c + 1 by omega), gI_nk _ _ _ _ _ _ (show 2 * d ≠ 2 * c by omega), gI_nk _ _ _ _ _ _ (show 2 * d + 1 ≠ 2 * c + 1 by omega), gI_nk _ _ _ _ _ _ (show 2 * d + 1 ≠ 2 * c by omega), d2.gi (by decide), d2.gi (by decide)]
        exact ⟨g1, g2⟩
    · show fX1_playGame_l36 a1 al (f + 1) M1 (nI a) (nI b) (nI c) = _
      rw [fX1_playGame_l36.eq_2, nl64, le_f hc (by decide), d1, bd_s, nl2, pk_mul, nI_1, gd_inb (by omega) (by decide), ix_nI (by omega), bnd_r, gd_inb (by omega) (by decide), ix_nI (by omega), bnd_r, nI_1]
      rfl
  · rintro ⟨M1, c2⟩ ⟨rfl, hF, ⟨x, y, b1⟩, b2⟩
    refine ⟨M1, ⟨hF, BS_BN b1, b2⟩, fun _ f => ?_⟩
    show fX1_playGame_l36 a1 al (f + 1) M1 (nI a) (nI b) (nI 64) = _
    rw [fX1_playGame_l36.eq_2, nl64, le_t (Nat.le_refl _) (by decide)]
theorem prizes_ref {M : MM} {o l0 a b : Nat} {P : PARD} {S : SCN} {L : Nat → Nat} (hM : MS M o P S) (hL : ML M l0 L (L 0)) (ha : lsS S 0 = some a) (hb : lsS S 1 = some b) (x : Int32) : ∃ M2, (Fr rL M M2 ∧ ∀ c, c < 64 → gI M2 109 c = nI (prB S L a b 0 c) ∧ gI M2 109 (64 + c) = nI (prB S L a b 1 c)) ∧ ∀ k : MM → Int32 → Option (Int32 × MM), fX12_rest_l19 k FU M x (nI 0) = k M2 x := by
  have hne := game_ab ha hb
  have key := lpk (κ := MM → Int32 → Option (Int32 × MM)) (σ := MM × Nat) (fun k f st => fX12_rest_l19 k f st.1 x (nI st.2)) (fun k M2 => k M2 x) 128
    (fun c st => c = st.2 ∧ Fr rL M st.1 ∧ (∃ u v, MS st.1 o P (setF (setF S a u) b v)) ∧ ML st.1 l0 L (L 0) ∧ ∀ d, d < c → gI st.1 109 d = nI (prB S L a b (d / 64) (d % 64))) (fun M2 => Fr rL M M2 ∧ ∀ c, c < 64 → gI M2 109 c = nI (prB S L a b 0 c) ∧ gI M2 109 (64 + c) = nI (prB S L a b 1 c)) ?_ ?_ FU 0 (M, 0) (by omega) (by decide) ⟨rfl, Fr.rfl, ⟨cSh S a 2, cSh S b 2, by rw [setF_id, setF_id]; exact hM⟩, hL, fun d hd => absurd hd (Nat.not_lt_zero d)⟩
  · exact key
  · rintro c ⟨M1, c2⟩ hc ⟨rfl, hF, ⟨u, v, b1⟩, b2, b3⟩
    left
    simp only [] at hF b1 b2 b3
    have ha1 : lsS (setF (setF S a u) b v) 0 = some a := by rw [ls_setF, ls_setF]; exact ha
    have hb1 : lsS (setF (setF S a u) b v) 1 = some b := by rw [ls_setF, ls_setF]; exact hb
    obtain ⟨M2, r1, r2, r3, r4, r5⟩ := prizeOf_ref b1 b2 ha1 hb1 (c := c % 64) (who := c / 64) (by omega) (by omega)
    rw [cp_any hne] at r1 r4
    have ed : nI c / 64 = nI (c / 64) := pk_div (d := 64) (by omega) (by decide) (by decide)
    have er : nI c - nI c / 64 * 64 = nI (c % 64) := pk_rem (d := 64) (by omega) (by decide) (by decide)
    have ep : prB S L a b (c / 64) (c % 64) = totS (setF (setF S a (c % 64 / 8)) b (c % 64 % 8)) (L 0) L (c / 64) := by unfold prB; rw [if_pos (by omega)]; rfl
    rw [← ep] at r1
    have f3 : Fr [109] M2 (sI M2 109 c (nI (prB S L a b (c / 64) (c % 64)))) := Fr.rfl.pI (by decide)
    refine ⟨(sI M2 109 c (nI (prB S L a b (c / 64) (c % 64))), c + 1), ⟨rfl, (hF.trans r2).trans (f3.mono (by decide)), ⟨_, _, MS_fr r4 f3 (by decide)⟩, ML_fr r5 f3 (by decide) (by decide), fun d hd => ?_⟩, fun k f => ?_⟩
    · show gI (sI M2 109 c _) 109 d = _
      by_cases e : d = c
      · rw [e, gI_eq]
      · rw [gI_nk _ _ _ _ _ _ e, r3.gi (by decide)]; exact b3 d (by omega)
    · show fX12_rest_l19 k (f + 1) M1 x (nI c) = _
      rw [fX12_rest_l19.eq_2, show (128 : Int32) = nI 128 from rfl, le_f hc (by decide), er, ed, r1, bd_s, gd_inb hc (by decide), ix_nI (by omega), bnd_r, nI_1]
  · rintro ⟨M1, c2⟩ ⟨rfl, hF, b1, b2, b3⟩
    simp only [] at b3
    refine ⟨M1, ⟨hF, fun c hc => ⟨?_, ?_⟩⟩, fun k f => ?_⟩
    · have := b3 c (by omega)
      rw [show c / 64 = 0 by omega, show c % 64 = c by omega] at this
      exact this
    · have := b3 (64 + c) (by omega)
      rw [show (64 + c) / 64 = 1 by omega, show (64 + c) % 64 = c by omega] at this
      exact this
    · show fX12_rest_l19 k (f + 1) M1 x (nI 128) = _
      rw [fX12_rest_l19.eq_2, if_pos (by decide)]
theorem e19 : E19 Inv := by
  intro K M x1 x2 x3 hI
  refine pl_case (v := -1) hI (C := fX11_rest M x1 x2 x3) (R := fun M1 => fX12_rest M1 x1 x2 x3) rfl (fun M1 => players_R M1 x1 x2 (-1) _) ?_
  intro T j l hW hC hM hB hj hl e1 e2
  have hP := hW.2.2.2.1 j hj
  have hSW := scn_SW hP
  have hs8 : cS (scnOf (tPar T j)) ≤ 8 := hSW.2.2.2.1
  by_cases hg : lsS (scnOf (tPar T j)) 0 = none ∨ lsS (scnOf (tPar T j)) 1 = none
  · refine ⟨-1, M, by rw [game_no hC hW hj hg, bd_s, if_pos rfl], Fr.rfl, hB, fun M3 _ hS _ => ⟨M3, ?_, Fr.rfl⟩⟩
    rw [plT_no hS hg, bd_s, if_pos rfl]
  · obtain ⟨a, ha⟩ : ∃ a, lsS (scnOf (tPar T j)) 0 = some a := by
      cases h : lsS (scnOf (tPar T j)) 0 with
      | none => exact absurd (Or.inl h) hg
      | some a => exact ⟨a, rfl⟩
    obtain ⟨b, hb⟩ : ∃ b, lsS (scnOf (tPar T j)) 1 = some b := by
      cases h : lsS (scnOf (tPar T j)) 1 with
      | none => exact absurd (Or.inr h) hg
      | some a => exact ⟨a, rfl⟩
    have la := (ls_lt ha).1
    have lb := (ls_lt hb).1
    rw [game_yes hC hW hj ha hb, bd_s, if_neg i10]
    by_cases hx : (-1 : Int32) ≤ x3
    · rw [if_pos hx]
      obtain ⟨M1, a1, a2, a3, a4, -⟩ := par_beg hW hC hB hj
      obtain ⟨l0', l1'⟩ := par_least hW hC hj a2 ha hb
      obtain ⟨M2, ⟨d1, d2, d3⟩, d4⟩ := play_loop (a1 := 1 + (6 + 16 * j)) a3 (CLw_fr (told_law hC hW hl) a2 (by decide)) la lb (game_ab ha hb)
      have hpb : ∀ c, prB (scnOf (tPar T j)) (tLaw T l) a b 0 c ≤ 64 ∧ prB (scnOf (tPar T j)) (tLaw T l) a b 1 c ≤ 64 := fun c => ⟨prB_le hSW c, prB_le hSW c⟩
      refine ⟨frS (rsB (prB (scnOf (tPar T j)) (tLaw T l) a b 0) (prB (scnOf (tPar T j)) (tLaw T l) a b 1)) x3 64 0 0, M2, ?_, a2.trans d1, d2, fun M3 _ hS hL => ?_⟩
      · unfold fX1_playGame fX1_findRest
        rw [a1, bd_s, l0', bd_s, l1', bd_s, m1_iff (by omega), m1_iff (by omega)]
        show ((fX1_playGame_l36 (1 + (6 + 16 * j)) (1 + (15 + 16 * l)) FU M1 (nI a) (nI b) (nI 0)).bind _) = _
        rw [d4 (), bd_s]
        show ((fX1_findRest_l4 M2 _ FU x3 (nI 0) (nI 0)).bind _) = _
        rw [findRest_cls (fun c hc => isRest_cls d3 hpb hc) x3 64 0 0 FU (by omega) (by decide)]
        rfl
      · obtain ⟨M4, ⟨r1, r2⟩, r3⟩ := prizes_ref hS hL ha hb x3
        refine ⟨M4, ?_, r1⟩
        rw [plT_yes hS ha hb, bd_s, if_neg i10, if_pos hx]
        refine (r3 _).trans ?_
        exact findRest_ref (fun c hc => isRest_ref r2 hpb hc) x3 64 0 0 FU (by omega) (by decide)
    · refine ⟨-1, M, by rw [if_neg hx], Fr.rfl, hB, fun M3 _ hS _ => ⟨M3, ?_, Fr.rfl⟩⟩
      rw [plT_yes hS ha hb, bd_s, if_neg i10, if_neg hx]
