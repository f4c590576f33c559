theorem tail_small {M : MM} {X : FST} {V : Int32} {N n i : Nat} (hi : i < 5) (hn : n ≤ 8) (hN : N ≤ 8) (hV : V = nI (2 ^ N - 1)) (h13 : gI M 90 13 = nI N) (h14 : gI M 90 14 = nI n) (hal : ∀ k, k < 80 → gI M 114 k = nI (X.2.2.2.2.2 k)) (hm : ∀ k, X.2.2.2.2.2 k ≤ 256) (hc : X.1 ≤ 256) :
    (if nI i = 0 then some (nI X.1, M) else (if nI i = 1 then (if nI X.1 = 0 then some ((-1), M) else some (X.2.1, M)) else (if nI i = 2 then (if nI X.1 = 0 then some ((-1), M) else some (((jshl 1 (gI M 90 13)) - 1) &&& (X.2.2.1 ^^^ (-1)), M)) else (if nI i = 3 then some (opI X.2.2.2.1, M) else (if nI i = 4 then (fX12_next M (nI X.1)).bind (fun p160 => some (p160, M)) else (some ((-2), M))))))) = some (fitA X V n i, M) := by
  have hp := p8 hN
  have hp0 : 0 < 2 ^ N := Nat.pow_pos (by decide)
  have hv : jshl 1 (gI M 90 13) - 1 = V := by rw [h13, shl_nI (by omega), nl1, pk_sub (by omega), hV]
  have ne : ∀ {k : Nat} {α : Type} {x y : α}, k < 5 → i ≠ k → (if nI i = nI k then x else y) = y := fun hk h => eqn_f h (by omega) (by omega)
  have c0 : ∀ {α : Type} {x y : α}, (if nI X.1 = 0 then x else y) = if X.1 = 0 then x else y := fun {α x y} => by
    by_cases z : X.1 = 0
    · rw [if_pos z, if_pos (by rw [z]; rfl)]
    · rw [if_neg z, if_neg (fun q => z ((nI_eq (by omega) (by decide)).mp (q.trans nl0)))]
  unfold fX12_next fitA
  rw [hv, c0, c0, c0, nxt_ref hn h14 hal hm]
  rcases (show i = 0 ∨ i = 1 ∨ i = 2 ∨ i = 3 ∨ i = 4 by omega) with rfl | rfl | rfl | rfl | rfl
  · rfl
  · rw [if_neg (by decide), if_pos (by rfl)]
    by_cases z : X.1 = 0
    · rw [if_pos z, if_pos z]; rfl
    · rw [if_neg z, if_neg z]; rfl
  · rw [if_neg (by decide), if_neg (by decide), if_pos (by rfl)]
    by_cases z : X.1 = 0
    · rw [if_pos z, if_pos z]; rfl
    · rw [if_neg z, if_neg z]; rfl
  · rfl
  · rw [if_neg (by decide), if_neg (by decide), if_neg (by decide), if_neg (by decide), if_pos (by rfl)]
    by_cases z : X.1 = 0
    · rw [if_pos z, if_pos z]; rfl
    · rw [if_neg z, if_neg z]; rfl
theorem MS_41 {M : MM} {o : Nat} {P : PARD} {S : SCN} (h : MS M o P S) (v : Int32) : MS (sI M 90 41 v) o P S := MS_gen h (fun k hk => gI_nk _ _ _ _ _ _ (by omega)) (fun c k hc => gI_ne _ _ _ _ _ _ (by omega))
theorem e23 : E23 Inv := by
  intro K M x1 x2 x3 x4 hI
  obtain ⟨vS, hvS⟩ : ∃ v, fX9_sightAt M x3 = some v := by
    obtain ⟨-, T, I, hW, hC, -, -, -⟩ := id hI
    rcases num_cases hW (s := 3) (by decide) x3 with h | ⟨k, hk, -, rfl⟩
    · exact ⟨_, sightAt_no hC hW h⟩
    · exact ⟨_, sightAt_yes hC hW hk⟩
  refine pl_case (v := -2) hI (C := fX11_fits M x1 x2 x3 x4) (R := fun M1 => fX12_fits M1 x1 x2 x3 x4) (F := fun a8 a11 => (fX9_sightAt M x3).bind (fun p5 => match p5 with
      | none => some ((-2), M)
      | some a14 => (if x4 < 0 then some ((-2), M) else (if x4 ≤ 4 then fX11_fits_j69 M x4 a8 a11 a14 else (if 10 ≤ x4 then fX11_fits_j69 M x4 a8 a11 a14 else some ((-2), M)))))) ?_ (fun _ => rfl) ?_
  · unfold fX11_fits
    refine congrArg (Option.bind (fX9_parishAt M x1)) (funext fun p1 => congrArg (Option.bind (fX9_lawAt M x2)) (funext fun p3 => ?_))
    rw [hvS]
    cases p1 <;> cases p3 <;> rfl
  intro T j l hW hC hM hB hj hl e1 e2
  have hP := hW.2.2.2.1 j hj
  rcases num_cases hW (s := 3) (by decide) x3 with h | ⟨k, hk, hk2, rfl⟩
  · refine ⟨-2, M, by rw [sightAt_no hC hW h]; rfl, Fr.rfl, hB, fun M3 hF hS hL => ⟨M3, ?_, Fr.rfl⟩⟩
    show (fX12_isOf M3 3 x3).bind _ = _
    rw [show fX12_isOf M3 3 x3 = some 0 from isOf_no (fr_MT hW hM hF (by decide)) hW (s := 3) (by decide) h]
    rfl
  · rw [sightAt_yes hC hW hk]
    show ∃ r M1, (if x4 < 0 then some ((-2), M) else (if x4 ≤ 4 then fX11_fits_j69 M x4 (1 + (6 + 16 * j)) (1 + (15 + 16 * l)) (1 + (20 + 16 * k)) else (if 10 ≤ x4 then fX11_fits_j69 M x4 (1 + (6 + 16 * j)) (1 + (15 + 16 * l)) (1 + (20 + 16 * k)) else some ((-2), M)))) = some (r, M1) ∧ _
    have refHead : ∀ M3 (r : Int32 × MM), MT M3 0 T → ∀ G : Int32 × MM → Option (Int32 × MM), True := fun _ _ _ _ => trivial
    clear refHead
    by_cases c0 : x4 < 0
    · refine ⟨-2, M, by rw [if_pos c0], Fr.rfl, hB, fun M3 hF hS hL => ⟨M3, ?_, Fr.rfl⟩⟩
      show (fX12_isOf M3 3 (nI k)).bind _ = _
      rw [show fX12_isOf M3 3 (nI k) = some 1 from isOf_yes (fr_MT hW hM hF (by decide)) hW (s := 3) (by decide) hk, bd_s, if_neg i10]
      exact if_pos c0
    · have hx0 : 0 ≤ x4.toInt := by rw [Int32.lt_iff_toInt_lt, show (0 : Int32).toInt = 0 by decide] at c0; omega
      rw [if_neg c0]
      by_cases cm : 4 < x4.toInt ∧ x4.toInt < 10
      · have d1 : ¬ x4 ≤ 4 := by rw [Int32.le_iff_toInt_le, show (4 : Int32).toInt = 4 by decide]; omega
        have d2 : ¬ (10 : Int32) ≤ x4 := by rw [nl10, le_toInt (by decide)]; omega
        refine ⟨-2, M, by rw [if_neg d1, if_neg d2], Fr.rfl, hB, fun M3 hF hS hL => ⟨M3, ?_, Fr.rfl⟩⟩
        show (fX12_isOf M3 3 (nI k)).bind _ = _
        rw [show fX12_isOf M3 3 (nI k) = some 1 from isOf_yes (fr_MT hW hM hF (by decide)) hW (s := 3) (by decide) hk, bd_s, if_neg i10]
        show (if x4 < 0 then _ else _) = _
        rw [if_neg c0, isIn_t (show ¬ x4 < 5 by rw [nl5, lt_toInt (by decide)]; omega) (show ¬ 9 < x4 by rw [Int32.lt_iff_toInt_lt, show (9 : Int32).toInt = 9 by decide]; omega), if_neg i10]
      · obtain ⟨M1, a1, a2, a3, a4, a5⟩ := meas_all hW hC hB hj hl hk (x4 - 10)
        have hn := hP.2.2.2.1
        have hN := hP.2.2.1
        have hp := p8 hN
        obtain ⟨nb1, nb2⟩ := nsA_le (P := tPar T j) (L := tLaw T l) (sg := fun s => tSig T k (1 + s)) (sl := tSig T k 0) (w := x4 - 10) (V := nI (2 ^ pN (tPar T j) - 1)) (2 ^ pN (tPar T j))
        have hcl : (if x4 ≤ 4 then fX11_fits_j69 M x4 (1 + (6 + 16 * j)) (1 + (15 + 16 * l)) (1 + (20 + 16 * k)) else (if 10 ≤ x4 then fX11_fits_j69 M x4 (1 + (6 + 16 * j)) (1 + (15 + 16 * l)) (1 + (20 + 16 * k)) else some ((-2), M))) = (fX3_tell M1 x4).bind (fun p28 => some (p28, M1)) := by
          by_cases d1 : x4 ≤ 4
          · rw [if_pos d1]
            unfold fX11_fits_j69
            rw [a1]; rfl
          · have d2 : (10 : Int32) ≤ x4 := by
              rw [nl10, le_toInt (by decide)]
              rw [Int32.le_iff_toInt_le, show (4 : Int32).toInt = 4 by decide] at d1
              omega
            rw [if_neg d1, if_pos d2]
            unfold fX11_fits_j69
            rw [a1]; rfl
        rw [hcl]
        have hin : fX12_isIn x4 5 9 = 0 := isIn_f (by
          by_cases d : x4.toInt < 5
          · left; rw [nl5, lt_toInt (by decide)]; omega
          · right; rw [Int32.lt_iff_toInt_lt, show (9 : Int32).toInt = 9 by decide]; omega)
        have ref : ∀ M3, Fr rL M1 M3 → MS M3 (610 + 124 * j) (tPar T j) (scnOf (tPar T j)) → ML M3 (858 + 6 * l) (tLaw T l) (tLaw T l 0) → ∃ M4 : MM, MS M4 (610 + 124 * j) (tPar T j) (scnOf (tPar T j)) ∧ ML M4 (858 + 6 * l) (tLaw T l) (tLaw T l 0) ∧ SGm M4 (1112 + 9 * k) (tSig T k 0) (fun s => tSig T k (1 + s)) ∧ (∀ k, k < 80 → gI M4 114 k = 0) ∧ Fr rL M3 M4 ∧ (((fX12_isOf M3 3 (nI k)).bind (fun p4 => (if p4 = 0 then some ((-2), M3) else (if x4 < 0 then some ((-2), M3) else (if (fX12_isIn x4 5 9) = 0 then bnd (sI M3 90 41 (fX12_placeOf 3 (nI k))) (fun M9 => bnd ((jshl 1 (gI M9 90 13)) - 1) (fun v11 => fX12_fits_l68 (fun M30 y31 y32 y33 y34 y35 => fX12_fits_l92 (fun M147 y148 y149 y150 y151 y152 => (if y148 = 0 then some (y149, M147) else (if y148 = 1 then (if y149 = 0 then some ((-1), M147) else some (y150, M147)) else (if y148 = 2 then (if y149 = 0 then some ((-1), M147) else some (((jshl 1 (gI M147 90 13)) - 1) &&& (y151 ^^^ (-1)), M147)) else (if y148 = 3 then some (y152, M147) else (if y148 = 4 then (fX12_next M147 y149).bind (fun p160 => some (p160, M147)) else (some ((-2), M147)))))))) FU M30 y31 y32 y33 y34 y35 0) FU M9 x4 0 v11 0 (-1) 0)) else some ((-2), M3)))))) = fX12_fits_l92 (fun M147 y148 y149 y150 y151 y152 => (if y148 = 0 then some (y149, M147) else (if y148 = 1 then (if y149 = 0 then some ((-1), M147) else some (y150, M147)) else (if y148 = 2 then (if y149 = 0 then some ((-1), M147) else some (((jshl 1 (gI M147 90 13)) - 1) &&& (y151 ^^^ (-1)), M147)) else (if y148 = 3 then some (y152, M147) else (if y148 = 4 then (fX12_next M147 y149).bind (fun p160 => some (p160, M147)) else (some ((-2), M147)))))))) FU M4 x4 0 (nI (2 ^ pN (tPar T j) - 1)) 0 (-1) 0) := by
          intro M3 hF hS hL
          have hMT3 := fr_MT hW (fr_MT hW hM a2 (by decide)) hF (by decide)
          have hS9 := MS_41 hS (nI (1112 + 9 * k))
          have hL9 : ML (sI M3 90 41 (nI (1112 + 9 * k))) (858 + 6 * l) (tLaw T l) (tLaw T l 0) := ML_gen hL (gI_nk _ _ _ _ _ _ (by decide)) (gI_nk _ _ _ _ _ _ (by decide)) (fun i => gI_ne _ _ _ _ _ _ (by decide))
          obtain ⟨M4, ⟨b1, b2⟩, b3⟩ := alike0 (M := sI M3 90 41 (nI (1112 + 9 * k))) (x1 := x4) (x2 := 0) (x3 := nI (2 ^ pN (tPar T j) - 1)) (x4 := 0) (x5 := -1)
          have hsg : ∀ i, i < 9 → gI M4 91 (1112 + 9 * k + i) = nI (tSig T k i) := fun i hi => by
            have := hMT3.2.2.2.2.2.2.2.2 k hk i hi
            rw [Nat.zero_add] at this
            rw [b1.gi (by decide), gI_ne _ _ _ _ _ _ (by decide)]; exact this
          have hb := hW.2.2.2.2.2.2 k hk
          refine ⟨M4, MS_fr hS9 b1 (by decide), ML_fr hL9 b1 (by decide) (by decide), ⟨by rw [b1.gi (by decide), gI_eq], by omega, by have := hsg 0 (by decide); rw [Nat.add_zero] at this; exact this, hb.1, fun s hs => ⟨by have := hsg (1 + s) (by omega); rw [← Nat.add_assoc] at this; exact this, hb.2 s hs⟩⟩, b2, (Fr.rfl.pI (by decide)).trans (b1.mono (by decide)), ?_⟩
          rw [show fX12_isOf M3 3 (nI k) = some 1 from isOf_yes hMT3 hW (s := 3) (by decide) hk, bd_s, if_neg i10, if_neg c0, hin, if_pos rfl, place3, bnd_r]
          have h13 : gI (sI M3 90 41 (nI (1112 + 9 * k))) 90 13 = nI (pN (tPar T j)) := hS9.2.2.2.2.2.2.2.1
          have hp0 : 0 < 2 ^ pN (tPar T j) := Nat.pow_pos (by decide)
          rw [h13, shl_nI (by omega), show nI (2 ^ pN (tPar T j)) - 1 = nI (2 ^ pN (tPar T j) - 1) by rw [nl1, pk_sub (by omega)], bnd_r]
          exact b3 _
        by_cases cb : x4.toInt < 10
        · obtain ⟨i, hi, ei⟩ : ∃ i : Nat, i < 5 ∧ x4 = nI i := by
            rcases rng x4 (n := 5) (by decide) with h | ⟨i, hi, e⟩
            · rcases h with h | h
              · exact absurd h c0
              · rw [le_toInt (by decide)] at h; omega
            · exact ⟨i, hi, e⟩
          subst ei
          have hne : ∀ c : Nat, c ≤ 256 → nI c ≠ nI i - 10 := fun c hc e => by
            have := w_iff.mpr e
            rw [nl10, nI_add] at this
            have := (nI_eq (by omega) (by omega)).mp this
            omega
          have hnone := fnd_no (P := tPar T j) (L := tLaw T l) (sg := fun s => tSig T k (1 + s)) (sl := tSig T k 0) (V := nI (2 ^ pN (tPar T j) - 1)) hne (2 ^ pN (tPar T j)) (by omega)
          refine ⟨_, M1, by rw [tell_cls hi hn a5 a4 (fun q => Nat.le_trans (nb2 q) (by omega)) (Nat.le_trans nb1 (by omega))]; rfl, a2, a3, fun M3 hF hS hL => ?_⟩
          obtain ⟨M4, r1, r2, r3, r4, r5, r6⟩ := ref M3 hF hS hL
          obtain ⟨⟨M5, fo⟩, ⟨t1, t2, t3⟩, t4⟩ := fits_all (x4 := nI i) (V := nI (2 ^ pN (tPar T j) - 1)) hP r1 r2 r3 r4
          simp only [] at t1 t2 t3 t4
          rw [hnone] at t2
          subst t2
          refine ⟨M5, ?_, r5.trans (t1.mono (by decide))⟩
          refine r6.trans ((t4 _).trans ?_)
          have h13 : gI M5 90 13 = nI (pN (tPar T j)) := by rw [t1.gi (by decide)]; exact r1.2.2.2.2.2.2.2.1
          have h14 : gI M5 90 14 = nI (pS (tPar T j)) := by rw [t1.gi (by decide)]; exact r1.2.2.2.2.2.2.2.2.1
          have := tail_small (M := M5) (X := fsN (tPar T j) (tLaw T l) (fun s => tSig T k (1 + s)) (tSig T k 0) (nI i - 10) (nI (2 ^ pN (tPar T j) - 1)) (2 ^ pN (tPar T j))) (i := i) hi hn hN rfl h13 h14 (t3 rfl) (fun q => Nat.le_trans (nb2 q) (by omega)) (Nat.le_trans nb1 (by omega))
          exact this
        · have h10 : (10 : Int32) ≤ x4 := by rw [nl10, le_toInt (by decide)]; omega
          refine ⟨_, M1, by rw [tell_big h10 a5]; rfl, a2, a3, fun M3 hF hS hL => ?_⟩
          obtain ⟨M4, r1, r2, r3, r4, r5, r6⟩ := ref M3 hF hS hL
          obtain ⟨⟨M5, fo⟩, ⟨t1, t2, t3⟩, t4⟩ := fits_all (x4 := x4) (V := nI (2 ^ pN (tPar T j) - 1)) hP r1 r2 r3 r4
          simp only [] at t1 t2 t3 t4
          refine ⟨M5, ?_, r5.trans (t1.mono (by decide))⟩
          refine r6.trans ((t4 _).trans ?_)
          rw [← t2]
          cases fo with
          | some g => rfl
          | none =>
            have ne : ∀ q : Nat, q < 10 → ¬ x4 = nI q := fun q hq e => by rw [e, nI_toInt (by omega)] at cb; omega
            simp only []
            rw [if_neg (show ¬ x4 = 0 from ne 0 (by decide)), if_neg (show ¬ x4 = 1 from ne 1 (by decide)), if_neg (show ¬ x4 = 2 from ne 2 (by decide)), if_neg (show ¬ x4 = 3 from ne 3 (by decide)), if_neg (show ¬ x4 = 4 from ne 4 (by decide))]
            rfl
