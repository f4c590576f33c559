/-! ===== what is told of a state ===== -/
theorem rem10 {i : Nat} (h : i < 1000) : nI i - nI i / 10 * 10 = nI (i % 10) := pk_rem (d := 10) (by omega) (by decide) (by decide)
theorem div10 {i : Nat} (h : i < 1000) : nI i / 10 = nI (i / 10) := pk_div (d := 10) (by omega) (by decide) (by decide)
theorem isIn_lit {i a b : Nat} (hi : i < 1000) (hb : b < 1000) (ha : a < 1000) : fX12_isIn (nI i) (nI a) (nI b) = if a ≤ i ∧ i ≤ b then 1 else 0 := by
  by_cases c : a ≤ i ∧ i ≤ b
  · rw [if_pos c]
    exact isIn_t (nI_nlt c.1 (by omega)) (nI_nlt c.2 (by omega))
  · rw [if_neg c]
    refine isIn_f ?_
    rcases Nat.lt_or_ge i a with z | z
    · exact Or.inl (nI_lt z (by omega))
    · exact Or.inr (nI_lt (by omega) (by omega))
theorem nowA {M3 : MM} {i : Nat} (b : i < 10) : fX12_nowOf M3 (nI i) = (if nI i = 0 then some (gI M3 90 33, M3) else (if nI i = 1 then (fX12_sum M3).bind (fun p22 => some (p22.1, p22.2)) else some ((-2), M3))) := by
  unfold fX12_nowOf
  rw [bnd_r, show fX12_isIn (nI i) 10 29 = if 10 ≤ i ∧ i ≤ 29 then 1 else 0 from isIn_lit (by omega) (by decide) (by decide), if_pos (show (if 10 ≤ i ∧ i ≤ 29 then (1 : Int32) else 0) = 0 from if_neg (by omega)), if_neg (show ¬ (10 : Int32) ≤ nI i from nI_ge (b := 10) b (by decide))]
theorem nowB {M3 : MM} {i : Nat} (b : 10 ≤ i) (c : i < 30) : fX12_nowOf M3 (nI i) = (fX12_isPerson M3 (nI (i % 10))).bind (fun p24 => (if p24 = 0 then some ((-2), M3) else (if 20 ≤ nI i then gd (inb (nI (i % 10)) 8) (some (gI M3 107 (ix (nI (i % 10))), M3)) else gd (inb (nI (i % 10)) 8) ((fX12_outside M3 (gI M3 94 (ix (nI (i % 10))))).bind (fun p30 => some (p30, M3)))))) := by
  unfold fX12_nowOf
  rw [bnd_r, rem10 (by omega), show fX12_isIn (nI i) 10 29 = if 10 ≤ i ∧ i ≤ 29 then 1 else 0 from isIn_lit (by omega) (by decide) (by decide), if_neg (show ¬ (if 10 ≤ i ∧ i ≤ 29 then (1 : Int32) else 0) = 0 by rw [if_pos (by omega)]; decide)]
theorem nowC {M3 : MM} {i : Nat} (b : 30 ≤ i) (c : i < 70) : fX12_nowOf M3 (nI i) = (fX12_isShine M3 (nI (i % 10))).bind (fun p6 => (if p6 = 0 then some ((-2), M3) else (fX12_laysOut M3).bind (fun p9 => (if (40 : Int32) ≤ nI i then (if (50 : Int32) ≤ nI i then (if (60 : Int32) ≤ nI i then (fX12_countOf p9 (nI (i % 10))).bind (fun p14 => some (p14, p9)) else gd (inb (nI (i % 10)) 8) ((if (gI p9 101 (ix (nI (i % 10)))) = 0 then some (0, p9) else some (1, p9)))) else gd (inb (nI (i % 10)) 8) (some (gI p9 108 (ix (nI (i % 10))), p9))) else gd (inb (nI (i % 10)) 8) (some (gI p9 98 (ix (nI (i % 10))), p9)))))) := by
  unfold fX12_nowOf
  rw [bnd_r, rem10 (by omega), show fX12_isIn (nI i) 10 29 = if 10 ≤ i ∧ i ≤ 29 then 1 else 0 from isIn_lit (by omega) (by decide) (by decide), show fX12_isIn (nI i) 30 69 = if 30 ≤ i ∧ i ≤ 69 then 1 else 0 from isIn_lit (by omega) (by decide) (by decide), if_pos (show (if 10 ≤ i ∧ i ≤ 29 then (1 : Int32) else 0) = 0 from if_neg (by omega)), if_pos (show (10 : Int32) ≤ nI i from nI_le (a := 10) (by omega) (by omega)), if_neg (show ¬ (if 30 ≤ i ∧ i ≤ 69 then (1 : Int32) else 0) = 0 by rw [if_pos (by omega)]; decide)]
theorem tell_both {M : MM} {a l0 o : Nat} {P : PARD} {L : Nat → Nat} {X : PLS} (h : PC M a L X) (hX : PX X) (x : Int32) : ∃ v : Int32, (∃ M2, fX6_tell M a x = some (v, M2) ∧ Fr [70, 77] M M2) ∧ ∀ M3, PM M3 o P l0 L X → ∃ M4, fX12_nowOf M3 x = some (v, M4) ∧ Fr [102, 103] M3 M4 := by
  obtain ⟨hB, hL, h62, h78, h79, h80⟩ := id h
  have hS := hB.1.1
  have h8 := hS.2.2.2.1
  have hn8 := hS.2.2.1
  unfold fX6_tell
  simp only [bnd_r]
  rcases cases3 x 70 (by decide) with q | q | ⟨i, hi, rfl⟩
  · have h9 := lt0_toInt.mp q
    have hx : ∀ n : Nat, n < 4 → ¬ x = nI n := fun n hn q => by rw [eq_toInt (by omega)] at q; omega
    have hlt : ∀ n : Nat, n < 100 → x < nI n := fun n hn => (lt_toInt (by omega)).mpr (by omega)
    have hge : ¬ nI 10 ≤ x := fun z => by rw [le_toInt (by decide)] at z; omega
    refine ⟨-2, ⟨M, ?_, Fr.rfl⟩, fun M3 _ => ⟨M3, ?_, Fr.rfl⟩⟩
    · rw [if_neg (show ¬ x = 0 from hx 0 (by decide)), if_neg (show ¬ x = 1 from hx 1 (by decide)), if_pos (show x < 10 from hlt 10 (by decide))]
    · unfold fX12_nowOf
      rw [bnd_r, isIn_f (Or.inl (show x < 10 from hlt 10 (by decide))), if_pos rfl, if_neg (show ¬ (10 : Int32) ≤ x from hge), if_neg (show ¬ x = 0 from hx 0 (by decide)), if_neg (show ¬ x = 1 from hx 1 (by decide))]
  · have h9 := (le_toInt (by decide)).mp q
    have hx : ∀ n : Nat, n < 4 → ¬ x = nI n := fun n hn q => by rw [eq_toInt (by omega)] at q; omega
    have hnl : ∀ n : Nat, n ≤ 70 → ¬ x < nI n := fun n hn q => by have := (lt_toInt (by omega)).mp q; omega
    have hgt : ∀ n : Nat, n < 70 → nI n < x := fun n hn => (gt_toInt (by omega)).mpr (by omega)
    have hge : nI 10 ≤ x := by rw [le_toInt (by decide)]; omega
    refine ⟨-2, ⟨M, ?_, Fr.rfl⟩, fun M3 _ => ⟨M3, ?_, Fr.rfl⟩⟩
    · rw [if_neg (show ¬ x = 0 from hx 0 (by decide)), if_neg (show ¬ x = 1 from hx 1 (by decide)), if_neg (show ¬ x < 10 from hnl 10 (by decide)), if_neg (show ¬ x < 70 from hnl 70 (by decide))]
    · unfold fX12_nowOf
      rw [bnd_r, isIn_f (Or.inr (show (29 : Int32) < x from hgt 29 (by decide))), if_pos rfl, if_pos (show (10 : Int32) ≤ x from hge), isIn_f (Or.inr (show (69 : Int32) < x from hgt 69 (by decide))), if_pos rfl]
  · rw [rem10 (by omega), div10 (by omega)]
    have h10 : i % 10 < 10 := Nat.mod_lt _ (by decide)
    rcases Nat.lt_or_ge i 10 with b | b
    · by_cases i0 : i = 0
      · subst i0
        rw [if_pos (show nI 0 = 0 from rfl)]
        exact ⟨nI X.2.1, ⟨M, by rw [h78], Fr.rfl⟩, fun M3 hM => ⟨M3, by rw [nowA b, if_pos (show nI 0 = 0 from rfl), hM.2.2.1], Fr.rfl⟩⟩
      · rw [eqz_f (by omega) (by omega)]
        by_cases i1 : i = 1
        · subst i1
          obtain ⟨M2, a1, a2, -⟩ := sum_cls hB hL
          rw [if_pos (show nI 1 = 1 from rfl)]
          refine ⟨nI (sumS X.1 (L 0) L), ⟨M2, by rw [a1]; rfl, a2⟩, fun M3 hM => ?_⟩
          obtain ⟨M4, b1, b2, -⟩ := sum_ref hM.1 hM.2.1
          exact ⟨M4, by rw [nowA b, if_neg (by decide), if_pos (show nI 1 = 1 from rfl), b1]; rfl, b2⟩
        · rw [nl1, eqn_f i1 (by omega) (by decide), if_pos (show nI i < (10 : Int32) from nI_lt (b := 10) b (by decide))]
          exact ⟨-2, ⟨M, rfl, Fr.rfl⟩, fun M3 _ => ⟨M3, by rw [nowA b, eqz_f (by omega) (by omega), nl1, eqn_f i1 (by omega) (by decide)], Fr.rfl⟩⟩
    · rw [eqz_f (by omega) (by omega), nl1, eqn_f (by omega) (by omega) (by decide), if_neg (show ¬ nI i < (10 : Int32) from nI_nlt (b := 10) b (by omega)), if_pos (show nI i < (70 : Int32) from nI_lt (b := 70) hi (by decide))]
      rcases Nat.lt_or_ge i 30 with c | c
      · rw [if_neg (show ¬ (2 : Int32) < nI (i / 10) from nI_nlt (a := 2) (by omega) (by omega))]
        rcases Nat.lt_or_ge (i % 10) (cN X.1) with d | d
        · rw [hasPerson_yes hB.1.2.2.2.2.1 (by omega) d, if_neg i10]
          obtain ⟨q, hq⟩ := hX.2.2 _ d
          have hin := hS.2.2.2.2.1 _ q d hq
          have hq64 := inP_64 hS.2.1.2 hin
          rcases Nat.lt_or_ge i 20 with f | f
          · refine ⟨nI (sqC (cW X.1) q), ⟨M, ?_, Fr.rfl⟩, fun M3 hM => ⟨M3, ?_, Fr.rfl⟩⟩
            · rw [eqn_t (by omega), gd_inb (by omega) (by decide), ix_nI (by omega), h62 _ q d hq]
            · rw [nowB b c, isPerson_yes hM.1 d, bd_s, if_neg i10, if_neg (show ¬ (20 : Int32) ≤ nI i from nI_ge (b := 20) f (by decide)), gd_inb (by omega) (by decide), ix_nI (by omega), (hM.1.2.2.2.2.2.2.2.2.2.1 _ d).1, hq]
              show ((fX12_outside M3 (nI q)).bind _) = _
              rw [outside_spec hM.1 hq64]
              rfl
          · refine ⟨nI (X.2.2.1 (i % 10)), ⟨M, ?_, Fr.rfl⟩, fun M3 hM => ⟨M3, ?_, Fr.rfl⟩⟩
            · rw [eqn_f (by omega) (by omega) (by decide), gd_inb (by omega) (by decide), ix_nI (by omega), h79 _ (by omega)]
            · rw [nowB b c, isPerson_yes hM.1 d, bd_s, if_neg i10, if_pos (show (20 : Int32) ≤ nI i from nI_le (a := 20) f (by omega)), gd_inb (by omega) (by decide), ix_nI (by omega), hM.2.2.2.1 _ (by omega)]
        · have hd : nI (i % 10) < 0 ∨ nI (cN X.1) ≤ nI (i % 10) := Or.inr (nI_le d (by omega))
          refine ⟨-2, ⟨M, by rw [hasPerson_no hB.1.2.2.2.2.1 hd, if_pos rfl], Fr.rfl⟩, fun M3 hM => ⟨M3, by rw [nowB b c, isPerson_no hM.1 hd, bd_s, if_pos rfl], Fr.rfl⟩⟩
      · rw [if_pos (show (2 : Int32) < nI (i / 10) from nI_lt (a := 2) (by omega) (by omega))]
        rcases Nat.lt_or_ge (i % 10) (cS X.1) with d | d
        · rw [hasShine_yes hB.1.2.2.2.2.2.1 (by omega) d, if_neg i10]
          have ref : ∀ M3 (v : Int32), PM M3 o P l0 L X → (∀ M4, Fr [102, 103] M3 M4 → PM M4 o P l0 L X → LO M4 X.1 → (if (40 : Int32) ≤ nI i then (if (50 : Int32) ≤ nI i then (if (60 : Int32) ≤ nI i then (fX12_countOf M4 (nI (i % 10))).bind (fun p14 => some (p14, M4)) else gd (inb (nI (i % 10)) 8) ((if (gI M4 101 (ix (nI (i % 10)))) = 0 then some (0, M4) else some (1, M4)))) else gd (inb (nI (i % 10)) 8) (some (gI M4 108 (ix (nI (i % 10))), M4))) else gd (inb (nI (i % 10)) 8) (some (gI M4 98 (ix (nI (i % 10))), M4))) = some (v, M4)) → ∃ M4, fX12_nowOf M3 (nI i) = some (v, M4) ∧ Fr [102, 103] M3 M4 := fun M3 v hM hk => by
            obtain ⟨M4, b1, b2, b3, b4⟩ := laysOut_spec hM.1
            refine ⟨M4, ?_, b2⟩
            rw [nowC c hi, isShine_yes hM.1 d, bd_s, if_neg i10, b1, bd_s]
            exact hk M4 b2 ⟨b4, ML_fr hM.2.1 b2 (by decide) (by decide), by rw [b2.gi (by decide)]; exact hM.2.2.1, fun p hp => by rw [b2.gi (by decide)]; exact hM.2.2.2.1 p hp, fun p hp => by rw [b2.gi (by decide)]; exact hM.2.2.2.2 p hp⟩ b3
          unfold fX6_tellShine
          rcases (show i / 10 = 3 ∨ i / 10 = 4 ∨ i / 10 = 5 ∨ i / 10 = 6 by omega) with q | q | q | q <;> rw [q]
          · refine ⟨nI (cSh X.1 (i % 10) 2), ⟨M, ?_, Fr.rfl⟩, fun M3 hM => ref M3 _ hM (fun M4 _ hM4 hO4 => ?_)⟩
            · rw [if_pos (by decide), gd_inb (by omega) (by decide), ix_nI (by omega), (hB.1.2.2.2.2.2.2.2.2.1 _ d).2.2.1]
              rfl
            · rw [if_neg (show ¬ (40 : Int32) ≤ nI i from nI_ge (b := 40) (by omega) (by decide)), gd_inb (by omega) (by decide), ix_nI (by omega), show gI M4 98 (i % 10) = nI (cSh X.1 (i % 10) 2) from hM4.1.2.2.2.2.2.2.2.2.2.2.1 _ d 2 (by decide)]
          · refine ⟨nI (X.2.2.2 (i % 10)), ⟨M, ?_, Fr.rfl⟩, fun M3 hM => ref M3 _ hM (fun M4 _ hM4 hO4 => ?_)⟩
            · rw [if_neg (by decide), if_pos (by decide), gd_inb (by omega) (by decide), ix_nI (by omega), h80 _ (by omega)]
              rfl
            · rw [if_pos (show (40 : Int32) ≤ nI i from nI_le (a := 40) (by omega) (by omega)), if_neg (show ¬ (50 : Int32) ≤ nI i from nI_ge (b := 50) (by omega) (by decide)), gd_inb (by omega) (by decide), ix_nI (by omega), hM4.2.2.2.2 _ (by omega)]
          · refine ⟨bI (cSt X.1 (i % 10)), ⟨M, ?_, Fr.rfl⟩, fun M3 hM => ref M3 _ hM (fun M4 _ hM4 hO4 => ?_)⟩
            · rw [if_neg (by decide), if_neg (by decide), if_pos (by decide), stirred_cls hB.1 (by omega)]
              cases cSt X.1 (i % 10) <;> rfl
            · rw [if_pos (show (40 : Int32) ≤ nI i from nI_le (a := 40) (by omega) (by omega)), if_pos (show (50 : Int32) ≤ nI i from nI_le (a := 50) (by omega) (by omega)), if_neg (show ¬ (60 : Int32) ≤ nI i from nI_ge (b := 60) (by omega) (by decide)), gd_inb (by omega) (by decide), ix_nI (by omega), hM4.1.2.2.2.2.2.2.2.2.2.2.2.1 _ (by omega)]
              cases cSt X.1 (i % 10) <;> rfl
          · have h0 := hL.2.1.1
            obtain ⟨M2, r, a1, a2, a3, -, -, -, a7⟩ := spread_spec hB (c := L 0) (by omega)
            refine ⟨nI (countS X.1 (L 0) L (i % 10)), ⟨M2, ?_, a2⟩, fun M3 hM => ref M3 _ hM (fun M4 _ hM4 hO4 => ?_)⟩
            · rw [if_neg (by decide), if_neg (by decide), if_neg (by decide), hL.2.2 0 (by decide), a1, bd_s, count_cls a7.1 a3 (CLw_fr hL a2 (by decide)) d]
              rfl
            · rw [if_pos (show (40 : Int32) ≤ nI i from nI_le (a := 40) (by omega) (by omega)), if_pos (show (50 : Int32) ≤ nI i from nI_le (a := 50) (by omega) (by omega)), if_pos (show (60 : Int32) ≤ nI i from nI_le (a := 60) (by omega) (by omega)), count_ref hM4.1 hO4 hM4.2.1 d]
              rfl
        · have hd : nI (i % 10) < 0 ∨ nI (cS X.1) ≤ nI (i % 10) := Or.inr (nI_le d (by omega))
          refine ⟨-2, ⟨M, by rw [hasShine_no hB.1.2.2.2.2.2.1 hd, if_pos rfl], Fr.rfl⟩, fun M3 hM => ⟨M3, by rw [nowC c hi, isShine_no hM.1 hd, bd_s, if_pos rfl], Fr.rfl⟩⟩
