/-! ===== fits: the class measures ===== -/
theorem m1_bv : (-1 : Int32).toBitVec = BitVec.allOnes 32 := by decide
theorem andnot (V s g : Int32) : (V &&& (s ^^^ -1)) &&& (g ^^^ -1) = V &&& ((s ||| g) ^^^ -1) := by
  apply Int32.toBitVec_inj.mp
  simp only [Int32.toBitVec_and, Int32.toBitVec_xor, Int32.toBitVec_or, m1_bv]
  refine BitVec.eq_of_getLsbD_eq (fun i hi => ?_)
  simp only [BitVec.getLsbD_and, BitVec.getLsbD_xor, BitVec.getLsbD_or, BitVec.getLsbD_allOnes, hi, decide_true]
  cases V.toBitVec.getLsbD i <;> cases s.toBitVec.getLsbD i <;> cases g.toBitVec.getLsbD i <;> rfl
theorem andnot0 (V : Int32) : V &&& ((0 : Int32) ^^^ -1) = V := by
  apply Int32.toBitVec_inj.mp
  simp only [Int32.toBitVec_and, Int32.toBitVec_xor, m1_bv, show (0 : Int32).toBitVec = 0#32 from rfl]
  refine BitVec.eq_of_getLsbD_eq (fun i hi => ?_)
  simp only [BitVec.getLsbD_and, BitVec.getLsbD_xor, BitVec.getLsbD_allOnes, hi, decide_true]
  cases V.toBitVec.getLsbD i <;> simp
/-- how many fit; all, some of the people; the least; the one asked for; the counts noted -/
abbrev FST : Type := Nat × Int32 × Int32 × Option Nat × Option Nat × (Nat → Nat)
def lstF (o : Option Nat) (d : Nat) : Option Nat := match o with
  | none => some d
  | some b => if b ≤ d then some b else some d
def fsF (X : FST) (w : Int32) (g : Nat) (f : Nat → Nat) (n : Nat) (le : Option Nat) : FST := (X.1 + 1, X.2.1 &&& nI g, X.2.2.1 ||| nI g, le, if nI X.1 = w then some g else X.2.2.2.2.1, bmp X.2.2.2.2.2 f n)
def fsS (P : PARD) (L sg : Nat → Nat) (sl : Nat) (w : Int32) (X : FST) (g : Nat) : FST :=
  if difS (countS (sbN P g) (L 0) L) sg (pS P) ≤ sl then fsF X w g (countS (sbN P g) (L 0) L) (pS P) (lstF X.2.2.2.1 (difS (countS (sbN P g) (L 0) L) sg (pS P)))
  else (X.1, X.2.1, X.2.2.1, lstF X.2.2.2.1 (difS (countS (sbN P g) (L 0) L) sg (pS P)), X.2.2.2.2.1, X.2.2.2.2.2)
def fsN (P : PARD) (L sg : Nat → Nat) (sl : Nat) (w V : Int32) : Nat → FST
  | 0 => (0, V, 0, none, none, fun _ => 0)
  | g + 1 => fsS P L sg sl w (fsN P L sg sl w V g) g
def fnI (o : Option Nat) : Int32 := match o with
  | none => -2
  | some g => nI g
def FCl (M : MM) (V : Int32) (X : FST) : Prop := gI M 88 1 = nI X.1 ∧ gI M 88 2 = X.2.1 ∧ gI M 88 3 = V &&& (X.2.2.1 ^^^ -1) ∧ gI M 88 4 = opI X.2.2.2.1 ∧ gI M 88 5 = fnI X.2.2.2.2.1 ∧ ∀ k, k < 80 → gI M 89 k = nI (X.2.2.2.2.2 k)
theorem FCl_fr {M M2 : MM} {V : Int32} {X : FST} {L : List Nat} (h : FCl M V X) (hF : Fr L M M2) (h1 : 88 ∉ L) (h2 : 89 ∉ L) : FCl M2 V X := by
  obtain ⟨a1, a2, a3, a4, a5, a6⟩ := h
  refine ⟨by rw [hF.gi h1]; exact a1, by rw [hF.gi h1]; exact a2, by rw [hF.gi h1]; exact a3, by rw [hF.gi h1]; exact a4, by rw [hF.gi h1]; exact a5, fun k hk => by rw [hF.gi h2]; exact a6 k hk⟩
theorem nsA_le {P : PARD} {L sg : Nat → Nat} {sl : Nat} {w V : Int32} : ∀ g, (fsN P L sg sl w V g).1 ≤ g ∧ (∀ k, (fsN P L sg sl w V g).2.2.2.2.2 k ≤ g)
  | 0 => ⟨Nat.le_refl _, fun _ => Nat.le_refl _⟩
  | g + 1 => by
    obtain ⟨h1, h2⟩ := nsA_le (P := P) (L := L) (sg := sg) (sl := sl) (w := w) (V := V) g
    show (fsS P L sg sl w (fsN P L sg sl w V g) g).1 ≤ g + 1 ∧ ∀ k, (fsS P L sg sl w (fsN P L sg sl w V g) g).2.2.2.2.2 k ≤ g + 1
    unfold fsS
    split
    · refine ⟨by show (fsN P L sg sl w V g).1 + 1 ≤ g + 1; omega, fun k => ?_⟩
      have := h2 k
      show (fsN P L sg sl w V g).2.2.2.2.2 k + (if _ then 1 else 0) ≤ g + 1
      split <;> omega
    · exact ⟨Nat.le_succ_of_le h1, fun k => Nat.le_succ_of_le (h2 k)⟩
theorem lst_le {P : PARD} {L sg : Nat → Nat} {sl : Nat} {w V : Int32} (hP : PW P) (hg : ∀ s, s < 8 → sg s ≤ 10) : ∀ g b, (fsN P L sg sl w V g).2.2.2.1 = some b → b ≤ 80
  | 0, b, e => by cases e
  | g + 1, b, e => by
    have ih := lst_le (L := L) (sg := sg) (sl := sl) (w := w) (V := V) hP hg g
    have hd : difS (countS (sbN P g) (L 0) L) sg (pS P) ≤ 80 := by
      have := difS_le (f := countS (sbN P g) (L 0) L) (sg := sg) (n := 8) (countS_le (subS_SW hP _) _ _) hg (pS P) hP.2.2.2.1
      have := hP.2.2.2.1
      omega
    have key : (fsN P L sg sl w V (g + 1)).2.2.2.1 = lstF (fsN P L sg sl w V g).2.2.2.1 (difS (countS (sbN P g) (L 0) L) sg (pS P)) := by
      show (fsS P L sg sl w (fsN P L sg sl w V g) g).2.2.2.1 = _
      unfold fsS
      split <;> rfl
    rw [key] at e
    unfold lstF at e
    cases h : (fsN P L sg sl w V g).2.2.2.1 with
    | none => rw [h] at e; cases e; exact hd
    | some u =>
      rw [h] at e
      have e : (if u ≤ _ then some u else some _) = some b := e
      split at e
      · cases e; exact ih _ h
      · cases e; exact hd
theorem j127_cls {M : MM} {S : SCN} {a1 a2 a3 c sl d g : Nat} {L : Nat → Nat} {w V y19 y20 : Int32} {X : FST} (hB : BS M S aT) (hN : NR M S c) (hL : CLw M a2 L) (ha : a3 < 60) (hsl : gI M a3 0 = nI sl) (hsl2 : sl ≤ 9) (hd : d ≤ 80) (hX : FCl M V X) :
    ∃ M2, Fr [88, 89] M M2 ∧ FCl M2 V (if d ≤ sl then fsF X w g (countS S c L) (cS S) X.2.2.2.1 else X) ∧ ∀ kk : MM → Int32 → Int32 → Int32 → Int32 → Option MM, fX3_measure_j127 a1 a2 a3 kk M w y19 y20 (nI g) (nI d) = kk M2 w y19 y20 (nI (g + 1)) := by
  obtain ⟨x1, x2, x3, x4, x5, x6⟩ := id hX
  by_cases z : d ≤ sl
  · rw [if_pos z]
    have tail : ∀ M1, Fr [88] M M1 → gI M1 88 1 = nI X.1 → gI M1 88 2 = X.2.1 → gI M1 88 3 = V &&& (X.2.2.1 ^^^ -1) → gI M1 88 4 = opI X.2.2.2.1 → gI M1 88 5 = fnI (if nI X.1 = w then some g else X.2.2.2.2.1) → ∃ M2, Fr [88, 89] M M2 ∧ FCl M2 V (fsF X w g (countS S c L) (cS S) X.2.2.2.1) ∧ ∀ kk : MM → Int32 → Int32 → Int32 → Int32 → Option MM, fX3_measure_j154 a1 a2 a3 kk M1 w y19 y20 (nI g) = kk M2 w y19 y20 (nI (g + 1)) := by
      intro M1 hF y1 y2 y3 y4 y5
      have hF3 : Fr [88] M1 (sI (sI (sI M1 88 1 (nI (X.1 + 1))) 88 2 (X.2.1 &&& nI g)) 88 3 (V &&& ((X.2.2.1 ||| nI g) ^^^ -1))) := ((Fr.rfl.pI (by decide)).pI (by decide)).pI (by decide)
      have hFt := hF.trans hF3
      obtain ⟨M2, b1, b2, b3⟩ := note_cls (al := X.2.2.2.2.2) (BS_fr hB hFt (by decide)).1 (fun t ht => by rw [hFt.gi (by decide)]; exact hN t ht) (CLw_fr hL hFt (by decide)) (fun k hk => by rw [hFt.gi (by decide)]; exact x6 k hk)
      refine ⟨M2, (hFt.mono (by decide)).trans (b2.mono (by decide)), ⟨?_, ?_, ?_, ?_, ?_, b3⟩, fun kk => ?_⟩
      · rw [b2.gi (by decide)]; simp (disch := decide) only [gI_nk, gI_eq]; rfl
      · rw [b2.gi (by decide)]; simp (disch := decide) only [gI_nk, gI_eq]; rfl
      · rw [b2.gi (by decide)]; simp (disch := decide) only [gI_nk, gI_eq]; rfl
      · rw [b2.gi (by decide)]; simp (disch := decide) only [gI_nk, gI_eq]; exact y4
      · rw [b2.gi (by decide)]; simp (disch := decide) only [gI_nk, gI_eq]; exact y5
      · unfold fX3_measure_j154
        rw [y1, nI_1, bnd_r]
        rw [show gI (sI M1 88 1 (nI (X.1 + 1))) 88 2 = X.2.1 by rw [gI_nk _ _ _ _ _ _ (by decide)]; exact y2, bnd_r]
        rw [show gI (sI (sI M1 88 1 (nI (X.1 + 1))) 88 2 (X.2.1 &&& nI g)) 88 3 = V &&& (X.2.2.1 ^^^ -1) by rw [gI_nk _ _ _ _ _ _ (by decide), gI_nk _ _ _ _ _ _ (by decide)]; exact y3, andnot, bnd_r, b1, bd_s, nI_1]
    by_cases e : nI X.1 = w
    · obtain ⟨M2, t1, t2, t3⟩ := tail (sI M 88 5 (nI g)) (Fr.rfl.pI (by decide)) (by rw [gI_nk _ _ _ _ _ _ (by decide)]; exact x1) (by rw [gI_nk _ _ _ _ _ _ (by decide)]; exact x2) (by rw [gI_nk _ _ _ _ _ _ (by decide)]; exact x3) (by rw [gI_nk _ _ _ _ _ _ (by decide)]; exact x4) (by rw [gI_eq, if_pos e]; rfl)
      refine ⟨M2, t1, t2, fun kk => ?_⟩
      unfold fX3_measure_j127
      rw [hsl, le_t z (by omega), x1, if_pos e, bnd_r]
      exact t3 _
    · obtain ⟨M2, t1, t2, t3⟩ := tail M Fr.rfl x1 x2 x3 x4 (by rw [if_neg e]; exact x5)
      refine ⟨M2, t1, t2, fun kk => ?_⟩
      unfold fX3_measure_j127
      rw [hsl, le_t z (by omega), x1, if_neg e]
      exact t3 _
  · rw [if_neg z]
    refine ⟨M, Fr.rfl, hX, fun kk => ?_⟩
    unfold fX3_measure_j127
    rw [hsl, le_f (by omega) (by omega), nI_1]
theorem meas_step {M : MM} {P : PARD} {a1 a2 a3 sl g m1 : Nat} {L sg : Nat → Nat} {w V y19 : Int32} {X : FST} (hP : PW P) (ha1 : a1 + 8 < 60) (ha3 : a3 + 1 < 60) (hC : CP M a1 P) (hL : CLw M a2 L) (hsl : gI M a3 0 = nI sl) (hsl2 : sl ≤ 9) (hsg : ∀ s, s < 8 → gI M (a3 + 1) s = nI (sg s) - 1 ∧ sg s ≤ 10) (hm : m1 < 256) (hg : g < 256) (hB : BS M (sbN P m1) aT) (hX : FCl M V X) (hX4 : ∀ b, X.2.2.2.1 = some b → b ≤ 80) (hlt : ¬ y19 < nI g) :
    ∃ M2, Fr cL M M2 ∧ BS M2 (sbN P g) aT ∧ FCl M2 V (fsS P L sg sl w X g) ∧ Fr [69, 70, 74, 75, 76, 77, 88, 89] M M2 ∧ ∀ f, fX3_measure_l61 a1 a2 a3 (f + 1) M w y19 (nI m1) (nI g) = fX3_measure_l61 a1 a2 a3 f M2 w y19 (nI g) (nI (g + 1)) := by
  obtain ⟨M1, b1, b2, b3⟩ := change_cls hP ha1 hm hg hC hB
  have hL1 := CLw_fr hL b2 (by decide)
  have hL0 : gI M1 a2 0 = nI (L 0) := hL1.2.2 0 (by decide)
  have hL9 : L 0 ≤ 9 := hL1.2.1.1
  obtain ⟨M2, r, c1, c2, c3, -, -, -, c4⟩ := spread_spec b3 (c := L 0) (by omega)
  have hF2 : Fr [69, 70, 74, 75, 76, 77] M M2 := (b2.mono (by decide)).trans (c2.mono (by decide))
  have hL2 := CLw_fr hL hF2 (by decide)
  have hX2 := FCl_fr hX hF2 (by decide) (by decide)
  have hsg2 : ∀ s, s < 8 → gI M2 (a3 + 1) s = nI (sg s) - 1 ∧ sg s ≤ 10 := fun s hs => ⟨by rw [hF2.gi (by simp; omega)]; exact (hsg s hs).1, (hsg s hs).2⟩
  have hsl3 : gI M2 a3 0 = nI sl := by rw [hF2.gi (by simp; omega)]; exact hsl
  have hdif : fX3_differences M2 a2 a3 = some (nI (difS (countS (sbN P g) (L 0) L) sg (pS P))) := dif_cls c4.1 c3 hL2 hsg2
  have hd80 : difS (countS (sbN P g) (L 0) L) sg (pS P) ≤ 80 := by
    have := difS_le (f := countS (sbN P g) (L 0) L) (sg := sg) (n := 8) (countS_le (subS_SW hP _) _ _) (fun s hs => (hsg s hs).2) (pS P) hP.2.2.2.1
    have := hP.2.2.2.1
    omega
  have hX4c : gI M2 88 4 = opI X.2.2.2.1 := hX2.2.2.2.1
  unfold fsS
  obtain ⟨d, ed⟩ : ∃ d, d = difS (countS (sbN P g) (L 0) L) sg (pS P) := ⟨_, rfl⟩
  rw [← ed] at hdif hd80 ⊢
  have head : ∀ f, fX3_measure_l61 a1 a2 a3 (f + 1) M w y19 (nI m1) (nI g) = if gI M2 88 4 = -1 then fX3_measure_j121 a1 a2 a3 (fun M91 y92 y93 y94 y95 => fX3_measure_l61 a1 a2 a3 f M91 y92 y93 y94 y95) M2 w y19 (nI g) (nI g) (nI d) else if gI M2 88 4 ≤ nI d then fX3_measure_j127 a1 a2 a3 (fun M91 y92 y93 y94 y95 => fX3_measure_l61 a1 a2 a3 f M91 y92 y93 y94 y95) M2 w y19 (nI g) (nI g) (nI d) else fX3_measure_j121 a1 a2 a3 (fun M91 y92 y93 y94 y95 => fX3_measure_l61 a1 a2 a3 f M91 y92 y93 y94 y95) M2 w y19 (nI g) (nI g) (nI d) := fun f => by
    rw [fX3_measure_l61.eq_2, if_neg hlt, b1, bd_s, hL0, c1, bd_s]
    simp only []
    rw [hdif, bd_s]
  have fin : ∀ M3 le, Fr [88] M2 M3 → FCl M3 V (X.1, X.2.1, X.2.2.1, le, X.2.2.2.2.1, X.2.2.2.2.2) → le = lstF X.2.2.2.1 d → ∃ M4, Fr cL M M4 ∧ BS M4 (sbN P g) aT ∧ FCl M4 V (if d ≤ sl then fsF X w g (countS (sbN P g) (L 0) L) (pS P) (lstF X.2.2.2.1 d) else (X.1, X.2.1, X.2.2.1, lstF X.2.2.2.1 d, X.2.2.2.2.1, X.2.2.2.2.2)) ∧ Fr [69, 70, 74, 75, 76, 77, 88, 89] M M4 ∧ ∀ f, fX3_measure_j127 a1 a2 a3 (fun M91 y92 y93 y94 y95 => fX3_measure_l61 a1 a2 a3 f M91 y92 y93 y94 y95) M3 w y19 (nI g) (nI g) (nI d) = fX3_measure_l61 a1 a2 a3 f M4 w y19 (nI g) (nI (g + 1)) := by
    intro M3 le h1 h2 h3
    have hF3 := (hF2.mono (P2 := [69, 70, 74, 75, 76, 77, 88, 89]) (by decide)).trans (h1.mono (by decide))
    obtain ⟨M4, t1, t2, t3⟩ := j127_cls (a1 := a1) (a2 := a2) (a3 := a3) (sl := sl) (d := d) (g := g) (w := w) (y19 := y19) (y20 := nI g) (BS_fr c4 h1 (by decide)) (fun t ht => by rw [h1.gi (by decide)]; exact c3 t ht) (CLw_fr hL2 h1 (by decide)) (by omega) (by rw [h1.gi (by simp; omega)]; exact hsl3) hsl2 hd80 h2
    have hF4 := hF3.trans (t1.mono (by decide))
    refine ⟨M4, hF4.mono (by decide), BS_fr (BS_fr c4 h1 (by decide)) t1 (by decide), ?_, hF4, fun f => t3 _⟩
    rw [← h3]
    exact t2
  cases e : X.2.2.2.1 with
  | none =>
    obtain ⟨M4, t1, t2, t3, t4, t5⟩ := fin (sI M2 88 4 (nI d)) (some d) (Fr.rfl.pI (by decide)) (by
      obtain ⟨x1, x2, x3, x4, x5, x6⟩ := hX2
      refine ⟨?_, ?_, ?_, ?_, ?_, fun k hk => ?_⟩
      · rw [gI_nk _ _ _ _ _ _ (by decide)]; exact x1
      · rw [gI_nk _ _ _ _ _ _ (by decide)]; exact x2
      · rw [gI_nk _ _ _ _ _ _ (by decide)]; exact x3
      · rw [gI_eq]; rfl
      · rw [gI_nk _ _ _ _ _ _ (by decide)]; exact x5
      · rw [gI_ne _ _ _ _ _ _ (by decide)]; exact x6 k hk) (by rw [e]; rfl)
    rw [e] at t3
    refine ⟨M4, t1, t2, t3, t4, fun f => ?_⟩
    rw [head, hX4c, e, if_pos (show opI none = -1 from rfl)]
    unfold fX3_measure_j121
    rw [bnd_r]
    exact t5 f
  | some b =>
    have hb := hX4 b e
    by_cases z : b ≤ d
    · obtain ⟨M4, t1, t2, t3, t4, t5⟩ := fin M2 (some b) Fr.rfl (by rw [← e]; exact hX2) (by rw [e]; exact (if_pos z).symm)
      rw [e] at t3
      refine ⟨M4, t1, t2, t3, t4, fun f => ?_⟩
      rw [head, hX4c, e, show opI (some b) = nI b from rfl, m1_iff (by omega), le_t z (by omega)]
      exact t5 f
    · obtain ⟨M4, t1, t2, t3, t4, t5⟩ := fin (sI M2 88 4 (nI d)) (some d) (Fr.rfl.pI (by decide)) (by
        obtain ⟨x1, x2, x3, x4, x5, x6⟩ := hX2
        refine ⟨?_, ?_, ?_, ?_, ?_, fun k hk => ?_⟩
        · rw [gI_nk _ _ _ _ _ _ (by decide)]; exact x1
        · rw [gI_nk _ _ _ _ _ _ (by decide)]; exact x2
        · rw [gI_nk _ _ _ _ _ _ (by decide)]; exact x3
        · rw [gI_eq]; rfl
        · rw [gI_nk _ _ _ _ _ _ (by decide)]; exact x5
        · rw [gI_ne _ _ _ _ _ _ (by decide)]; exact x6 k hk) (by rw [e]; exact (if_neg z).symm)
      rw [e] at t3
      refine ⟨M4, t1, t2, t3, t4, fun f => ?_⟩
      rw [head, hX4c, e, show opI (some b) = nI b from rfl, m1_iff (by omega), le_f (by omega) (by omega)]
      unfold fX3_measure_j121
      rw [bnd_r]
      exact t5 f
