/-! ===== fits: the reference ===== -/
theorem who_ref {M : MM} {o m m1 : Nat} {P : PARD} (hM : MS M o P (sbN P m1)) (hm : m < 256) : ∃ M2, (Fr [94] M M2 ∧ MS M2 o P (sbN P m)) ∧ ∀ kk : MM → Option (Int32 × MM), fX12_unlike_l2 kk FU M (nI m) (nI 0) = kk M2 := by
  have hP := hM.2.2.1
  have hn8 := hP.2.2.1
  have ho := hM.2.2.2.1
  have h12 := hM.1
  refine lpk (κ := MM → Option (Int32 × MM)) (σ := MM × Nat) (fun kk f st => fX12_unlike_l2 kk f st.1 (nI m) (nI st.2)) (fun kk M2 => kk M2) (pN P)
    (fun y st => y = st.2 ∧ Fr [94] M st.1 ∧ MS st.1 o P (subS P (mxB m1 m y))) _ ?_ ?_ FU 0 (M, 0) (by omega) (by show _ < 5000; omega) ⟨rfl, Fr.rfl, by
      rw [subS_ext (B2 := fun k => m1.testBit k) (fun k _ => if_neg (Nat.not_lt_zero k))]; exact hM⟩
  · rintro y ⟨M1, y2⟩ hy ⟨rfl, hF, b1⟩
    simp only [] at hF b1
    have e13 : gI M1 90 13 = nI (pN P) := b1.2.2.2.2.2.2.2.1
    have e12 : gI M1 90 12 = nI o := b1.1
    have e91 : gI M1 91 (o + 68 + 2 * y) = nI (pAt P y) := (b1.2.1.2.2.2.2.2.1 y hy).1
    have mx_s : ∀ b, m.testBit y = b → subS P (fun x => if x = y then b else mxB m1 m y x) = subS P (mxB m1 m (y + 1)) := fun b hb => subS_ext (fun k _ => by
      show (if k = y then b else if k < y then m.testBit k else m1.testBit k) = if k < y + 1 then m.testBit k else m1.testBit k
      by_cases c : k = y
      · rw [if_pos c, if_pos (by omega), c, hb]
      · rw [if_neg c]
        by_cases c2 : k < y
        · rw [if_pos c2, if_pos (by omega)]
        · rw [if_neg c2, if_neg (by omega)])
    cases hb : m.testBit y with
    | true =>
      have h := MS_setA b1 (p := y) (c := some (pAt P y)) (fun q e => by cases e; exact (hP.2.2.2.2.2.1 y hy).1)
      rw [subS_in hy, mx_s true hb] at h
      refine Or.inl ⟨(sI M1 94 y (nI (pAt P y)), y + 1), ⟨rfl, hF.pI (by decide), h⟩, fun kk f => ?_⟩
      show fX12_unlike_l2 kk (f + 1) M1 (nI m) (nI y) = fX12_unlike_l2 kk f (sI M1 94 y (nI (pAt P y))) (nI m) (nI (y + 1))
      rw [fX12_unlike_l2.eq_2, e13, le_f hy (by omega), bit_s1 (by omega) (by omega), if_pos hb, e12, nl68, nl2, pk_mul, nI_add, nI_add, gd_inb (by omega) (by decide), ix_nI (by omega), e91]
      unfold fX12_unlike_j44
      rw [gd_inb (by omega) (by decide), ix_nI (by omega), bnd_r, nI_1]
    | false =>
      have h := MS_setA b1 (p := y) (c := none) (fun q e => by cases e)
      rw [subS_out hy, mx_s false hb] at h
      refine Or.inl ⟨(sI M1 94 y (-1), y + 1), ⟨rfl, hF.pI (by decide), h⟩, fun kk f => ?_⟩
      show fX12_unlike_l2 kk (f + 1) M1 (nI m) (nI y) = fX12_unlike_l2 kk f (sI M1 94 y (-1)) (nI m) (nI (y + 1))
      rw [fX12_unlike_l2.eq_2, e13, le_f hy (by omega), bit_s1 (by omega) (by omega), hb, if_neg Bool.false_ne_true]
      unfold fX12_unlike_j44
      rw [gd_inb (by omega) (by decide), ix_nI (by omega), bnd_r, nI_1]
  · rintro ⟨M1, y2⟩ ⟨rfl, hF, b1⟩
    refine ⟨M1, ⟨hF, ?_⟩, fun kk f => ?_⟩
    · rw [show sbN P m = subS P (mxB m1 m (pN P)) from subS_ext (fun k hk => (if_pos hk).symm)]
      exact b1
    · show fX12_unlike_l2 kk (f + 1) M1 (nI m) (nI (pN P)) = _
      rw [fX12_unlike_l2.eq_2, show gI M1 90 13 = nI (pN P) from b1.2.2.2.2.2.2.2.1, le_t (Nat.le_refl _) (by omega)]
/-- the sight of the reference -/
def SGm (M : MM) (g0 sl : Nat) (sg : Nat → Nat) : Prop := gI M 90 41 = nI g0 ∧ g0 + 9 ≤ 1130 ∧ gI M 91 g0 = nI sl ∧ sl ≤ 9 ∧ ∀ s, s < 8 → gI M 91 (g0 + 1 + s) = nI (sg s) ∧ sg s ≤ 10
theorem SGm_fr {M M2 : MM} {g0 sl : Nat} {sg : Nat → Nat} {L : List Nat} (h : SGm M g0 sl sg) (hF : Fr L M M2) (h1 : 90 ∉ L) (h2 : 91 ∉ L) : SGm M2 g0 sl sg :=
  ⟨by rw [hF.gi h1]; exact h.1, h.2.1, by rw [hF.gi h2]; exact h.2.2.1, h.2.2.2.1, fun s hs => ⟨by rw [hF.gi h2]; exact (h.2.2.2.2 s hs).1, (h.2.2.2.2 s hs).2⟩⟩
theorem dif_ref {M : MM} {o l0 c g0 sl : Nat} {P : PARD} {S : SCN} {L sg : Nat → Nat} (hM : MS M o P S) (hO : LO M S) (hL : ML M l0 L c) (hG : SGm M g0 sl sg) : fX12_unlike_l59 FU M 0 0 = some (nI (difS (countS S c L) sg (cS S)), M) := by
  have hS := hM.2.2.2.2.1
  have hs8 := hS.2.2.2.1
  have h14 : gI M 90 14 = nI (cS S) := hM.2.2.2.2.2.2.2.2.1
  have hle := difS_le (f := countS S c L) (sg := sg) (n := 8) (countS_le hS c L) (fun s hs => (hG.2.2.2.2 s hs).2)
  have hg0 := hG.2.1
  have key := lpk (κ := Unit) (σ := Nat) (fun _ f s => fX12_unlike_l59 f M (nI (difS (countS S c L) sg s)) (nI s)) (fun _ (r : Int32 × MM) => some r) (cS S)
    (fun s st => s = st) (fun r => r = (nI (difS (countS S c L) sg (cS S)), M)) ?_ ?_ FU 0 0 (by omega) (by show _ < 5000; omega) rfl
  · obtain ⟨r, h1, h2⟩ := key
    rw [← h1]
    exact h2 ()
  · rintro s s2 hs rfl
    refine Or.inl ⟨s + 1, rfl, fun _ f => ?_⟩
    obtain ⟨g1, g2⟩ := hG.2.2.2.2 s (by omega)
    have hc := countS_le hS c L s
    have hl := hle s (by omega)
    show fX12_unlike_l59 (f + 1) M (nI (difS (countS S c L) sg s)) (nI s) = fX12_unlike_l59 f M (nI (difS (countS S c L) sg s + if sg s = 0 then 0 else absd (sg s - 1) (countS S c L s))) (nI (s + 1))
    rw [fX12_unlike_l59.eq_2, h14, le_f hs (by omega), hG.1, nI_1, nI_add, gd_inb (by omega) (by decide), ix_nI (by omega), g1, bnd_r, count_ref hM hO hL hs, bd_s, bnd_r]
    unfold fX12_unlike_j118
    by_cases z : sg s = 0
    · rw [z, if_pos (show nI 0 - 1 = -1 from rfl), if_pos rfl, nl0, nI_add, bnd_r, nI_1]
    · rw [show nI (sg s) - 1 = nI (sg s - 1) by rw [nl1, pk_sub (by omega)], m1_iff (by omega), if_neg z]
      unfold absd
      by_cases q : countS S c L s < sg s - 1
      · obtain ⟨h1, -, h2⟩ := sub_m q (by omega)
        rw [if_neg h1, h2, nI_add, bnd_r, nI_1, show sg s - 1 - countS S c L s + (countS S c L s - (sg s - 1)) = sg s - 1 - countS S c L s by omega]
      · rw [pk_sub (by omega), if_pos (by rw [nl0]; exact nI_le (by omega) (by omega)), nI_add, bnd_r, nI_1, show sg s - 1 - countS S c L s + (countS S c L s - (sg s - 1)) = countS S c L s - (sg s - 1) by omega]
  · rintro s rfl
    refine ⟨_, rfl, fun _ f => ?_⟩
    show fX12_unlike_l59 (f + 1) M (nI (difS (countS S c L) sg (cS S))) (nI (cS S)) = _
    rw [fX12_unlike_l59.eq_2, h14, le_t (Nat.le_refl _) (by omega)]
theorem unlike_ref {M : MM} {o l0 c g0 sl m m1 : Nat} {P : PARD} {L sg : Nat → Nat} (hM : MS M o P (sbN P m1)) (hL : ML M l0 L c) (hG : SGm M g0 sl sg) (hm : m < 256) : ∃ M2, fX12_unlike M (nI m) = some (nI (difS (countS (sbN P m) c L) sg (pS P)), M2) ∧ Fr [94, 102, 103] M M2 ∧ MS M2 o P (sbN P m) ∧ LO M2 (sbN P m) := by
  obtain ⟨M1, ⟨a1, a2⟩, a3⟩ := who_ref hM hm
  obtain ⟨M2, b1, b2, b3, b4⟩ := laysOut_spec a2
  have hF : Fr [94, 102, 103] M M2 := (a1.mono (by decide)).trans (b2.mono (by decide))
  refine ⟨M2, ?_, hF, b4, b3⟩
  unfold fX12_unlike
  rw [nl0, a3, b1, bd_s]
  exact dif_ref b4 b3 (ML_fr hL hF (by decide) (by decide)) (SGm_fr hG hF (by decide) (by decide))
theorem note_ref {M : MM} {o l0 c : Nat} {P : PARD} {S : SCN} {L al : Nat → Nat} {x1 x2 x3 x4 x5 x6 : Int32} (hM : MS M o P S) (hO : LO M S) (hL : ML M l0 L c) (hal : ∀ k, k < 80 → gI M 114 k = nI (al k)) : ∃ M2, (Fr [114] M M2 ∧ ∀ k, k < 80 → gI M2 114 k = nI (bmp al (countS S c L) (cS S) k)) ∧ ∀ kk : MM → Int32 → Int32 → Int32 → Int32 → Int32 → Int32 → Option (Int32 × MM), fX12_fits_l183 kk FU M x1 x2 x3 x4 x5 x6 (nI 0) = kk M2 x1 x2 x3 x4 x5 x6 := by
  have hS := hM.2.2.2.2.1
  have hs8 := hS.2.2.2.1
  refine lpk (κ := MM → Int32 → Int32 → Int32 → Int32 → Int32 → Int32 → Option (Int32 × MM)) (σ := MM × Nat) (fun kk f st => fX12_fits_l183 kk f st.1 x1 x2 x3 x4 x5 x6 (nI st.2)) (fun kk M2 => kk M2 x1 x2 x3 x4 x5 x6) (cS S)
    (fun s st => s = st.2 ∧ Fr [114] M st.1 ∧ ∀ k, k < 80 → gI st.1 114 k = nI (bmp al (countS S c L) s k)) _ ?_ ?_ FU 0 (M, 0) (by omega) (by show _ < 5000; omega) ⟨rfl, Fr.rfl, fun k hk => by
      unfold bmp; rw [if_neg (by omega)]; exact hal k hk⟩
  · rintro s ⟨M1, s2⟩ hs ⟨rfl, hF, b1⟩
    simp only [] at hF b1
    have hc := countS_le hS c L s
    have hM1 := MS_fr hM hF (by decide)
    have h14 : gI M1 90 14 = nI (cS S) := hM1.2.2.2.2.2.2.2.2.1
    refine Or.inl ⟨(sI M1 114 (10 * s + countS S c L s) (nI (bmp al (countS S c L) s (10 * s + countS S c L s) + 1)), s + 1), ⟨rfl, hF.pI (by decide), fun k hk => ?_⟩, fun kk f => ?_⟩
    · show gI (sI M1 114 (10 * s + countS S c L s) _) 114 k = _
      rw [bmp_s hc]
      by_cases z : k = 10 * s + countS S c L s
      · rw [← z, gI_eq, if_pos rfl]
      · rw [gI_nk _ _ _ _ _ _ z, if_neg z]; exact b1 k hk
    · show fX12_fits_l183 kk (f + 1) M1 x1 x2 x3 x4 x5 x6 (nI s) = fX12_fits_l183 kk f (sI M1 114 (10 * s + countS S c L s) (nI (bmp al (countS S c L) s (10 * s + countS S c L s) + 1))) x1 x2 x3 x4 x5 x6 (nI (s + 1))
      rw [fX12_fits_l183.eq_2, h14, le_f hs (by omega), count_ref hM1 (LO_fr hO hF (by decide) (by decide)) (ML_fr hL hF (by decide) (by decide)) hs, bd_s, nl10, pk_mul, nI_add, gd_inb (by omega) (by decide), gd_inb (by omega) (by decide), ix_nI (by omega), b1 _ (by omega), nI_1, bnd_r, nI_1]
  · rintro ⟨M1, s2⟩ ⟨rfl, hF, b1⟩
    refine ⟨M1, ⟨hF, b1⟩, fun kk f => ?_⟩
    show fX12_fits_l183 kk (f + 1) M1 x1 x2 x3 x4 x5 x6 (nI (cS S)) = _
    rw [fX12_fits_l183.eq_2, show gI M1 90 14 = nI (cS S) from (MS_fr hM hF (by decide)).2.2.2.2.2.2.2.2.1, le_t (Nat.le_refl _) (by omega)]
theorem w_iff {x : Int32} {c : Nat} : x = 10 + nI c ↔ nI c = x - 10 := by
  constructor
  · intro h
    rw [h, Int32.add_comm, Int32.add_sub_cancel]
  · intro h
    rw [h, Int32.add_comm, Int32.sub_add_cancel]
theorem fits_step {M : MM} {o l0 g0 sl g m1 : Nat} {P : PARD} {L sg : Nat → Nat} {x4 : Int32} {X : FST} (hP : PW P) (hM : MS M o P (sbN P m1)) (hL : ML M l0 L (L 0)) (hG : SGm M g0 sl sg) (hg : g < 2 ^ pN P) (hal : ∀ k, k < 80 → gI M 114 k = nI (X.2.2.2.2.2 k)) (hX4 : ∀ b, X.2.2.2.1 = some b → b ≤ 80) :
    ∃ M2, Fr [94, 102, 103, 114] M M2 ∧ MS M2 o P (sbN P g) ∧
      (((difS (countS (sbN P g) (L 0) L) sg (pS P) ≤ sl ∧ nI X.1 = x4 - 10) ∧ ∀ kk f, fX12_fits_l92 kk (f + 1) M x4 (nI X.1) X.2.1 X.2.2.1 (opI X.2.2.2.1) (nI g) = some (nI g, M2)) ∨
      (¬ (difS (countS (sbN P g) (L 0) L) sg (pS P) ≤ sl ∧ nI X.1 = x4 - 10) ∧ (∀ k, k < 80 → gI M2 114 k = nI ((fsS P L sg sl (x4 - 10) X g).2.2.2.2.2 k)) ∧ ∀ kk f, fX12_fits_l92 kk (f + 1) M x4 (nI X.1) X.2.1 X.2.2.1 (opI X.2.2.2.1) (nI g) = fX12_fits_l92 kk f M2 x4 (nI (fsS P L sg sl (x4 - 10) X g).1) (fsS P L sg sl (x4 - 10) X g).2.1 (fsS P L sg sl (x4 - 10) X g).2.2.1 (opI (fsS P L sg sl (x4 - 10) X g).2.2.2.1) (nI (g + 1)))) := by
  have hn8 := hP.2.2.1
  have hp := p8 hn8
  obtain ⟨M1, a1, a2, a3, a4⟩ := unlike_ref hM hL hG (m := g) (by omega)
  have hL1 := ML_fr hL a2 (by decide) (by decide)
  have hG1 := SGm_fr hG a2 (by decide) (by decide)
  have hd80 : difS (countS (sbN P g) (L 0) L) sg (pS P) ≤ 80 := by
    have := difS_le (f := countS (sbN P g) (L 0) L) (sg := sg) (n := 8) (countS_le (subS_SW hP _) _ _) (fun s hs => (hG.2.2.2.2 s hs).2) (pS P) hP.2.2.2.1
    have := hP.2.2.2.1
    omega
  unfold fsS
  obtain ⟨d, ed⟩ : ∃ d, d = difS (countS (sbN P g) (L 0) L) sg (pS P) := ⟨_, rfl⟩
  rw [← ed] at a1 hd80 ⊢
  have h13 : gI M 90 13 = nI (pN P) := hM.2.2.2.2.2.2.2.1
  have hg0 := hG.2.1
  have hsl := hG.2.2.2.1
  have head : ∀ (kk : MM → Int32 → Int32 → Int32 → Int32 → Int32 → Option (Int32 × MM)) f, fX12_fits_l92 kk (f + 1) M x4 (nI X.1) X.2.1 X.2.2.1 (opI X.2.2.2.1) (nI g) = fX12_fits_j131 (fun M111 y112 y113 y114 y115 y116 y117 => fX12_fits_l92 kk f M111 y112 y113 y114 y115 y116 y117) M1 x4 (nI X.1) X.2.1 X.2.2.1 (nI g) (nI d) (opI (lstF X.2.2.2.1 d)) := fun kk f => by
    rw [fX12_fits_l92.eq_2, h13, shl_nI (by omega), le_f hg (by omega), a1, bd_s]
    unfold fX12_fits_j124
    simp only []
    cases e : X.2.2.2.1 with
    | none => rw [if_pos (show opI none = -1 from rfl)]; rfl
    | some b =>
      have hb := hX4 b e
      rw [show opI (some b) = nI b from rfl, m1_iff (by omega)]
      unfold lstF
      simp only []
      by_cases z : b ≤ d
      · rw [le_t z (by omega), if_pos z]; rfl
      · rw [le_f (by omega) (by omega), if_neg z]; rfl
  have j131 : ∀ (k92 : MM → Int32 → Int32 → Int32 → Int32 → Int32 → Int32 → Option (Int32 × MM)) le, fX12_fits_j131 k92 M1 x4 (nI X.1) X.2.1 X.2.2.1 (nI g) (nI d) le = if d ≤ sl then (if x4 = 10 + nI X.1 then some (nI g, M1) else fX12_fits_l183 (fun M97 y98 y99 y100 y101 y102 y103 => k92 M97 y98 y99 y100 y101 y102 (y103 + 1)) FU M1 x4 (nI (X.1 + 1)) (X.2.1 &&& nI g) (X.2.2.1 ||| nI g) le (nI g) 0) else k92 M1 x4 (nI X.1) X.2.1 X.2.2.1 le (nI (g + 1)) := fun k92 le => by
    unfold fX12_fits_j131
    rw [hG1.1, gd_inb (by omega) (by decide), ix_nI (by omega), hG1.2.2.1, nI_1, nI_1, bnd_r, bnd_r]
    by_cases z : d ≤ sl
    · rw [le_t z (by omega), if_pos z]
    · rw [le_f (by omega) (by omega), if_neg z]
  by_cases z : d ≤ sl
  · by_cases e : nI X.1 = x4 - 10
    · refine ⟨M1, a2.mono (by decide), a3, Or.inl ⟨⟨z, e⟩, fun kk f => ?_⟩⟩
      rw [head, j131, if_pos z, if_pos (w_iff.mpr e)]
    · obtain ⟨M2, ⟨b1, b2⟩, b3⟩ := note_ref (al := X.2.2.2.2.2) (x1 := x4) (x2 := nI (X.1 + 1)) (x3 := X.2.1 &&& nI g) (x4 := X.2.2.1 ||| nI g) (x5 := opI (lstF X.2.2.2.1 d)) (x6 := nI g) a3 a4 hL1 (fun k hk => by rw [a2.gi (by decide)]; exact hal k hk)
      refine ⟨M2, (a2.mono (by decide)).trans (b1.mono (by decide)), MS_fr a3 b1 (by decide), Or.inr ⟨fun h => e h.2, ?_, fun kk f => ?_⟩⟩
      · rw [if_pos z]; exact b2
      · rw [if_pos z, head, j131, if_pos z, if_neg (fun h => e (w_iff.mp h)), nl0, b3, nI_1]
        rfl
  · refine ⟨M1, a2.mono (by decide), a3, Or.inr ⟨fun h => z h.1, ?_, fun kk f => ?_⟩⟩
    · rw [if_neg z]; intro k hk; rw [a2.gi (by decide)]; exact hal k hk
    · rw [if_neg z, head, j131, if_neg z]
