/-! ===== text: a parish's line of the reference ===== -/
def rgI (r : Nat) : Int32 := nI r - 1
theorem rg_le : ∀ v, v < 9 → ∀ r, r < 9 → (nI v ≤ rgI r ↔ v < r) := by decide +kernel
theorem rg_s (v : Nat) : rgI (v + 1) = nI v := by
  unfold rgI
  rw [nl1, pk_sub (by omega), Nat.add_sub_cancel]
def mxN (v r : Nat) : Nat := if v < r then r else v + 1
/-- places told -/
def tldP (P : PARD) (q : Nat) : Prop := (q < 64 ∧ pWa P q = true) ∨ (∃ k, k < pN P ∧ pAt P k = q) ∨ (∃ k, k < pS P ∧ pSh P k 1 = q)
def RGP (M : MM) (P : PARD) : Prop := ∃ r l, r ≤ 8 ∧ l ≤ 8 ∧ gI M 90 9 = rgI r ∧ gI M 90 10 = rgI l ∧ ∀ k, (k < r ↔ ∃ q, tldP P q ∧ k ≤ q % 8) ∧ (k < l ↔ ∃ q, tldP P q ∧ k ≤ q / 8)
def RDP (M : MM) (P : PARD) : Prop := (pN P ≤ 8 ∧ pS P ≤ 8) ∧ gI M 93 0 = nI (pW P) ∧ gI M 93 1 = nI (pH P) ∧ gI M 93 2 = nI (pN P) ∧ gI M 93 3 = nI (pS P) ∧ (∀ q, q < 64 → gI M 93 (4 + q) = if pWa P q then 1 else 0) ∧
  (∀ k, k < pN P → gI M 93 (68 + 2 * k) = nI (pAt P k) ∧ gI M 93 (68 + 2 * k + 1) = nI (pNm P k)) ∧ (∀ k, k < pS P → ∀ j, j < 5 → gI M 93 (84 + 5 * k + j) = nI (pSh P k j)) ∧ RGP M P
def GDP (M : MM) : Prop := ∃ a b, a ≤ 8 ∧ b ≤ 8 ∧ gI M 93 2 = nI a ∧ gI M 93 3 = nI b
theorem RDP_wr {M M2 : MM} {P : PARD} (h : RDP M P) (hw : WR M M2) : RDP M2 P := by
  obtain ⟨a0, a1, a2, a3, a4, a5, a6, a7, r, l, r1, r2, r3, r4, r5⟩ := h
  exact ⟨a0, by rw [hw.g93]; exact a1, by rw [hw.g93]; exact a2, by rw [hw.g93]; exact a3, by rw [hw.g93]; exact a4, fun q hq => by rw [hw.g93]; exact a5 q hq, fun k hk => by rw [hw.g93, hw.g93]; exact a6 k hk, fun k hk j hj => by rw [hw.g93]; exact a7 k hk j hj, r, l, r1, r2, by rw [hw.2.1 9 (by decide)]; exact r3, by rw [hw.2.1 10 (by decide)]; exact r4, r5⟩
theorem GDP_wr {M M2 : MM} (h : GDP M) (hw : WR M M2) : GDP M2 := by
  obtain ⟨a, b, h1, h2, h3, h4⟩ := h
  exact ⟨a, b, h1, h2, by rw [hw.g93]; exact h3, by rw [hw.g93]; exact h4⟩
theorem RGP_add {M M2 : MM} {P P2 : PARD} {v0 v1 : Nat} (h0 : v0 ≤ 7) (h1 : v1 ≤ 7) (h : RGP M P) (hg : ∀ r l, r ≤ 8 → l ≤ 8 → gI M 90 9 = rgI r → gI M 90 10 = rgI l → gI M2 90 9 = rgI (mxN v0 r) ∧ gI M2 90 10 = rgI (mxN v1 l)) (ht : ∀ q, tldP P2 q ↔ tldP P q ∨ q = 8 * v1 + v0) : RGP M2 P2 := by
  obtain ⟨r, l, r1, r2, r3, r4, r5⟩ := h
  obtain ⟨g1, g2⟩ := hg r l r1 r2 r3 r4
  have e1 : (8 * v1 + v0) % 8 = v0 := by omega
  have e2 : (8 * v1 + v0) / 8 = v1 := by omega
  refine ⟨mxN v0 r, mxN v1 l, by unfold mxN; split <;> omega, by unfold mxN; split <;> omega, g1, g2, fun k => ⟨?_, ?_⟩⟩
  · have hm : k < mxN v0 r ↔ k < r ∨ k ≤ v0 := by unfold mxN; split <;> omega
    rw [hm, (r5 k).1]
    constructor
    · rintro (⟨q, q1, q2⟩ | e)
      · exact ⟨q, (ht q).mpr (Or.inl q1), q2⟩
      · exact ⟨8 * v1 + v0, (ht _).mpr (Or.inr rfl), by omega⟩
    · rintro ⟨q, q1, q2⟩
      rcases (ht q).mp q1 with z | z
      · exact Or.inl ⟨q, z, q2⟩
      · rw [z] at q2; exact Or.inr (by omega)
  · have hm : k < mxN v1 l ↔ k < l ∨ k ≤ v1 := by unfold mxN; split <;> omega
    rw [hm, (r5 k).2]
    constructor
    · rintro (⟨q, q1, q2⟩ | e)
      · exact ⟨q, (ht q).mpr (Or.inl q1), q2⟩
      · exact ⟨8 * v1 + v0, (ht _).mpr (Or.inr rfl), by omega⟩
    · rintro ⟨q, q1, q2⟩
      rcases (ht q).mp q1 with z | z
      · exact Or.inl ⟨q, z, q2⟩
      · rw [z] at q2; exact Or.inr (by omega)
theorem RS_90 {M : MM} {tp : Nat → Nat} {len k : Nat} {v : Int32} {σ : RST} (hk : 9 ≤ k) (h : RSm M tp len σ) : RSm (sI M 90 k v) tp len σ := by
  obtain ⟨a1, a2, a3, a4, a5, a6, a7⟩ := h
  exact ⟨⟨by rw [gI_nk _ _ _ _ _ _ (by omega)]; exact a1.1, a1.2.1, fun i hi => by rw [gI_ne _ _ _ _ _ _ (by decide)]; exact a1.2.2 i hi⟩, TKm_eq a2 (fun j _ _ => by rw [gI_nk _ _ _ _ _ _ (by omega)]), a3, by rw [gI_ne _ _ _ _ _ _ (by decide)]; exact a4, by rw [gI_ne _ _ _ _ _ _ (by decide)]; exact a5, by rw [gI_nk _ _ _ _ _ _ (by omega)]; exact a6, a7⟩
theorem bn_q : ∀ w, w < 7 → 1 ≤ w → bnL w 0 = 0 ∧ bnG w 0 = 7 ∧ bnL w 1 = 0 ∧ bnG w 1 = 7 := by decide +kernel
def WRb (M M2 : MM) : Prop := Fr [90, 91] M M2 ∧ ∀ k, k ≠ 5 → k ≠ 6 → gI M2 91 k = gI M 91 k
theorem WRb.two {M M2 : MM} (h : WRb M M2) : WR2 M M2 := ⟨h.1.mono (by decide), h.2⟩
theorem WRb.g93 {M M2 : MM} (h : WRb M M2) (k : Nat) : gI M2 93 k = gI M 93 k := h.1.gi (by decide) k
theorem sqT_RS {M : MM} {tp : Nat → Nat} {len w : Nat} {σ : RST} (h1w : 1 ≤ w) (hw6 : w ≤ 6) (h : RSm M tp len σ) (hp : PLC σ.1 σ) :
    ∃ M2, fX12_squareTold M = some (nI (8 * vlK tp len w 1 σ + vlK tp len w 0 σ), M2) ∧ WRb M M2 ∧ RSm M2 tp len (stK tp len w 2 σ) ∧ (vlK tp len w 0 σ ≤ 7 ∧ vlK tp len w 1 σ ≤ 7) ∧
      ∀ r l, r ≤ 8 → l ≤ 8 → gI M 90 9 = rgI r → gI M 90 10 = rgI l → gI M2 90 9 = rgI (mxN (vlK tp len w 0 σ) r) ∧ gI M2 90 10 = rgI (mxN (vlK tp len w 1 σ) l) := by
  obtain ⟨b1, b2, b3, b4⟩ := bn_q w (by omega) h1w
  obtain ⟨M1, n1, n2, n3⟩ := numK_RS (w := w) (k := 0) (σ := σ) (by omega) (by decide) h hp
  obtain ⟨M2, o1, o2, o3⟩ := numK_RS (w := w) (k := 1) (σ := σ) (by omega) (by decide) n3 hp
  have v0 : vlK tp len w 0 σ ≤ 7 := by
    have := (rdV_in (tp := tp) (len := len) (lo := bnL w 0) (hi := bnG w 0) (σ := stK tp len w 0 σ) (by omega)).2
    rw [b2] at this; unfold vlK; rw [b2]; exact this
  have v1 : vlK tp len w 1 σ ≤ 7 := by
    have := (rdV_in (tp := tp) (len := len) (lo := bnL w 1) (hi := bnG w 1) (σ := stK tp len w 1 σ) (by omega)).2
    rw [b4] at this; unfold vlK; rw [b4]; exact this
  rw [b1, b2] at n1
  rw [b3, b4] at o1
  unfold fX12_squareTold
  rw [show fX12_numbered M 0 7 = _ from n1, bd_s]
  show ∃ M2, (fX12_numbered M1 0 7).bind _ = _ ∧ _
  rw [show fX12_numbered M1 0 7 = _ from o1, bd_s]
  show ∃ M3, (if nI (vlK tp len w 0 σ) ≤ gI M2 90 9 then fX12_squareTold_j33 M2 (nI (vlK tp len w 0 σ)) (nI (vlK tp len w 1 σ)) (gI M2 90 9) else fX12_squareTold_j33 M2 (nI (vlK tp len w 0 σ)) (nI (vlK tp len w 1 σ)) (nI (vlK tp len w 0 σ))) = _ ∧ _
  unfold fX12_squareTold_j33 fX12_squareTold_j53
  have e0 : ∀ A : Int32, (if nI (vlK tp len w 0 σ) ≤ gI M2 90 9 then bnd (sI M2 90 9 (gI M2 90 9)) (fun M10 => if nI (vlK tp len w 1 σ) ≤ gI M10 90 10 then bnd (sI M10 90 10 (gI M10 90 10)) (fun M17 => some (A, M17)) else bnd (sI M10 90 10 (nI (vlK tp len w 1 σ))) (fun M17 => some (A, M17))) else bnd (sI M2 90 9 (nI (vlK tp len w 0 σ))) (fun M10 => if nI (vlK tp len w 1 σ) ≤ gI M10 90 10 then bnd (sI M10 90 10 (gI M10 90 10)) (fun M17 => some (A, M17)) else bnd (sI M10 90 10 (nI (vlK tp len w 1 σ))) (fun M17 => some (A, M17)))) = some (A, sI (sI M2 90 9 (if nI (vlK tp len w 0 σ) ≤ gI M2 90 9 then gI M2 90 9 else nI (vlK tp len w 0 σ))) 90 10 (if nI (vlK tp len w 1 σ) ≤ gI M2 90 10 then gI M2 90 10 else nI (vlK tp len w 1 σ))) := fun A => by
    simp only [bnd_r]
    by_cases c : nI (vlK tp len w 0 σ) ≤ gI M2 90 9
    · rw [if_pos c, if_pos c, gI_nk _ _ _ _ _ _ (by decide)]
      by_cases d : nI (vlK tp len w 1 σ) ≤ gI M2 90 10
      · rw [if_pos d, if_pos d]
      · rw [if_neg d, if_neg d]
    · rw [if_neg c, if_neg c, gI_nk _ _ _ _ _ _ (by decide)]
      by_cases d : nI (vlK tp len w 1 σ) ≤ gI M2 90 10
      · rw [if_pos d, if_pos d]
      · rw [if_neg d, if_neg d]
  rw [e0, nl8, pk_mul, nI_add]
  refine ⟨_, rfl, ⟨((n2.trans o2).1.pI (by decide)).pI (by decide), fun k h1 h2 => by rw [gI_ne _ _ _ _ _ _ (by decide), gI_ne _ _ _ _ _ _ (by decide)]; exact (n2.trans o2).2.2 k h1 h2⟩, RS_90 (by decide) (RS_90 (by decide) o3), ⟨v0, v1⟩, fun r l r8 l8 hr hl => ?_⟩
  have g9 : gI M2 90 9 = rgI r := by rw [(n2.trans o2).2.1 9 (by decide)]; exact hr
  have g10 : gI M2 90 10 = rgI l := by rw [(n2.trans o2).2.1 10 (by decide)]; exact hl
  rw [gI_nk _ _ _ _ _ _ (by decide), gI_eq, gI_eq, g9, g10]
  unfold mxN
  constructor
  · by_cases c : vlK tp len w 0 σ < r
    · rw [if_pos c, if_pos ((rg_le _ (by omega) _ (by omega)).mpr c)]
    · rw [if_neg c, if_neg (fun z => c ((rg_le _ (by omega) _ (by omega)).mp z)), rg_s]
  · by_cases c : vlK tp len w 1 σ < l
    · rw [if_pos c, if_pos ((rg_le _ (by omega) _ (by omega)).mpr c)]
    · rw [if_neg c, if_neg (fun z => c ((rg_le _ (by omega) _ (by omega)).mp z)), rg_s]
/-- a person's line, behind its word -/
theorem perL_RS {M : MM} {tp : Nat → Nat} {len : Nat} {D : DRF} {σ : RST} (hlt : σ.1 < len) (h : RSm M tp len (mvF tp len σ)) (h1 : σ.2.1 ≠ 1) (hp : PLC σ.1 σ) (hG : GDP M) (hD : σ.2.1 = 0 → RDP M D.1) :
    ∃ M2, fX12_personLine M (nI σ.1) = some M2 ∧ WR2 M M2 ∧ RSm M2 tp len (stK tp len 2 3 (ln1 tp len D 2 σ)) ∧ GDP M2 ∧ ((stK tp len 2 3 (ln1 tp len D 2 σ)).2.1 = 0 → RDP M2 (kpP 2 (fun k => vlK tp len 2 k (ln1 tp len D 2 σ)) D.1)) := by
  obtain ⟨a, b, a8, b8, ga, gb⟩ := hG
  have hfl : σ.2.1 = 0 → fulD D 2 = decide (8 ≤ a) := fun z => by
    obtain ⟨r0, -, -, r3, -⟩ := hD z
    have : pN D.1 = a := (nI_eq (by omega) (by omega)).mp (r3.symm.trans ga)
    unfold fulD
    rw [if_pos rfl, this]
  obtain ⟨Mb, b1, b2, b3, b4⟩ := ful_RS (w := 2) (D := D) (b := decide (8 ≤ a)) h h1 (by omega) hp hfl
  have hpl := PLC_l1 (tp := tp) (w := 2) (D := D) hlt hp
  obtain ⟨Mc, c1, c2, c3, ⟨c4, c5⟩, c6⟩ := sqT_RS (w := 2) (by decide) (by decide) b4 hpl
  obtain ⟨Md, d1, d2, d3⟩ := numK_RS (w := 2) (k := 2) (σ := ln1 tp len D 2 σ) (by decide) (by decide) c3 hpl
  have gdk : ∀ k, gI Md 93 k = gI M 93 k := fun k => by rw [d2.g93, c2.g93, b3.g93]
  have hj : ∀ y, (fX12_personLine_j27 Mb y) = if y = 0 then some Md else gd (inb (68 + 2 * gI Md 93 (ix 2)) 124) (bnd (sI Md 93 (ix (68 + 2 * gI Md 93 (ix 2))) (nI (8 * vlK tp len 2 1 (ln1 tp len D 2 σ) + vlK tp len 2 0 (ln1 tp len D 2 σ)))) (fun M14 => gd (inb (68 + 2 * gI M14 93 (ix 2) + 1) 124) (bnd (sI M14 93 (ix (68 + 2 * gI M14 93 (ix 2) + 1)) (nI (vlK tp len 2 2 (ln1 tp len D 2 σ)))) (fun M17 => bnd (sI M17 93 (ix 2) (gI M17 93 (ix 2) + 1)) (fun M19 => some M19))))) := fun y => by
    unfold fX12_personLine_j27
    rw [c1, bd_s]
    show (fX12_numbered Mc 0 9).bind _ = _
    rw [show fX12_numbered Mc 0 9 = _ from d1, bd_s]
  unfold fX12_personLine fX12_personLine_j16
  rw [ix2l, ga, nl8]
  by_cases c : 8 ≤ a
  · rw [le_t c (by omega), if_pos rfl, b1 (decide_eq_true c), bd_s, hj, if_pos rfl]
    refine ⟨Md, rfl, b3.two.trans (c2.two.trans d2.two), d3, ⟨a, b, a8, b8, by rw [gdk]; exact ga, by rw [gdk]; exact gb⟩, fun h0 => ?_⟩
    have y1 := (stK_0 _ h0).1
    have y2 := (ln0_full (show (ln0 D 2 σ).2.1 = 0 from y1))
    rw [hfl y2.2, decide_eq_true c] at y2
    exact absurd y2.1.symm Bool.false_ne_true
  · have eM := b2 (decide_eq_false c)
    rw [le_f (by omega) (by decide), if_neg i10, ← eM, hj, if_neg i10, ix2l, gdk 2, ga, nl2, pk_mul, nl68, nI_add, gd_inb (by omega) (by decide), bnd_r, ix_nI (by omega), gI_nk _ _ _ _ _ _ (by omega), gdk 2, ga, pk_mul, nI_add, nI_1, gd_inb (by omega) (by decide), bnd_r, ix_nI (by omega), gI_nk _ _ _ _ _ _ (by omega), gI_nk _ _ _ _ _ _ (by omega), gdk 2, ga, nI_1, bnd_r]
    refine ⟨_, rfl, (c2.two.trans d2.two).p93.p93.p93, RS_93 (RS_93 (RS_93 d3)), ⟨a + 1, b, by omega, b8, by rw [gI_eq], ?_⟩, fun h0 => ?_⟩
    · simp (disch := omega) only [gI_nk]; rw [gdk]; exact gb
    · have y1 := (stK_0 _ h0).1
      obtain ⟨y2, y3⟩ := ln0_full (show (ln0 D 2 σ).2.1 = 0 from y1)
      obtain ⟨r0, r1, r2, r3, r4, r5, r6, r7, r8⟩ := hD y3
      have ea : pN D.1 = a := (nI_eq (by omega) (by omega)).mp (r3.symm.trans ga)
      have k2 : kpP 2 (fun k => vlK tp len 2 k (ln1 tp len D 2 σ)) D.1 = (pW D.1, pH D.1, pN D.1 + 1, pS D.1, pWa D.1, fun k => if k = pN D.1 then 8 * vlK tp len 2 1 (ln1 tp len D 2 σ) + vlK tp len 2 0 (ln1 tp len D 2 σ) else pAt D.1 k, fun k => if k = pN D.1 then vlK tp len 2 2 (ln1 tp len D 2 σ) else pNm D.1 k, pSh D.1) := rfl
      rw [k2]
      refine ⟨⟨by show pN D.1 + 1 ≤ 8; omega, r0.2⟩, ?_, ?_, ?_, ?_, fun q hq => ?_, fun k hk => ?_, fun k hk j hj => ?_, ?_⟩
      · simp (disch := omega) only [gI_nk]; rw [gdk]; exact r1
      · simp (disch := omega) only [gI_nk]; rw [gdk]; exact r2
      · rw [gI_eq]; show nI (a + 1) = nI (pN D.1 + 1); rw [ea]
      · simp (disch := omega) only [gI_nk]; rw [gdk]; exact r4
      · simp (disch := omega) only [gI_nk]; rw [gdk]; exact r5 q hq
      · have hk : k < pN D.1 + 1 := hk
        show _ = nI (if k = pN D.1 then _ else pAt D.1 k) ∧ _ = nI (if k = pN D.1 then _ else pNm D.1 k)
        by_cases z : k = pN D.1
        · have z2 : k = a := z.trans ea
          rw [if_pos z, if_pos z, z2]
          simp (disch := omega) only [gI_nk, gI_eq]; exact ⟨trivial, trivial⟩
        · rw [if_neg z, if_neg z]
          simp (disch := omega) only [gI_nk]; rw [gdk, gdk]; exact r6 k (by omega)
      · have : k < pS D.1 := hk
        have := r0.2
        simp (disch := omega) only [gI_nk]; rw [gdk]; exact r7 k hk j hj
      · obtain ⟨r, l, q1, q2, q3, q4, q5⟩ := r8
        have hadd := RGP_add (M := Mb) (M2 := Mc) (P := D.1) (P2 := kpP 2 (fun k => vlK tp len 2 k (ln1 tp len D 2 σ)) D.1) c4 c5 ⟨r, l, q1, q2, by rw [b3.2.1 9 (by decide)]; exact q3, by rw [b3.2.1 10 (by decide)]; exact q4, q5⟩ c6 (fun q => by
          rw [k2]
          unfold tldP
          constructor
          · rintro (z | ⟨k, z1, z2⟩ | z)
            · exact Or.inl (Or.inl z)
            · have z1 : k < pN D.1 + 1 := z1
              have z2 : (if k = pN D.1 then 8 * vlK tp len 2 1 (ln1 tp len D 2 σ) + vlK tp len 2 0 (ln1 tp len D 2 σ) else pAt D.1 k) = q := z2
              by_cases e : k = pN D.1
              · rw [if_pos e] at z2; exact Or.inr z2.symm
              · rw [if_neg e] at z2; exact Or.inl (Or.inr (Or.inl ⟨k, by omega, z2⟩))
            · exact Or.inl (Or.inr (Or.inr z))
          · rintro ((z | ⟨k, z1, z2⟩ | z) | z)
            · exact Or.inl z
            · refine Or.inr (Or.inl ⟨k, Nat.lt_succ_of_lt z1, ?_⟩)
              show (if k = pN D.1 then _ else pAt D.1 k) = q
              rw [if_neg (by omega)]; exact z2
            · exact Or.inr (Or.inr z)
            · refine Or.inr (Or.inl ⟨pN D.1, Nat.lt_succ_self _, ?_⟩)
              show (if pN D.1 = pN D.1 then _ else pAt D.1 _) = q
              rw [if_pos rfl]; exact z.symm)
        rw [k2] at hadd
        obtain ⟨r', l', w1, w2, w3, w4, w5⟩ := hadd
        exact ⟨r', l', w1, w2, by simp (disch := decide) only [gI_ne]; rw [d2.2.1 9 (by decide)]; exact w3, by simp (disch := decide) only [gI_ne]; rw [d2.2.1 10 (by decide)]; exact w4, w5⟩
