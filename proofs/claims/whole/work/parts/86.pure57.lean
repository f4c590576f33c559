/-! ===== text: the draft ===== -/
abbrev EVD : Type := Nat × (Nat → Nat → Int32)
abbrev DRF : Type := PARD × (Nat → Nat) × EVD × (Nat → Nat)
def kpP (w : Nat) (v : Nat → Nat) (P : PARD) : PARD :=
  if w = 0 then (v 0, v 1, P.2.2)
  else if w = 1 then (pW P, pH P, pN P, pS P, fun q => pWa P q || decide (q = 8 * v 1 + v 0), pAt P, pNm P, pSh P)
  else if w = 2 then (pW P, pH P, pN P + 1, pS P, pWa P, fun k => if k = pN P then 8 * v 1 + v 0 else pAt P k, fun k => if k = pN P then v 2 else pNm P k, pSh P)
  else (pW P, pH P, pN P, pS P + 1, pWa P, pAt P, pNm P, fun k j => if k = pS P then (if j = 0 then w - 3 else if j = 1 then 8 * v 1 + v 0 else v j) else pSh P k j)
def kpL (w : Nat) (v : Nat → Nat) (kd : Nat) (L : Nat → Nat) : Nat → Nat := fun j =>
  if w = 7 then (if j = 0 then v 0 else L j) else if w = 8 then (if j = 3 then v 0 else L j) else if w = 9 then (if j = 4 then v 0 else L j)
  else if w = 10 then (if j = 5 then v 0 else L j) else if w = 11 then (if j = 1 then 0 else L j) else (if j = 2 then L 2 ||| 2 ^ kd else L j)
def kpE (w : Nat) (v : Nat → Nat) (E : EVD) : EVD := (E.1 + 1, fun i c => if i = E.1 then (if c = 0 then nI (w - 13) else if c = 1 then (if w = 17 then -1 else nI (v 0)) else (if w ≤ 14 then nI (v 1) else -1)) else E.2 i c)
def kpS (w : Nat) (v : Nat → Nat) (S : Nat → Nat) : Nat → Nat := fun i => if w = 19 then (if i = 0 then v 0 else S i) else (if i = 1 + v 0 then 1 + v 1 else S i)
def kpD (w : Nat) (v : Nat → Nat) (kd : Nat) (D : DRF) : DRF := if w ≤ 6 then (kpP w v D.1, D.2) else if w ≤ 12 then (D.1, kpL w v kd D.2.1, D.2.2) else if w ≤ 17 then (D.1, D.2.1, kpE w v D.2.2.1, D.2.2.2) else (D.1, D.2.1, D.2.2.1, kpS w v D.2.2.2)
def fulD (D : DRF) (w : Nat) : Bool := if w = 2 then decide (8 ≤ pN D.1) else if 3 ≤ w ∧ w ≤ 6 then decide (8 ≤ pS D.1) else if 13 ≤ w ∧ w ≤ 17 then decide (40 ≤ D.2.2.1.1) else false
def DPW (P : PARD) : Prop := (2 ≤ pW P ∧ pW P ≤ 8) ∧ (2 ≤ pH P ∧ pH P ≤ 8) ∧ pN P ≤ 8 ∧ pS P ≤ 8 ∧ (∀ q, pWa P q = true → q < 64) ∧ (∀ k, k < pN P → pAt P k < 64 ∧ pNm P k < 10) ∧
  (∀ k, k < pS P → pSh P k 0 < 4 ∧ pSh P k 1 < 64 ∧ pSh P k 2 < 8 ∧ (1 ≤ pSh P k 3 ∧ pSh P k 3 ≤ 9) ∧ pSh P k 4 < 4)
def LWd (L : Nat → Nat) : Prop := L 0 ≤ 9 ∧ L 1 ≤ 1 ∧ L 2 < 16 ∧ (1 ≤ L 3 ∧ L 3 ≤ 20) ∧ L 4 ≤ 2 ∧ L 5 ≤ 9
def EWd (E : EVD) : Prop := E.1 ≤ 40 ∧ ∀ i, i < E.1 → (∃ j : Nat, j < 5 ∧ E.2 i 0 = nI j) ∧ (∀ c, c = 1 ∨ c = 2 → E.2 i c = -1 ∨ ∃ j : Nat, j < 8 ∧ E.2 i c = nI j) ∧ (E.2 i 0 = 0 ∨ E.2 i 0 = 1 → ∃ j : Nat, j < 8 ∧ E.2 i 2 = nI j)
def SWd (S : Nat → Nat) : Prop := S 0 ≤ 9 ∧ ∀ i, i < 8 → S (1 + i) ≤ 10
def DWf (D : DRF) : Prop := DPW D.1 ∧ LWd D.2.1 ∧ EWd D.2.2.1 ∧ SWd D.2.2.2
/-- the draft in the class -/
def CDP (M : MM) (P : PARD) : Prop := gI M 42 0 = nI (pW P) ∧ gI M 42 1 = nI (pH P) ∧ gI M 42 2 = nI (pN P) ∧ gI M 42 3 = nI (pS P) ∧ (∀ k, k < pN P → gI M 43 k = nI (pAt P k) ∧ gI M 44 k = nI (pNm P k)) ∧
  (∀ k, k < pS P → gI M 45 k = nI (pSh P k 0) ∧ gI M 46 k = nI (pSh P k 1) ∧ gI M 47 k = nI (pSh P k 2) ∧ gI M 48 k = nI (pSh P k 3) ∧ gI M 49 k = nI (pSh P k 4)) ∧
  (∃ m, m < 2 ^ 64 ∧ gL M 42 12 = lN m ∧ ∀ q, q < 64 → m.testBit q = pWa P q) ∧ (∀ c, c < 64 → gI M 50 c = 0) ∧ RD M
def CDL (M : MM) (L : Nat → Nat) : Prop := ∀ j, j < 6 → gI M 51 j = nI (L j)
def CDE (M : MM) (E : EVD) : Prop := gI M 52 0 = nI E.1 ∧ ∀ i, i < E.1 → ∀ c, c < 3 → gI M (53 + c) i = E.2 i c
def CDS (M : MM) (S : Nat → Nat) : Prop := gI M 56 0 = nI (S 0) ∧ ∀ i, i < 8 → gI M 57 i = nI (S (1 + i)) - 1
def CDf (M : MM) (D : DRF) : Prop := CDP M D.1 ∧ CDL M D.2.1 ∧ CDE M D.2.2.1 ∧ CDS M D.2.2.2
def offL (lo hi : Nat) (L : List Nat) : Bool := L.all (fun c => decide (c < lo ∨ hi < c))
theorem offL_n {lo hi : Nat} {L : List Nat} (h : offL lo hi L = true) {c : Nat} (h1 : lo ≤ c) (h2 : c ≤ hi) : c ∉ L := fun q => by
  have := of_decide_eq_true (List.all_eq_true.mp h c q)
  omega
theorem CDP_fr {M M2 : MM} {P : PARD} {L : List Nat} (h : CDP M P) (hF : Fr L M M2) (hL : offL 42 50 L = true) : CDP M2 P := by
  have g : ∀ c k, 42 ≤ c → c ≤ 50 → gI M2 c k = gI M c k := fun c k h1 h2 => hF.gi (offL_n hL h1 h2) k
  obtain ⟨a1, a2, a3, a4, a5, a6, ⟨m, a7, a8, a9⟩, a10, a11⟩ := h
  refine ⟨by rw [g _ _ (by decide) (by decide)]; exact a1, by rw [g _ _ (by decide) (by decide)]; exact a2, by rw [g _ _ (by decide) (by decide)]; exact a3, by rw [g _ _ (by decide) (by decide)]; exact a4, fun k hk => ?_, fun k hk => ?_, ⟨m, a7, by rw [hF.gl (offL_n hL (by decide) (by decide))]; exact a8, a9⟩, fun c hc => by rw [g _ _ (by decide) (by decide)]; exact a10 c hc, fun k hk => by rw [g _ _ (by decide) (by decide)]; exact a11 k hk⟩
  · rw [g _ _ (by decide) (by decide), g _ _ (by decide) (by decide)]; exact a5 k hk
  · rw [g _ _ (by decide) (by decide), g _ _ (by decide) (by decide), g _ _ (by decide) (by decide), g _ _ (by decide) (by decide), g _ _ (by decide) (by decide)]; exact a6 k hk
theorem CDL_fr {M M2 : MM} {X : Nat → Nat} {L : List Nat} (h : CDL M X) (hF : Fr L M M2) (hL : offL 51 51 L = true) : CDL M2 X := fun j hj => by rw [hF.gi (offL_n hL (by decide) (by decide))]; exact h j hj
theorem CDE_fr {M M2 : MM} {X : EVD} {L : List Nat} (h : CDE M X) (hF : Fr L M M2) (hL : offL 52 55 L = true) : CDE M2 X :=
  ⟨by rw [hF.gi (offL_n hL (by decide) (by decide))]; exact h.1, fun i hi c hc => by rw [hF.gi (offL_n hL (by omega) (by omega))]; exact h.2 i hi c hc⟩
theorem CDS_fr {M M2 : MM} {X : Nat → Nat} {L : List Nat} (h : CDS M X) (hF : Fr L M M2) (hL : offL 56 57 L = true) : CDS M2 X :=
  ⟨by rw [hF.gi (offL_n hL (by decide) (by decide))]; exact h.1, fun i hi => by rw [hF.gi (offL_n hL (by decide) (by decide))]; exact h.2 i hi⟩
theorem CDf_fr {M M2 : MM} {D : DRF} {L : List Nat} (h : CDf M D) (hF : Fr L M M2) (h1 : offL 42 57 L = true) : CDf M2 D := by
  have hh : ∀ lo hi, 42 ≤ lo → hi ≤ 57 → offL lo hi L = true := fun lo hi x y => List.all_eq_true.mpr (fun c hc => by
    have := of_decide_eq_true (List.all_eq_true.mp h1 c hc)
    exact decide_eq_true (by omega))
  exact ⟨CDP_fr h.1 hF (hh _ _ (by decide) (by decide)), CDL_fr h.2.1 hF (hh _ _ (by decide) (by decide)), CDE_fr h.2.2.1 hF (hh _ _ (by decide) (by decide)), CDS_fr h.2.2.2 hF (hh _ _ (by decide) (by decide))⟩
theorem full_cls {M : MM} {D : DRF} {w : Nat} (hD : DWf D) (h : CDf M D) (hw : w < 20) : fX7_isFull M (nI w) = bI (fulD D w) := by
  have p1 := hD.1.2.2.1
  have p2 := hD.1.2.2.2.1
  have p3 := hD.2.2.1.1
  have j52 : ∀ w, w < 20 → fX7_isFull_j52 M (nI w) = bI (if 13 ≤ w ∧ w ≤ 17 then decide (40 ≤ D.2.2.1.1) else false) := fun w hw => by
    unfold fX7_isFull_j52
    rw [h.2.2.1.1, show (13 : Int32) = nI 13 from rfl, nl18, show (40 : Int32) = nI 40 from rfl]
    by_cases c1 : w < 13
    · rw [lt_t c1 (by omega), if_neg (by omega)]; rfl
    · rw [lt_f (by omega) (by omega)]
      by_cases c2 : 18 ≤ w
      · rw [le_t c2 (by omega), if_neg (by omega)]; rfl
      · rw [le_f (by omega) (by omega), if_pos (show 13 ≤ w ∧ w ≤ 17 by omega)]
        by_cases c3 : D.2.2.1.1 < 40
        · rw [lt_t c3 (by omega), decide_eq_false (by omega)]; rfl
        · rw [lt_f (by omega) (by omega), decide_eq_true (by omega)]; rfl
  unfold fX7_isFull fulD
  rw [j52 w hw, h.1.2.2.1, h.1.2.2.2.1, nl2, nl3, nl6, nl8]
  by_cases c1 : w = 2
  · rw [eqn_t c1, if_pos c1]
    by_cases z : pN D.1 < 8
    · rw [lt_t z (by omega), decide_eq_false (by omega)]; rfl
    · rw [lt_f (by omega) (by omega), decide_eq_true (by omega)]; rfl
  · rw [eqn_f c1 (by omega) (by omega), if_neg c1]
    by_cases c2 : w < 3
    · rw [lt_t c2 (by omega), if_neg (by omega)]; rw [if_neg (show ¬ (3 ≤ w ∧ w ≤ 6) by omega)]
    · rw [lt_f (by omega) (by omega)]
      by_cases c3 : 6 < w
      · rw [lt_t c3 (by omega), if_neg (show ¬ (3 ≤ w ∧ w ≤ 6) by omega)]
      · rw [lt_f (by omega) (by omega), if_pos (show 3 ≤ w ∧ w ≤ 6 by omega)]
        by_cases z : pS D.1 < 8
        · rw [lt_t z (by omega), decide_eq_false (by omega)]; rfl
        · rw [lt_f (by omega) (by omega), decide_eq_true (by omega)]; rfl
theorem ix0l : ix 0 = 0 := by decide
theorem ix1l : ix 1 = 1 := by decide
theorem ix2l : ix 2 = 2 := by decide
theorem ix3l : ix 3 = 3 := by decide
theorem ix4l : ix 4 = 4 := by decide
theorem bn_s : ∀ w, w < 7 → 3 ≤ w → nmN w = 5 ∧ bnG w 0 = 7 ∧ bnG w 1 = 7 ∧ bnG w 2 = 7 ∧ bnG w 3 = 9 ∧ bnL w 3 = 1 ∧ bnG w 4 = 3 := by decide +kernel
theorem keepP_cls {M : MM} {P : PARD} {w : Nat} {v : Nat → Nat} (hw : w ≤ 6) (h : CDP M P) (hP : DPW P) (hv : ∀ j, j < nmN w → (bnL w j ≤ v j ∧ v j ≤ bnG w j) ∧ gI M 58 j = nI (v j)) (hf : w = 2 → pN P < 8) (hs : 3 ≤ w → pS P < 8) :
    ∃ M2, fX7_keepOfParish M (nI w) = some M2 ∧ Fr [42, 43, 44, 45, 46, 47, 48, 49] M M2 ∧ CDP M2 (kpP w v P) ∧ DPW (kpP w v P) := by
  obtain ⟨a1, a2, a3, a4, a5, a6, ⟨m, a7, a8, a9⟩, a10, a11⟩ := id h
  obtain ⟨b1, b2, b3, b4, b5, b6, b7⟩ := id hP
  unfold fX7_keepOfParish kpP
  simp only [ix0l, ix1l]
  by_cases c0 : w = 0
  · subst c0
    obtain ⟨⟨u1, u2⟩, u3⟩ := hv 0 (by decide)
    obtain ⟨⟨u4, u5⟩, u6⟩ := hv 1 (by decide)
    rw [if_pos (show nI 0 = 0 from rfl), if_pos rfl]
    refine ⟨sI (sI M 42 0 (nI (v 0))) 42 1 (nI (v 1)), ?_, (Fr.rfl.pI (by decide)).pI (by decide), ⟨?_, ?_, ?_, ?_, fun k hk => ?_, fun k hk => ?_, ⟨m, a7, a8, a9⟩, fun c hc => ?_, fun k hk => ?_⟩, ⟨u1, u2⟩, ⟨u4, u5⟩, b3, b4, b5, b6, b7⟩
    · rw [bnd_r, bnd_r, gI_ne _ _ _ _ _ _ (by decide), u3, u6]
    · rw [gI_nk _ _ _ _ _ _ (by decide), gI_eq]
    · rw [gI_eq]
    · simp (disch := decide) only [gI_nk]; exact a3
    · simp (disch := decide) only [gI_nk]; exact a4
    · simp (disch := decide) only [gI_ne]; exact a5 k hk
    · simp (disch := decide) only [gI_ne]; exact a6 k hk
    · simp (disch := decide) only [gI_ne]; exact a10 c hc
    · simp (disch := decide) only [gI_ne]; exact a11 k hk
  · rw [if_neg (show ¬ nI w = 0 from nI_ne0 (by omega) (by omega)), if_neg c0]
    by_cases c1 : w = 1
    · subst c1
      obtain ⟨⟨u1, u2⟩, u3⟩ := hv 0 (by decide)
      obtain ⟨⟨u4, u5⟩, u6⟩ := hv 1 (by decide)
      have u2 : v 0 ≤ 7 := u2
      have u5 : v 1 ≤ 7 := u5
      rw [if_pos (show nI 1 = 1 from rfl), if_pos rfl]
      unfold fX5_addWall
      rw [ix0l, ix1l, u3, u6, nl8, pk_mul, nI_add, a8]
      have e1 : jlshl 1 (nI (8 * v 1 + v 0)) = lN (2 ^ (8 * v 1 + v 0)) := by
        have := wb_shl 1 (k := 8 * v 1 + v 0) (by omega)
        rw [Nat.one_mul] at this
        exact this
      have hp : 2 ^ (8 * v 1 + v 0) < 2 ^ 64 := Nat.pow_lt_pow_right (by decide) (by omega)
      rw [e1, wb_or a7 hp]
      refine ⟨sL M 42 12 (lN (m ||| 2 ^ (8 * v 1 + v 0))), rfl, Fr.rfl.pL (by decide), ⟨a1, a2, a3, a4, a5, a6, ⟨_, Nat.or_lt_two_pow a7 hp, by rw [gL_sL, if_pos ⟨rfl, rfl⟩], fun q hq => ?_⟩, a10, a11⟩, b1, b2, b3, b4, fun q hq => ?_, b6, b7⟩
      · rw [Nat.testBit_or, a9 q hq, tb_pow]
        show (_ || _) = (_ || _)
        congr 1
        rw [decide_eq_decide]
        exact ⟨fun e => e.symm, fun e => e.symm⟩
      · have hq : (pWa P q || decide (q = 8 * v 1 + v 0)) = true := hq
        rw [Bool.or_eq_true] at hq
        rcases hq with e | e
        · exact b5 q e
        · have := of_decide_eq_true e
          omega
    · rw [if_neg (show ¬ nI w = 1 from fun e => c1 ((nI_eq (by omega) (by decide)).mp e)), if_neg c1]
      by_cases c2 : w = 2
      · subst c2
        obtain ⟨⟨u1, u2⟩, u3⟩ := hv 0 (by decide)
        obtain ⟨⟨u4, u5⟩, u6⟩ := hv 1 (by decide)
        obtain ⟨⟨u7, u8⟩, u9⟩ := hv 2 (by decide)
        have u2 : v 0 ≤ 7 := u2
        have u5 : v 1 ≤ 7 := u5
        have u8 : v 2 ≤ 9 := u8
        have hn := hf rfl
        rw [if_pos (show nI 2 = 2 from rfl), if_pos rfl]
        unfold fX5_addPerson
        rw [ix0l, ix1l, ix2l, a3, nl8, lt_t hn (by decide), gd_inb hn (by decide), ix_nI (by omega), bnd_r, gI_ne _ _ _ _ _ _ (by decide), a3, gd_inb hn (by decide), bnd_r, ix_nI (by omega), gI_ne _ _ _ _ _ _ (by decide), gI_ne _ _ _ _ _ _ (by decide), gI_ne _ _ _ _ _ _ (by decide), a3, u3, u6, u9, pk_mul, nI_add, nI_1]
        refine ⟨sI (sI (sI M 43 (pN P) (nI (8 * v 1 + v 0))) 44 (pN P) (nI (v 2))) 42 2 (nI (pN P + 1)), rfl, ((Fr.rfl.pI (by decide)).pI (by decide)).pI (by decide), ⟨?_, ?_, ?_, ?_, fun k hk => ?_, fun k hk => ?_, ⟨m, a7, a8, a9⟩, fun c hc => ?_, fun k hk => ?_⟩, b1, b2, (by show pN P + 1 ≤ 8; omega), b4, b5, fun k hk => ?_, b7⟩
        · simp (disch := decide) only [gI_nk, gI_ne]; exact a1
        · simp (disch := decide) only [gI_nk, gI_ne]; exact a2
        · rw [gI_eq]
        · simp (disch := decide) only [gI_nk, gI_ne]; exact a4
        · have hk : k < pN P + 1 := hk
          show _ = nI (if k = pN P then 8 * v 1 + v 0 else pAt P k) ∧ _ = nI (if k = pN P then v 2 else pNm P k)
          by_cases e : k = pN P
          · rw [if_pos e, if_pos e, e]
            simp (disch := decide) only [gI_ne, gI_eq]; exact ⟨trivial, trivial⟩
          · rw [if_neg e, if_neg e]
            simp (disch := first | decide | assumption) only [gI_ne, gI_nk]; exact a5 k (by omega)
        · simp (disch := decide) only [gI_ne]; exact a6 k hk
        · simp (disch := decide) only [gI_ne]; exact a10 c hc
        · simp (disch := decide) only [gI_ne]; exact a11 k hk
        · have hk : k < pN P + 1 := hk
          show (if k = pN P then 8 * v 1 + v 0 else pAt P k) < 64 ∧ (if k = pN P then v 2 else pNm P k) < 10
          by_cases e : k = pN P
          · rw [if_pos e, if_pos e]; omega
          · rw [if_neg e, if_neg e]; exact b6 k (by omega)
      · obtain ⟨n5, g0, g1, g2, g3, g4, g5⟩ := bn_s w (by omega) (by omega)
        obtain ⟨⟨u1, u2⟩, u3⟩ := hv 0 (by omega)
        obtain ⟨⟨u4, u5⟩, u6⟩ := hv 1 (by omega)
        obtain ⟨⟨u7, u8⟩, u9⟩ := hv 2 (by omega)
        obtain ⟨⟨x1, x2⟩, x3⟩ := hv 3 (by omega)
        obtain ⟨⟨x4, x5⟩, x6⟩ := hv 4 (by omega)
        have hn := hs (by omega)
        rw [if_neg (show ¬ nI w = 2 from fun e => c2 ((nI_eq (by omega) (by decide)).mp e)), if_neg c2, nl3, pk_sub (show 3 ≤ w by omega)]
        unfold fX5_addShine
        have hFr : Fr [42, 43, 44, 45, 46, 47, 48, 49] M (sI (sI (sI (sI (sI (sI M 45 (pS P) (nI (w - 3))) 46 (pS P) (nI (8 * v 1 + v 0))) 47 (pS P) (nI (v 2))) 48 (pS P) (nI (v 3))) 49 (pS P) (nI (v 4))) 42 3 (nI (pS P + 1))) := (((((Fr.rfl.pI (by decide)).pI (by decide)).pI (by decide)).pI (by decide)).pI (by decide)).pI (by decide)
        refine ⟨_, ?_, hFr, ⟨?_, ?_, ?_, ?_, fun k hk => ?_, fun k hk => ?_, ⟨m, a7, a8, a9⟩, fun c hc => ?_, fun k hk => ?_⟩, b1, b2, b3, (by show pS P + 1 ≤ 8; omega), b5, b6, fun k hk => ?_⟩
        · simp (disch := first | decide | omega) only [ix0l, ix1l, ix2l, ix3l, ix4l, bnd_r, gI_ne, a4, gd_inb, ix_nI, u3, u6, u9, x3, x6, nl8, pk_mul, nI_add, nI_1]
          rw [lt_t hn (by decide)]
          rfl
        · simp (disch := decide) only [gI_nk, gI_ne]; exact a1
        · simp (disch := decide) only [gI_nk, gI_ne]; exact a2
        · simp (disch := decide) only [gI_nk, gI_ne]; exact a3
        · rw [gI_eq]
        · simp (disch := decide) only [gI_ne]; exact a5 k hk
        · have hk : k < pS P + 1 := hk
          show _ = nI (if k = pS P then w - 3 else pSh P k 0) ∧ _ = nI (if k = pS P then 8 * v 1 + v 0 else pSh P k 1) ∧ _ = nI (if k = pS P then v 2 else pSh P k 2) ∧ _ = nI (if k = pS P then v 3 else pSh P k 3) ∧ _ = nI (if k = pS P then v 4 else pSh P k 4)
          by_cases e : k = pS P
          · rw [if_pos e, if_pos e, if_pos e, if_pos e, if_pos e, e]
            simp (disch := decide) only [gI_ne, gI_eq]; exact ⟨trivial, trivial, trivial, trivial, trivial⟩
          · rw [if_neg e, if_neg e, if_neg e, if_neg e, if_neg e]
            simp (disch := first | decide | assumption) only [gI_ne, gI_nk]; exact a6 k (by omega)
        · simp (disch := decide) only [gI_ne]; exact a10 c hc
        · by_cases e : k = pS P
          · rw [e]; simp (disch := decide) only [gI_ne, gI_eq]; exact ⟨v 2, by omega, rfl⟩
          · simp (disch := first | decide | assumption) only [gI_ne, gI_nk]; exact a11 k hk
        · have hk : k < pS P + 1 := hk
          show (if k = pS P then w - 3 else pSh P k 0) < 4 ∧ (if k = pS P then 8 * v 1 + v 0 else pSh P k 1) < 64 ∧ (if k = pS P then v 2 else pSh P k 2) < 8 ∧ (1 ≤ (if k = pS P then v 3 else pSh P k 3) ∧ (if k = pS P then v 3 else pSh P k 3) ≤ 9) ∧ (if k = pS P then v 4 else pSh P k 4) < 4
          by_cases e : k = pS P
          · rw [if_pos e, if_pos e, if_pos e, if_pos e, if_pos e]; omega
          · rw [if_neg e, if_neg e, if_neg e, if_neg e, if_neg e]; exact b7 k (by omega)
