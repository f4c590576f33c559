/-! the reference walks -/
def nvI (o : Option Nat) : Int32 := match o with
  | none => 99
  | some v => nI v
def FM (M : MM) (B : BFS) : Prop := (∀ q, q < 64 → gI M 110 q = nvI (B.1 q)) ∧ ∀ j, j < B.2.2 → gI M 112 j = nI (B.2.1 j)
theorem isWall_ref {M : MM} {o : Nat} {P : PARD} {S : SCN} (hM : MS M o P S) {c : Nat} (hc : c < 64) : fX12_isWall M (nI c) = some (if pWa P c = true then 1 else 0) := by
  have ho := hM.2.2.2.1
  unfold fX12_isWall
  rw [hM.1, nl4, nI_add, nI_add, gd_inb (by omega) (by decide), ix_nI (by omega), hM.2.1.2.2.2.2.1 c hc]
  cases pWa P c <;> rfl
theorem walks_d {M : MM} {o : Nat} {P : PARD} (hP : PW P) (hM : MS M o P (scnOf P)) {B : BFS} (hI : BI P B) (hF : FM M B) {k d : Nat} (hk : k < B.2.2) (hd : d < 8) : ∃ M2, Fr [110, 112] M M2 ∧ FM M2 (bfD P B k d) ∧ ∀ (kk : MM → Int32 → Int32 → Option MM) f, fX12_walks_l48 kk (f + 1) M (nI B.2.2) (nI k) (nI d) = fX12_walks_l48 kk f M2 (nI (bfD P B k d).2.2) (nI k) (nI (d + 2)) := by
  have hw8 := hP.1.2
  have hh8 := hP.2.1.2
  obtain ⟨hin, v, hv, ev⟩ := hI.1 k hk
  have hl := inP_64 hh8 hin
  have h64 := BI_64 hI
  have e112 := hF.2 k hk
  have estep : fX12_beside M (nI (B.2.1 k)) (nI d) = some (opI (stepP (pW P) (pH P) (B.2.1 k) d)) := beside_spec hM hl hd
  have e2 : nI d + 2 = nI (d + 2) := by rw [nl2, nI_add]
  unfold bfD
  cases hs : stepP (pW P) (pH P) (B.2.1 k) d with
  | none =>
    refine ⟨M, Fr.rfl, hF, fun kk f => ?_⟩
    simp only []
    rw [fX12_walks_l48.eq_2, nl8, le_f hd (by decide), gd_inb (by omega) (by decide), ix_nI (by omega), e112, estep, hs, bd_s, if_pos (show opI none = -1 from rfl), e2]
  | some c =>
    simp only []
    have hc := (stepP_in hw8 hh8 hs).1
    have hlc := inP_64 hh8 hc
    have e110 := hF.1 c hlc
    have e110k : gI M 110 (B.2.1 k) = nI v := by rw [hF.1 _ hl, ev]; rfl
    have head : ∀ (kk : MM → Int32 → Int32 → Option MM) f, fX12_walks_l48 kk (f + 1) M (nI B.2.2) (nI k) (nI d) = (if (if pWa P c = true then (1 : Int32) else 0) = 0 then (if nvI (B.1 c) = 99 then (bnd (sI M 110 c (nI (v + 1))) (fun M41 => gd (inb (nI B.2.2) 64) (bnd (sI M41 112 (ix (nI B.2.2)) (nI c)) (fun M44 => fX12_walks_l48 kk f M44 (nI B.2.2 + 1) (nI k) (nI (d + 2)))))) else fX12_walks_l48 kk f M (nI B.2.2) (nI k) (nI (d + 2))) else fX12_walks_l48 kk f M (nI B.2.2) (nI k) (nI (d + 2))) := fun kk f => by
      rw [fX12_walks_l48.eq_2, nl8, le_f hd (by decide), gd_inb (by omega) (by decide), ix_nI (by omega), e112, estep, hs, bd_s, show opI (some c) = nI c from rfl, m1_iff (by omega), isWall_ref hM hlc, bd_s, gd_inb hlc (by decide), ix_nI (by omega), e110, gd_inb (by omega) (by decide), gd_inb hl (by decide), gd_inb hlc (by decide), ix_nI (by omega), e110k, nI_1, e2]
    by_cases hw : pWa P c = true
    · refine ⟨M, Fr.rfl, by rw [if_pos (Or.inl hw)]; exact hF, fun kk f => ?_⟩
      rw [if_pos (Or.inl hw), head kk f, if_pos hw, if_neg i10]
    · cases hst : B.1 c with
      | some w =>
        have := (BI_val hI hst).1
        refine ⟨M, Fr.rfl, by rw [if_pos (show pWa P c = true ∨ (some w).isSome = true from Or.inr rfl)]; exact hF, fun kk f => ?_⟩
        rw [if_pos (show pWa P c = true ∨ (some w).isSome = true from Or.inr rfl), head kk f, if_neg hw, if_pos rfl, hst, show nvI (some w) = nI w from rfl, nl99, eqn_f (by omega) (by omega) (by decide)]
      | none =>
        have hno : ¬ (pWa P c = true ∨ (none : Option Nat).isSome = true) := fun z => by
          rcases z with z | z
          · exact hw z
          · cases z
        have hlt : B.2.2 < 64 := BI_lt hI hlc (by rw [hst]; rfl)
        rw [if_neg hno]
        refine ⟨sI (sI M 110 c (nI (v + 1))) 112 B.2.2 (nI c), (Fr.rfl.pI (by decide)).pI (by decide), ⟨fun q hq => ?_, fun j hj => ?_⟩, fun kk f => ?_⟩
        · show gI (sI (sI M 110 _ _) 112 _ _) 110 _ = nvI (updF B.1 c _ q)
          rw [gI_ne _ _ _ _ _ _ (by decide)]
          by_cases z : q = c
          · rw [z, gI_eq, updF_eq, ev]; rfl
          · rw [gI_nk _ _ _ _ _ _ z, updF_ne _ _ z]; exact hF.1 q hq
        · have hj : j < B.2.2 + 1 := hj
          show gI (sI (sI M 110 _ _) 112 _ _) 112 j = nI (updF B.2.1 B.2.2 c j)
          by_cases z : j = B.2.2
          · rw [z, gI_eq, updF_eq]
          · rw [gI_nk _ _ _ _ _ _ z, gI_ne _ _ _ _ _ _ (by decide), updF_ne _ _ z]; exact hF.2 j (by omega)
        · rw [head kk f, if_neg hw, if_pos rfl, hst, if_pos (show nvI none = 99 from rfl), bnd_r, gd_inb hlt (by decide), ix_nI (by omega), bnd_r, nI_1]
theorem walks_k {M : MM} {o : Nat} {P : PARD} (hP : PW P) (hM : MS M o P (scnOf P)) {B : BFS} (hI : BI P B) (hF : FM M B) {k : Nat} (hk : k < B.2.2) : ∃ M2, Fr [110, 112] M M2 ∧ FM M2 (bfK P B k) ∧ ∀ kk : MM → Int32 → Int32 → Option MM, fX12_walks_l48 kk FU M (nI B.2.2) (nI k) (nI 0) = kk M2 (nI (bfK P B k).2.2) (nI k) := by
  obtain ⟨i1, k1, q1⟩ := bfD_BI hP hI (d := 0) hk
  obtain ⟨i2, k2, q2⟩ := bfD_BI hP i1 (d := 2) k1
  obtain ⟨i3, k3, q3⟩ := bfD_BI hP i2 (d := 4) k2
  obtain ⟨i4, k4, q4⟩ := bfD_BI hP i3 (d := 6) k3
  obtain ⟨M1, a1, a2, a3⟩ := walks_d hP hM hI hF (d := 0) hk (by decide)
  have hM1 := MS_fr hM a1 (by decide)
  obtain ⟨M2, b1, b2, b3⟩ := walks_d hP hM1 i1 a2 (d := 2) k1 (by decide)
  have hM2 := MS_fr hM1 b1 (by decide)
  obtain ⟨M3, c1, c2, c3⟩ := walks_d hP hM2 i2 b2 (d := 4) k2 (by decide)
  have hM3 := MS_fr hM2 c1 (by decide)
  obtain ⟨M4, d1, d2, d3⟩ := walks_d hP hM3 i3 c2 (d := 6) k3 (by decide)
  have ek : bfK P B k = bfD P (bfD P (bfD P (bfD P B k 0) k 2) k 4) k 6 := by unfold bfK; rw [if_pos hk]
  rw [ek]
  refine ⟨M4, ((a1.trans b1).trans c1).trans d1, d2, fun kk => ?_⟩
  show fX12_walks_l48 kk (4995 + 1 + 1 + 1 + 1 + 1) M (nI B.2.2) (nI k) (nI 0) = _
  rw [a3, b3, c3, d3, fX12_walks_l48.eq_2, if_pos (by decide)]
theorem walks_fill {M : MM} (y : Int32) : ∃ M2, (Fr [110] M M2 ∧ ∀ q, q < 64 → gI M2 110 q = 99) ∧ ∀ k : MM → Int32 → Option MM, fX12_walks_l2 k FU M y (nI 0) = k M2 y := by
  refine lpk (κ := MM → Int32 → Option MM) (σ := MM × Nat) (fun k f st => fX12_walks_l2 k f st.1 y (nI st.2)) (fun k M2 => k M2 y) 64
    (fun i st => i = st.2 ∧ Fr [110] M st.1 ∧ ∀ x, x < i → gI st.1 110 x = 99) _ ?_ ?_ FU 0 (M, 0) (by omega) (by decide) ⟨rfl, Fr.rfl, fun x hx => absurd hx (Nat.not_lt_zero x)⟩
  · rintro i ⟨M1, j⟩ hi ⟨rfl, hF, a1⟩
    left
    refine ⟨(sI M1 110 i 99, i + 1), ⟨rfl, hF.pI (by decide), fun x hx => ?_⟩, fun k f => ?_⟩
    · show gI (sI M1 110 i 99) 110 x = 99
      by_cases e : x = i
      · rw [e, gI_eq]
      · rw [gI_nk _ _ _ _ _ _ e]; exact a1 x (by omega)
    · show fX12_walks_l2 k (f + 1) M1 y (nI i) = fX12_walks_l2 k f (sI M1 110 i 99) y (nI (i + 1))
      rw [fX12_walks_l2.eq_2, nl64, le_f hi (by decide), gd_inb hi (by decide), ix_nI (by omega), bnd_r, nI_1]
  · rintro ⟨M1, j⟩ ⟨rfl, hF, a1⟩
    refine ⟨M1, ⟨hF, a1⟩, fun k f => ?_⟩
    show fX12_walks_l2 k (f + 1) M1 y (nI 64) = _
    rw [fX12_walks_l2.eq_2, nl64, le_t (Nat.le_refl _) (by decide)]
theorem walks_spec {M : MM} {o : Nat} {P : PARD} (hP : PW P) (hM : MS M o P (scnOf P)) {q : Nat} (hq : inP (pW P) (pH P) q) : ∃ M2, fX12_walks M (nI q) = some M2 ∧ Fr [110, 112] M M2 ∧ (∀ c, c < 64 → gI M2 110 c = nvI (wlk P q c)) ∧ ∀ c v, wlk P q c = some v → v ≤ 63 := by
  have hl := inP_64 hP.2.1.2 hq
  obtain ⟨M1, ⟨a1, a2⟩, a3⟩ := walks_fill (M := M) (nI q)
  have f2 : Fr [110, 112] M (sI (sI M1 110 q 0) 112 0 (nI q)) := ((a1.mono (by decide)).pI (by decide)).pI (by decide)
  have hF0 : FM (sI (sI M1 110 q 0) 112 0 (nI q)) (bf0 q) := by
    refine ⟨fun c hc => ?_, fun j hj => ?_⟩
    · show _ = nvI (if c = q then some 0 else none)
      rw [gI_ne _ _ _ _ _ _ (by decide)]
      by_cases z : c = q
      · rw [z, gI_eq, if_pos rfl]; rfl
      · rw [gI_nk _ _ _ _ _ _ z, if_neg z, a2 c hc]; rfl
    · have hj : j < 1 := hj
      rw [show j = 0 by omega, gI_eq]
      rfl
  obtain ⟨N, hN⟩ : ∃ N : Nat, N = 64 := ⟨64, rfl⟩
  have key := lpk (κ := Unit) (σ := MM × Nat) (fun _ f st => fX12_walks_l40 f st.1 (nI (bfN P (bf0 q) st.2).2.2) (nI st.2)) (fun _ M2 => some M2) N
    (fun k st => k = st.2 ∧ Fr [110, 112] M st.1 ∧ FM st.1 (bfN P (bf0 q) k)) (fun M2 => Fr [110, 112] M M2 ∧ FM M2 (bfN P (bf0 q) N)) ?_ ?_ FU 0 (sI (sI M1 110 q 0) 112 0 (nI q), 0) (by omega) (by show _ < 5000; omega) ⟨rfl, f2, hF0⟩
  · obtain ⟨M2, ⟨h1, h2⟩, h3⟩ := key
    subst hN
    refine ⟨M2, ?_, h1, h2.1, fun c v e => (BI_val (bfN_BI hP (bf0_BI hP hq) 64) e).1⟩
    unfold fX12_walks
    rw [nl0, a3, gd_inb hl (by decide), ix_nI (by omega), bnd_r, bnd_r]
    exact h3 ()
  · rintro k ⟨M2, k2⟩ hk ⟨rfl, hF, b1⟩
    simp only [] at hF b1
    have hI := bfN_BI hP (bf0_BI hP hq) k
    have h64 := BI_64 hI
    rcases Nat.lt_or_ge k (bfN P (bf0 q) k).2.2 with c | c
    · obtain ⟨M3, d1, d2, d3⟩ := walks_k hP (MS_fr hM hF (by decide)) hI b1 c
      refine Or.inl ⟨(M3, k + 1), ⟨rfl, hF.trans d1, d2⟩, fun _ f => ?_⟩
      show fX12_walks_l40 (f + 1) M2 (nI (bfN P (bf0 q) k).2.2) (nI k) = fX12_walks_l40 f M3 (nI (bfK P (bfN P (bf0 q) k) k).2.2) (nI (k + 1))
      rw [fX12_walks_l40.eq_2, le_f c (by omega), nl0, d3, nI_1]
    · refine Or.inr ⟨M2, ⟨hF, by rw [bfN_stop c N (by omega)]; exact b1⟩, fun _ f => ?_⟩
      show fX12_walks_l40 (f + 1) M2 (nI (bfN P (bf0 q) k).2.2) (nI k) = _
      rw [fX12_walks_l40.eq_2, le_t c (by omega)]
  · rintro ⟨M2, k2⟩ ⟨rfl, hF, b1⟩
    have h64 := BI_64 (bfN_BI hP (bf0_BI hP hq) N)
    refine ⟨M2, ⟨hF, b1⟩, fun _ f => ?_⟩
    show fX12_walks_l40 (f + 1) M2 (nI (bfN P (bf0 q) N).2.2) (nI N) = _
    rw [fX12_walks_l40.eq_2, le_t (by omega) (by omega)]
/-! ===== way ===== -/
theorem told_cell {M : MM} {T : TOLD} (hC : CT M 1 T) (hW : TW T) {j c : Nat} (hj : j < tNum T 0) (hc : c < pW (tPar T j) * pH (tPar T j)) {α : Type} {x y : α} : (if gI M (1 + (6 + 16 * j) + 8) c = 1 then x else y) = if pWa (tPar T j) (sq8 (pW (tPar T j)) c) = true then x else y := by
  have hP := hW.2.2.2.1 j hj
  have ho : onS (scnOf (tPar T j)) (sq8 (pW (tPar T j)) c) < 28 := onS_lt (scn_SW hP) _
  rw [(hC.2.2.2.2.2.1 j hj).2.2.2.2.2.2.1 c hc, nl1]
  by_cases z : pWa (tPar T j) (sq8 (pW (tPar T j)) c) = true
  · rw [if_pos z, eqn_t ((wall_on hP).mpr z)]
  · rw [if_neg z, eqn_f (fun k => z ((wall_on hP).mp k)) (by omega) (by decide)]
theorem e20 : E20 Inv := by
  intro K M x1 x2 x3 hI
  refine p_case (v := -1) hI (C := fX11_way M x1 x2 x3) (R := fun M1 => fX12_way M1 x1 x2 x3) rfl (fun _ => rfl) ?_
  intro T j hW hC hM hB hj e
  have hP := hW.2.2.2.1 j hj
  have hcp := hC.2.2.2.2.2.1 j hj
  have h64 : pW (tPar T j) * pH (tPar T j) ≤ 64 := wh_64 (scn_SW hP)
  have hw : 0 < pW (tPar T j) := by have := hP.1.1; omega
  rcases rng x2 (n := pW (tPar T j) * pH (tPar T j)) (by omega) with h | ⟨a, ha, rfl⟩
  · refine ⟨-1, M, by rw [hasSquare_no hcp.1 hcp.2.1 h, if_pos rfl], Fr.rfl, hB, fun M3 _ hS => ⟨M3, ?_, Fr.rfl⟩⟩
    rw [isSquare_no hS h, bd_s, if_pos rfl]
  · rw [hasSquare_yes hcp.1 hcp.2.1 (by omega) ha, if_neg i10]
    rcases rng x3 (n := pW (tPar T j) * pH (tPar T j)) (by omega) with h | ⟨b, hb, rfl⟩
    · refine ⟨-1, M, by rw [hasSquare_no hcp.1 hcp.2.1 h, if_pos rfl], Fr.rfl, hB, fun M3 _ hS => ⟨M3, ?_, Fr.rfl⟩⟩
      rw [isSquare_yes hS ha, bd_s, if_neg i10, isSquare_no hS h, bd_s, if_pos rfl]
    · have hqa : inP (pW (tPar T j)) (pH (tPar T j)) (sq8 (pW (tPar T j)) a) := sq8_inP hw hP.1.2 ha
      have hqb : inP (pW (tPar T j)) (pH (tPar T j)) (sq8 (pW (tPar T j)) b) := sq8_inP hw hP.1.2 hb
      have la := inP_64 hP.2.1.2 hqa
      have lb := inP_64 hP.2.1.2 hqb
      have eca : sqC (pW (tPar T j)) (sq8 (pW (tPar T j)) a) = a := sqC_sq8 hw hP.1.2
      have ecb : sqC (pW (tPar T j)) (sq8 (pW (tPar T j)) b) = b := sqC_sq8 hw hP.1.2
      have insA : ∀ M3, MS M3 (610 + 124 * j) (tPar T j) (scnOf (tPar T j)) → fX12_inside M3 (nI a) = some (nI (sq8 (pW (tPar T j)) a)) := fun M3 hS => inside_spec hS (by omega)
      have insB : ∀ M3, MS M3 (610 + 124 * j) (tPar T j) (scnOf (tPar T j)) → fX12_inside M3 (nI b) = some (nI (sq8 (pW (tPar T j)) b)) := fun M3 hS => inside_spec hS (by omega)
      rw [hasSquare_yes hcp.1 hcp.2.1 (by omega) hb, if_neg i10, gd_inb (by omega) (by decide), ix_nI (by omega), told_cell hC hW hj ha]
      by_cases za : pWa (tPar T j) (sq8 (pW (tPar T j)) a) = true
      · refine ⟨-1, M, by rw [if_pos za], Fr.rfl, hB, fun M3 _ hS => ⟨M3, ?_, Fr.rfl⟩⟩
        rw [isSquare_yes hS ha, bd_s, if_neg i10, isSquare_yes hS hb, bd_s, if_neg i10, insA M3 hS, bd_s, isWall_ref hS la, bd_s, if_pos za, if_neg i10]
      · rw [if_neg za, gd_inb (by omega) (by decide), ix_nI (by omega), told_cell hC hW hj hb]
        by_cases zb : pWa (tPar T j) (sq8 (pW (tPar T j)) b) = true
        · refine ⟨-1, M, by rw [if_pos zb], Fr.rfl, hB, fun M3 _ hS => ⟨M3, ?_, Fr.rfl⟩⟩
          rw [isSquare_yes hS ha, bd_s, if_neg i10, isSquare_yes hS hb, bd_s, if_neg i10, insA M3 hS, bd_s, isWall_ref hS la, bd_s, if_neg za, if_pos rfl, insB M3 hS, bd_s, isWall_ref hS lb, bd_s, if_pos zb, if_neg i10]
        · obtain ⟨M1, a1, a2, a3, a4, -⟩ := par_beg hW hC hB hj
          obtain ⟨M2, d1, d2, d3⟩ := flood_spec hP a3 hqa
          rw [eca] at d1
          have d3b := d3 _ hqb
          rw [ecb] at d3b
          rw [if_neg zb, a1, bd_s, d1, bd_s]
          refine ⟨opI (wlk (tPar T j) (sq8 (pW (tPar T j)) a) (sq8 (pW (tPar T j)) b)), M2, by rw [gd_inb (by omega) (by decide), d3b], a2.trans (d2.mono (by decide)), BN_fr a4 d2 (by decide) (by decide), fun M3 _ hS => ?_⟩
          obtain ⟨M4, r1, r2, r3, r4⟩ := walks_spec hP hS hqa
          refine ⟨M4, ?_, r2.mono (by decide)⟩
          rw [isSquare_yes hS ha, bd_s, if_neg i10, isSquare_yes hS hb, bd_s, if_neg i10, insA M3 hS, bd_s, isWall_ref hS la, bd_s, if_neg za, if_pos rfl, insB M3 hS, bd_s, isWall_ref hS lb, bd_s, if_neg zb, if_pos rfl, bd_s, r1, bd_s, insB M4 (MS_fr hS r2 (by decide)), bd_s, gd_inb lb (by decide), ix_nI (by omega), r3 _ lb, bd_s, gd_inb lb (by decide)]
          cases z : wlk (tPar T j) (sq8 (pW (tPar T j)) a) (sq8 (pW (tPar T j)) b) with
          | none => rfl
          | some v =>
            have := r4 _ _ z
            rw [show nvI (some v) = nI v from rfl, nl99, eqn_f (by omega) (by omega) (by decide), ix_nI (by omega), r3 _ lb, z]
            rfl
