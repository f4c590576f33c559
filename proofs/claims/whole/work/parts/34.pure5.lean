/-! ===== the board: a scene on it ===== -/
/-- a place as the class's square, -1 for none -/
def cqI (w : Nat) (c : Option Nat) : Int32 := match c with
  | some q => nI (sqC w q)
  | none => -1
/-- the squares of a ray -/
def rayR (S : SCN) (d : Nat) : Nat → Option Nat → Nat → Bool
  | 0, _, _ => false
  | _ + 1, none, _ => false
  | n + 1, some q, x => q == x || (decide (onS S q = 0) && rayR S d n (stepP (cW S) (cH S) q d) x)
/-- what is in the reach of a shine, in the first d directions -/
def rchN (S : SCN) (s : Nat) : Nat → Nat → Bool
  | 0, _ => false
  | d + 1, x => rchN S s d x || ((!cSt S s && opensS S s d) && rayR S d 8 (stepP (cW S) (cH S) (cSh S s 1) d) x)
/-- a scene on the board: all but what is seen -/
def BB (M : MM) (S : SCN) : Prop := SW S ∧ NX M (cW S) (cH S) ∧ gI M 61 0 = nI (cW S) ∧ gI M 61 1 = nI (cH S) ∧ gI M 61 2 = nI (cN S) ∧ gI M 61 3 = nI (cS S) ∧
  (∃ m : Nat, m < 256 ∧ gI M 60 7 = nI m ∧ ∀ k, k < 8 → m.testBit k = cSt S k) ∧ (∀ k, k < cN S → gI M 63 k = nI (cNm S k)) ∧
  (∀ k, k < cS S → gI M 64 k = nI (cSh S k 0) ∧ gI M 65 k = nI (sqC (cW S) (cSh S k 1)) ∧ gI M 66 k = nI (cSh S k 2) ∧ gI M 67 k = nI (cSh S k 3) ∧ gI M 68 k = nI (cSh S k 4)) ∧
  (∀ q, inP (cW S) (cH S) q → gI M 69 (sqC (cW S) q) = nI (onS S q))
/-- what a shine sees is noted -/
def BL (M : MM) (S : SCN) (s : Nat) : Prop := gI M 74 s = nI (seenN S s 8) ∧ gI M 75 s = nI (lookN S s 8) ∧ ∃ m, m < 2 ^ 64 ∧ gL M 76 s = lN m ∧ ∀ q, inP (cW S) (cH S) q → m.testBit (sqC (cW S) q) = rchN S s 8 q
def BS (M : MM) (S : SCN) (K : Nat → Bool) : Prop := BB M S ∧ ∀ s, s < cS S → K s = true → BL M S s
theorem sqC_lt {w h q : Nat} (hw : w ≤ 8) (hh : h ≤ 8) (hq : inP w h q) : sqC w q < 64 := sq_lt hw hh hq.2 hq.1
theorem sqC_inj {w h q q2 : Nat} (hq : inP w h q) (hq2 : inP w h q2) (e : sqC w q = sqC w q2) : q = q2 := by
  have := sq_inj hq.1 hq2.1 e
  omega
theorem sq8_sqC {w h q : Nat} (hq : inP w h q) : sq8 w (sqC w q) = q := by
  have h1 := hq.1
  unfold sq8 sqC
  rw [Nat.mul_add_div (by omega), Nat.div_eq_of_lt h1, Nat.add_zero, Nat.mul_add_mod, Nat.mod_eq_of_lt h1]
  omega
theorem sqC_wh {w h q : Nat} (hq : inP w h q) : sqC w q < w * h := by
  have h1 := hq.1
  have h2 : w * (q / 8 + 1) ≤ w * h := Nat.mul_le_mul_left w hq.2
  rw [Nat.mul_add, Nat.mul_one] at h2
  unfold sqC
  omega
theorem sq8_inP {w h c : Nat} (hw : 0 < w) (hw8 : w ≤ 8) (hc : c < w * h) : inP w h (sq8 w c) := by
  have h1 : c / w < h := Nat.div_lt_of_lt_mul hc
  have h2 : c % w < w := Nat.mod_lt _ hw
  unfold inP sq8
  omega
theorem sqC_sq8 {w c : Nat} (hw : 0 < w) (hw8 : w ≤ 8) : sqC w (sq8 w c) = c := by
  have h2 : c % w < w := Nat.mod_lt _ hw
  unfold sqC sq8
  rw [show (8 * (c / w) + c % w) / 8 = c / w by omega, show (8 * (c / w) + c % w) % 8 = c % w by omega]
  exact Nat.div_add_mod c w
theorem BB_fr {M M2 : MM} {S : SCN} {L : List Nat} (h : BB M S) (hF : Fr L M M2) (hL : L.all (fun c => decide (c < 60 ∨ c = 62 ∨ (70 ≤ c ∧ c ≠ 73))) = true) : BB M2 S := by
  have g : ∀ c k, (c = 60 ∨ c = 61 ∨ (63 ≤ c ∧ c ≤ 69) ∨ c = 73) → gI M2 c k = gI M c k := fun c k hc => hF.gi (fun q => by have := of_decide_eq_true (List.all_eq_true.mp hL c q); omega) k
  have g60 : ∀ k, gI M2 60 k = gI M 60 k := fun k => g 60 k (by omega)
  have g61 : ∀ k, gI M2 61 k = gI M 61 k := fun k => g 61 k (by omega)
  have g63 : ∀ k, gI M2 63 k = gI M 63 k := fun k => g 63 k (by omega)
  have g64 : ∀ k, gI M2 64 k = gI M 64 k := fun k => g 64 k (by omega)
  have g65 : ∀ k, gI M2 65 k = gI M 65 k := fun k => g 65 k (by omega)
  have g66 : ∀ k, gI M2 66 k = gI M 66 k := fun k => g 66 k (by omega)
  have g67 : ∀ k, gI M2 67 k = gI M 67 k := fun k => g 67 k (by omega)
  have g68 : ∀ k, gI M2 68 k = gI M 68 k := fun k => g 68 k (by omega)
  have g69 : ∀ k, gI M2 69 k = gI M 69 k := fun k => g 69 k (by omega)
  have g73 : ∀ k, gI M2 73 k = gI M 73 k := fun k => g 73 k (by omega)
  unfold BB NX
  simp only [g60, g61, g63, g64, g65, g66, g67, g68, g69, g73]
  exact h
theorem BL_of {M M2 : MM} {S : SCN} {s : Nat} (h : BL M S s) (h1 : gI M2 74 s = gI M 74 s) (h2 : gI M2 75 s = gI M 75 s) (h3 : gL M2 76 s = gL M 76 s) : BL M2 S s := by
  unfold BL
  rw [h1, h2, h3]
  exact h
theorem BS_fr {M M2 : MM} {S : SCN} {K : Nat → Bool} {L : List Nat} (h : BS M S K) (hF : Fr L M M2) (hL : L.all (fun c => decide (c < 60 ∨ c = 62 ∨ (70 ≤ c ∧ c ≠ 73 ∧ c ≠ 74 ∧ c ≠ 75 ∧ c ≠ 76))) = true) : BS M2 S K := by
  have ne : ∀ c, c = 74 ∨ c = 75 ∨ c = 76 → c ∉ L := fun c hc q => by have := of_decide_eq_true (List.all_eq_true.mp hL c q); omega
  refine ⟨BB_fr h.1 hF ?_, fun s hs hk => BL_of (h.2 s hs hk) (hF.gi (ne 74 (by omega)) s) (hF.gi (ne 75 (by omega)) s) (hF.gl (ne 76 (by omega)) s)⟩
  refine List.all_eq_true.mpr (fun c q => decide_eq_true ?_)
  have := of_decide_eq_true (List.all_eq_true.mp hL c q)
  omega
/-! ===== a shine looks ===== -/
theorem stepF {M : MM} {S : SCN} (h : BB M S) {q d : Nat} (hq : inP (cW S) (cH S) q) (hd : d < 8) : fX0_stepFrom M (nI (sqC (cW S) q)) (nI d) = some (cqI (cW S) (stepP (cW S) (cH S) q d)) := by
  have hS := h.1
  have hl := sqC_lt hS.1.2 hS.2.1.2 hq
  unfold fX0_stepFrom
  rw [nl64, pk_mul, nI_add, gd_inb (by omega) (by decide), ix_nI (by omega), h.2.1.2.2 d hd q hq]
  rfl
theorem opens_cls {M : MM} {S : SCN} (h : BB M S) {s d : Nat} (hs : s < cS S) (hd : d < 8) : fX0_opens M (nI s) (nI d) = some (if opensS S s d then 1 else 0) := by
  have hS := h.1
  have h8 := hS.2.2.2.1
  obtain ⟨hk, -, hf, -, -⟩ := hS.2.2.2.2.2.2 s hs
  obtain ⟨e1, -, e3, -, -⟩ := h.2.2.2.2.2.2.2.2.1 s hs
  unfold fX0_opens
  simp (disch := omega) only [gd_inb, ix_nI, bnd_r]
  rw [e1, e3, off_cls d hd _ hf]
  exact open_cls _ hk _ (Nat.mod_lt _ (by decide))
theorem stirred_cls {M : MM} {S : SCN} (h : BB M S) {s : Nat} (hs : s < 8) : fX0_isStirred M (nI s) = if cSt S s then 1 else 0 := by
  obtain ⟨m, hm, e, hb⟩ := h.2.2.2.2.2.2.1
  unfold fX0_isStirred
  rw [e, bit_u0 (by omega) (by omega), hb s hs]
/-- what the class's ray meets -/
def rayV (S : SCN) (d n : Nat) (c : Option Nat) : Nat := match rayS S d n c with
  | some q => onS S q
  | none => 1
/-- the longs of the reach: all but of one shine -/
def LX (M M2 : MM) (s : Nat) : Prop := ∀ t, t ≠ s → gL M2 76 t = gL M 76 t
theorem meets_l18 {M0 : MM} {S : SCN} (hB : BB M0 S) {s d : Nat} (hs : s < 8) (hd : d < 8) : ∀ (j k : Nat) (M : MM) (c : Option Nat) (m : Nat), k + j = 8 → Fr [76] M0 M → LX M0 M s → gL M 76 s = lN m → m < 2 ^ 64 → (∀ q, c = some q → inP (cW S) (cH S) q) → ∀ n, j < n →
    ∃ M2 m2, fX0_meets_l18 (fun M21 y22 => gd (inb y22 64) (some (gI M21 69 (ix y22), M21))) n M (nI s) (nI d) (cqI (cW S) c) (nI k) = some (nI (rayV S d j c), M2) ∧ Fr [76] M0 M2 ∧ LX M0 M2 s ∧ gL M2 76 s = lN m2 ∧ m2 < 2 ^ 64 ∧ ∀ q, inP (cW S) (cH S) q → m2.testBit (sqC (cW S) q) = (m.testBit (sqC (cW S) q) || rayR S d j c q) := by
  have hS := hB.1
  intro j
  induction j with
  | zero =>
    intro k M c m hk hF hX hg hm hc n hn
    obtain ⟨n, rfl⟩ : ∃ n2, n = n2 + 1 := ⟨n - 1, by omega⟩
    refine ⟨M, m, ?_, hF, hX, hg, hm, fun q _ => by rw [rayR, Bool.or_false]⟩
    rw [fX0_meets_l18.eq_2, nl8, le_t (by omega) (by omega)]
    rfl
  | succ j ih =>
    intro k M c m hk hF hX hg hm hc n hn
    obtain ⟨n, rfl⟩ : ∃ n2, n = n2 + 1 := ⟨n - 1, by omega⟩
    rw [fX0_meets_l18.eq_2, nl8, le_f (by omega) (by omega)]
    cases c with
    | none => exact ⟨M, m, by rw [if_pos (show cqI (cW S) none = -1 from rfl)]; rfl, hF, hX, hg, hm, fun q _ => by rw [rayR, Bool.or_false]⟩
    | some q =>
      have hq := hc q rfl
      have hl := sqC_lt hS.1.2 hS.2.1.2 hq
      have hlt : 2 ^ sqC (cW S) q < 2 ^ 64 := wb_lt2 hl
      have e1 : jlshl 1 (nI (sqC (cW S) q)) = lN (2 ^ sqC (cW S) q) := by
        unfold jlshl
        have := wb_shl 1 hl
        rw [Nat.one_mul] at this
        exact this
      have hF2 : Fr [76] M0 (sL M 76 s (lN (m ||| 2 ^ sqC (cW S) q))) := hF.pL (by decide)
      have hB2 := BB_fr hB hF2 (by decide)
      have hX2 : LX M0 (sL M 76 s (lN (m ||| 2 ^ sqC (cW S) q))) s := fun t ht => by rw [gL_sL, if_neg (fun z => ht z.2)]; exact hX t ht
      have hg2 : gL (sL M 76 s (lN (m ||| 2 ^ sqC (cW S) q))) 76 s = lN (m ||| 2 ^ sqC (cW S) q) := by rw [gL_sL, if_pos ⟨rfl, rfl⟩]
      have hm2 : m ||| 2 ^ sqC (cW S) q < 2 ^ 64 := Nat.or_lt_two_pow hm hlt
      have ho := onS_lt hS q
      have hbit : ∀ x, inP (cW S) (cH S) x → (m ||| 2 ^ sqC (cW S) q).testBit (sqC (cW S) x) = (m.testBit (sqC (cW S) x) || q == x) := fun x hx => by
        rw [tb_or, tb_pow]
        congr 1
        by_cases e : q = x
        · rw [e, decide_eq_true rfl]; simp
        · rw [decide_eq_false (fun z => e (sqC_inj hq hx z))]; simp [e]
      rw [if_neg (show ¬ cqI (cW S) (some q) = -1 from m1_ne (by omega)), show cqI (cW S) (some q) = nI (sqC (cW S) q) from rfl]
      simp (disch := omega) only [gd_inb, ix_nI, bnd_r]
      rw [hg, e1, wb_or hm hlt, hB2.2.2.2.2.2.2.2.2.2 q hq]
      by_cases e0 : onS S q = 0
      · rw [e0, nl0, eqn_t rfl, stepF hB2 hq hd, bd_s, nI_1]
        obtain ⟨M2, m2, a1, a2, a3, a4, a5, a6⟩ := ih (k + 1) _ (stepP (cW S) (cH S) q d) _ (by omega) hF2 hX2 hg2 hm2 (fun q2 e2 => (stepP_in hS.1.2 hS.2.1.2 e2).1) n (by omega)
        refine ⟨M2, m2, ?_, a2, a3, a4, a5, fun x hx => ?_⟩
        · rw [a1]
          unfold rayV
          rw [rayS, if_pos e0]
        · rw [a6 x hx, hbit x hx, rayR, decide_eq_true e0, Bool.true_and, Bool.or_assoc]
      · rw [nl0, eqn_f e0 (by omega) (by decide)]
        refine ⟨_, _, ?_, hF2, hX2, hg2, hm2, fun x hx => ?_⟩
        · unfold rayV
          rw [rayS, if_neg e0]
        · rw [hbit x hx, rayR, decide_eq_false e0, Bool.false_and, Bool.or_false]
theorem meets_cls {M : MM} {S : SCN} (hB : BB M S) {s d m : Nat} (hs : s < cS S) (hd : d < 8) (hg : gL M 76 s = lN m) (hm : m < 2 ^ 64) : ∃ M2 m2, fX0_meets M (nI s) (nI d) = some (nI (meetsS S s d), M2) ∧ Fr [76] M M2 ∧ LX M M2 s ∧ gL M2 76 s = lN m2 ∧ m2 < 2 ^ 64 ∧ ∀ q, inP (cW S) (cH S) q → m2.testBit (sqC (cW S) q) = (m.testBit (sqC (cW S) q) || rayR S d 8 (stepP (cW S) (cH S) (cSh S s 1) d) q) := by
  have hS := hB.1
  have h8 := hS.2.2.2.1
  have hin := (hS.2.2.2.2.2.2 s hs).2.1
  obtain ⟨M2, m2, a1, a2⟩ := meets_l18 hB (s := s) (by omega) hd 8 0 M (stepP (cW S) (cH S) (cSh S s 1) d) m (by omega) Fr.rfl (fun t _ => rfl) hg hm (fun q2 e2 => (stepP_in hS.1.2 hS.2.1.2 e2).1) FU (by decide)
  refine ⟨M2, m2, ?_, a2⟩
  unfold fX0_meets
  rw [gd_inb (by omega) (by decide), ix_nI (by omega), (hB.2.2.2.2.2.2.2.2.1 s hs).2.1, stepF hB hin hd, bd_s, nl0]
  exact a1
theorem meets_lt {S : SCN} (hS : SW S) (s d : Nat) : meetsS S s d < 28 := by
  unfold meetsS
  split
  · exact onS_lt hS _
  · decide
/-- what is noted of the others stays -/
def OX (M M2 : MM) (s : Nat) : Prop := ∀ t, t ≠ s → gI M2 74 t = gI M 74 t ∧ gI M2 75 t = gI M 75 t ∧ gL M2 76 t = gL M 76 t
theorem seen_st {S : SCN} {s : Nat} (h : cSt S s = true) : ∀ d, seenN S s d = 0 ∧ lookN S s d = 0 ∧ ∀ x, rchN S s d x = false
  | 0 => ⟨rfl, rfl, fun _ => rfl⟩
  | d + 1 => by
    obtain ⟨a, b, c⟩ := seen_st h d
    have e : metS S s d = 1 := by
      unfold metS
      rw [h]
      rfl
    refine ⟨?_, ?_, fun x => ?_⟩
    · rw [seenN_no (by omega)]; exact a
    · rw [lookN_no (by omega)]; exact b
    · rw [rchN, c x, h]; rfl
theorem look_loop {M : MM} {S : SCN} (hB : BB M S) {s : Nat} (hs : s < cS S) (hst : cSt S s = false) (h4 : gI M 74 s = nI 0) (h5 : gI M 75 s = nI 0) (h6 : gL M 76 s = lN 0) : ∃ M2, (Fr [74, 75, 76] M M2 ∧ OX M M2 s ∧ BL M2 S s) ∧ ∀ _k : Unit, fX0_look_l32 FU M (nI s) (nI 0) = some M2 := by
  have hS := hB.1
  have h8 := hS.2.2.2.1
  have hN := hS.2.2.1
  refine lpk (κ := Unit) (σ := MM × Nat) (fun _ f st => fX0_look_l32 f st.1 (nI s) (nI st.2)) (fun _ M2 => some M2) 8
    (fun d st => d = st.2 ∧ Fr [74, 75, 76] M st.1 ∧ OX M st.1 s ∧ gI st.1 74 s = nI (seenN S s d) ∧ gI st.1 75 s = nI (lookN S s d) ∧ ∃ m, m < 2 ^ 64 ∧ gL st.1 76 s = lN m ∧ ∀ q, inP (cW S) (cH S) q → m.testBit (sqC (cW S) q) = rchN S s d q) _ ?_ ?_ FU 0 (M, 0) (by omega) (by decide) ⟨rfl, Fr.rfl, fun t _ => ⟨rfl, rfl, rfl⟩, h4, h5, 0, by decide, h6, fun q _ => by rw [tb_0]; rfl⟩
  · rintro d ⟨M1, j⟩ hd ⟨rfl, hF, hO, g4, g5, m, hm, g6, hr⟩
    left
    have hB1 : BB M1 S := BB_fr hB hF (by decide)
    by_cases ho : opensS S s d = true
    · have hme : metS S s d = meetsS S s d := by
        unfold metS
        rw [hst, ho]
        rfl
      obtain ⟨M2, m2, a1, a2, a3, a4, a5, a6⟩ := meets_cls hB1 hs hd g6 hm
      have hc := metS_cases (S := S) s d
      have hF2 : Fr [74, 75, 76] M M2 := hF.trans (a2.mono (by decide))
      have i4 : ∀ t, gI M2 74 t = gI M1 74 t := fun t => a2.gi (by decide) t
      have i5 : ∀ t, gI M2 75 t = gI M1 75 t := fun t => a2.gi (by decide) t
      have hO2 : OX M M2 s := fun t ht => by
        obtain ⟨b1, b2, b3⟩ := hO t ht
        exact ⟨by rw [i4]; exact b1, by rw [i5]; exact b2, by rw [a3 t ht]; exact b3⟩
      have hr2 : ∀ q, inP (cW S) (cH S) q → m2.testBit (sqC (cW S) q) = rchN S s (d + 1) q := fun q hq => by
        rw [a6 q hq, hr q hq, rchN, hst, ho]
        rfl
      have sl := seenN_lt hS s d
      have ll := lookN_lt hS s d
      have head : ∀ f, fX0_look_l32 (f + 1) M1 (nI s) (nI d) = (if nI (meetsS S s d) < 20 then (if nI (meetsS S s d) < 10 then fX0_look_l32 f M2 (nI s) (nI d + 1) else gd (inb (nI s) 8) (gd (inb (nI s) 8) (bnd (sI M2 74 (ix (nI s)) ((gI M2 74 (ix (nI s))) ||| (jshl 1 (nI (meetsS S s d) - 10)))) (fun M24 => fX0_look_l32 f M24 (nI s) (nI d + 1))))) else gd (inb (nI s) 8) (gd (inb (nI s) 8) (bnd (sI M2 75 (ix (nI s)) ((gI M2 75 (ix (nI s))) ||| (jshl 1 (nI (meetsS S s d) - 20)))) (fun M28 => fX0_look_l32 f M28 (nI s) (nI d + 1))))) := fun f => by
        rw [fX0_look_l32.eq_2, nl8, le_f hd (by decide), opens_cls hB1 hs hd, bd_s, ho, if_pos rfl, if_neg i10, a1, bd_s]
      rw [hme] at hc
      by_cases c1 : meetsS S s d < 2
      · refine ⟨(M2, d + 1), ⟨rfl, hF2, hO2, ?_, ?_, m2, a5, a4, hr2⟩, fun _ f => ?_⟩
        · rw [i4, seenN_no (by omega)]; exact g4
        · rw [i5, lookN_no (by omega)]; exact g5
        · show fX0_look_l32 (f + 1) M1 (nI s) (nI d) = fX0_look_l32 f M2 (nI s) (nI (d + 1))
          rw [head f, nl20, nl10, lt_t (by omega) (by decide), lt_t (by omega) (by decide), nI_1]
      · by_cases c2 : meetsS S s d < 20
        · refine ⟨(sI M2 74 s (nI (seenN S s (d + 1))), d + 1), ⟨rfl, hF2.pI (by decide), fun t ht => ?_, ?_, ?_, m2, a5, a4, hr2⟩, fun _ f => ?_⟩
          · obtain ⟨b1, b2, b3⟩ := hO2 t ht
            refine ⟨?_, ?_, b3⟩
            · show gI (sI M2 74 s _) 74 t = _
              rw [gI_nk _ _ _ _ _ _ ht]; exact b1
            · show gI (sI M2 74 s _) 75 t = _
              rw [gI_ne _ _ _ _ _ _ (by decide)]; exact b2
          · exact gI_eq _ _ _ _
          · show gI (sI M2 74 s _) 75 s = _
            rw [gI_ne _ _ _ _ _ _ (by decide), i5, lookN_no (by omega)]; exact g5
          · show fX0_look_l32 (f + 1) M1 (nI s) (nI d) = fX0_look_l32 f (sI M2 74 s (nI (seenN S s (d + 1)))) (nI s) (nI (d + 1))
            rw [head f, nl20, nl10, lt_t (by omega) (by decide), lt_f (by omega) (by omega), pk_sub (by omega), shl_nI (by omega)]
            simp (disch := omega) only [gd_inb, ix_nI, bnd_r, nI_1]
            rw [i4, g4, or_nI, seenN_yes ⟨by omega, by omega⟩, hme]
        · refine ⟨(sI M2 75 s (nI (lookN S s (d + 1))), d + 1), ⟨rfl, hF2.pI (by decide), fun t ht => ?_, ?_, ?_, m2, a5, a4, hr2⟩, fun _ f => ?_⟩
          · obtain ⟨b1, b2, b3⟩ := hO2 t ht
            refine ⟨?_, ?_, b3⟩
            · show gI (sI M2 75 s _) 74 t = _
              rw [gI_ne _ _ _ _ _ _ (by decide)]; exact b1
            · show gI (sI M2 75 s _) 75 t = _
              rw [gI_nk _ _ _ _ _ _ ht]; exact b2
          · show gI (sI M2 75 s _) 74 s = _
            rw [gI_ne _ _ _ _ _ _ (by decide), i4, seenN_no (by omega)]; exact g4
          · exact gI_eq _ _ _ _
          · show fX0_look_l32 (f + 1) M1 (nI s) (nI d) = fX0_look_l32 f (sI M2 75 s (nI (lookN S s (d + 1)))) (nI s) (nI (d + 1))
            rw [head f, nl20, nl10, lt_f (by omega) (by omega), pk_sub (by omega), shl_nI (by omega)]
            simp (disch := omega) only [gd_inb, ix_nI, bnd_r, nI_1]
            rw [i5, g5, or_nI, lookN_yes (by omega), hme]
    · have ho2 : opensS S s d = false := by cases h : opensS S s d <;> simp_all
      have hme : metS S s d = 1 := by
        unfold metS
        rw [ho2, Bool.and_false]
        rfl
      refine ⟨(M1, d + 1), ⟨rfl, hF, hO, ?_, ?_, m, hm, g6, fun q hq => ?_⟩, fun _ f => ?_⟩
      · rw [seenN_no (by omega)]; exact g4
      · rw [lookN_no (by omega)]; exact g5
      · rw [hr q hq, rchN, ho2, Bool.and_false, Bool.false_and, Bool.or_false]
      · show fX0_look_l32 (f + 1) M1 (nI s) (nI d) = fX0_look_l32 f M1 (nI s) (nI (d + 1))
        rw [fX0_look_l32.eq_2, nl8, le_f hd (by decide), opens_cls hB1 hs hd, bd_s, ho2, if_pos (show (if false = true then (1 : Int32) else 0) = 0 from rfl), nI_1]
  · rintro ⟨M1, j⟩ ⟨rfl, hF, hO, g4, g5, g6⟩
    refine ⟨M1, ⟨hF, hO, g4, g5, g6⟩, fun _ f => ?_⟩
    show fX0_look_l32 (f + 1) M1 (nI s) (nI 8) = _
    rw [fX0_look_l32.eq_2, nl8, le_t (Nat.le_refl _) (by decide)]
theorem look_spec {M : MM} {S : SCN} (hB : BB M S) {s : Nat} (hs : s < cS S) : ∃ M2, fX0_look M (nI s) = some M2 ∧ Fr [74, 75, 76] M M2 ∧ OX M M2 s ∧ BL M2 S s := by
  have hS := hB.1
  have h8 := hS.2.2.2.1
  have hF : Fr [74, 75, 76] M (sL (sI (sI M 74 s 0) 75 s 0) 76 s 0) := ((Fr.rfl.pI (by decide)).pI (by decide)).pL (by decide)
  have hO : OX M (sL (sI (sI M 74 s 0) 75 s 0) 76 s 0) s := fun t ht => ⟨by rw [gI_sL, gI_ne _ _ _ _ _ _ (by decide), gI_nk _ _ _ _ _ _ ht], by rw [gI_sL, gI_nk _ _ _ _ _ _ ht, gI_ne _ _ _ _ _ _ (by decide)], by rw [gL_sL, if_neg (fun z => ht z.2), gL_sI, gL_sI]⟩
  have hB2 := BB_fr hB hF (by decide)
  have g4 : gI (sL (sI (sI M 74 s 0) 75 s 0) 76 s 0) 74 s = nI 0 := by rw [gI_sL, gI_ne _ _ _ _ _ _ (by decide), gI_eq]; rfl
  have g5 : gI (sL (sI (sI M 74 s 0) 75 s 0) 76 s 0) 75 s = nI 0 := by rw [gI_sL, gI_eq]; rfl
  have g6 : gL (sL (sI (sI M 74 s 0) 75 s 0) 76 s 0) 76 s = lN 0 := by rw [gL_sL, if_pos ⟨rfl, rfl⟩]; rfl
  unfold fX0_look
  simp (disch := omega) only [gd_inb, ix_nI, bnd_r]
  rw [stirred_cls hB2 (by omega)]
  cases hst : cSt S s with
  | true =>
    refine ⟨_, by rw [if_pos rfl, if_neg i10], hF, hO, ?_⟩
    obtain ⟨a, b, c⟩ := seen_st hst 8
    refine ⟨by rw [a]; exact g4, by rw [b]; exact g5, 0, by decide, g6, fun q _ => by rw [tb_0, c q]⟩
  | false =>
    obtain ⟨M2, ⟨a1, a2, a3⟩, a4⟩ := look_loop hB2 hs hst g4 g5 g6
    refine ⟨M2, ?_, hF.trans a1, fun t ht => ?_, a3⟩
    · rw [if_pos (show (if false = true then (1 : Int32) else 0) = 0 from rfl), nl0]
      exact a4 ()
    · obtain ⟨b1, b2, b3⟩ := hO t ht
      obtain ⟨d1, d2, d3⟩ := a2 t ht
      exact ⟨d1.trans b1, d2.trans b2, d3.trans b3⟩
