/-! ===== fits: some of the people ===== -/
def subS (P : PARD) (B : Nat → Bool) : SCN := (pW P, pH P, pN P, pS P, pWa P, fun k => if k < pN P ∧ B k = false then none else some (pAt P k), pNm P, pSh P, fun _ => false, fun _ => false)
theorem subS_at (P : PARD) (B : Nat → Bool) (k : Nat) : cAt (subS P B) k = if k < pN P ∧ B k = false then none else some (pAt P k) := rfl
theorem subS_f {P : PARD} {B B2 : Nat → Bool} (h : ∀ k, (if k < pN P ∧ B k = false then none else some (pAt P k)) = (if k < pN P ∧ B2 k = false then none else some (pAt P k))) : subS P B = subS P B2 := by
  unfold subS
  rw [funext h]
theorem subS_ext {P : PARD} {B B2 : Nat → Bool} (h : ∀ k, k < pN P → B k = B2 k) : subS P B = subS P B2 := subS_f (fun k => by
  by_cases c : k < pN P
  · rw [h k c]
  · rw [if_neg (fun z => c z.1), if_neg (fun z => c z.1)])
theorem subS_full {P : PARD} {B : Nat → Bool} (h : ∀ k, k < pN P → B k = true) : subS P B = scnOf P := by
  have e : (fun k => if k < pN P ∧ B k = false then none else some (pAt P k)) = fun k => some (pAt P k) := funext (fun k => if_neg (fun z => by rw [h k z.1] at z; cases z.2))
  unfold subS scnOf
  rw [e]
theorem subS_out {P : PARD} {B : Nat → Bool} {k : Nat} (hk : k < pN P) : setA (subS P B) k none = subS P (fun x => if x = k then false else B x) := by
  have e : (fun x => if x = k then none else cAt (subS P B) x) = fun x => if x < pN P ∧ (if x = k then false else B x) = false then none else some (pAt P x) := funext (fun x => by
    by_cases c : x = k
    · rw [if_pos c, if_pos c, if_pos ⟨by omega, rfl⟩]
    · rw [if_neg c, if_neg c]; rfl)
  unfold setA
  rw [e]
  rfl
theorem subS_in {P : PARD} {B : Nat → Bool} {k : Nat} (hk : k < pN P) : setA (subS P B) k (some (pAt P k)) = subS P (fun x => if x = k then true else B x) := by
  have e : (fun x => if x = k then some (pAt P k) else cAt (subS P B) x) = fun x => if x < pN P ∧ (if x = k then true else B x) = false then none else some (pAt P x) := funext (fun x => by
    by_cases c : x = k
    · rw [if_pos c, if_pos c, if_neg (fun z => by cases z.2), c]
    · rw [if_neg c, if_neg c]; rfl)
  unfold setA
  rw [e]
  rfl
theorem subS_SW {P : PARD} (hP : PW P) (B : Nat → Bool) : SW (subS P B) := by
  obtain ⟨h1, h2, h3, h4, h5, h6, h7⟩ := scn_SW hP
  refine ⟨h1, h2, h3, h4, fun k q hk e => ?_, h6, h7⟩
  rw [subS_at] at e
  by_cases c : k < pN P ∧ B k = false
  · rw [if_pos c] at e; cases e
  · rw [if_neg c] at e; exact h5 k q hk e
theorem subS_DI {P : PARD} (hP : PW P) (B : Nat → Bool) : DI (subS P B) := by
  have h := scn_DI hP
  have g : ∀ k q, cAt (subS P B) k = some q → cAt (scnOf P) k = some q := fun k q e => by
    rw [subS_at] at e
    by_cases c : k < pN P ∧ B k = false
    · rw [if_pos c] at e; cases e
    · rw [if_neg c] at e; exact e
  exact ⟨fun i j q hi hj e1 e2 => h.1 i j q hi hj (g _ _ e1) (g _ _ e2), fun i q s hi hs e hh => h.2.1 i q s hi hs (g _ _ e) hh, fun i q hi e => h.2.2 i q hi (g _ _ e)⟩
abbrev sbN (P : PARD) (m : Nat) : SCN := subS P (fun k => m.testBit k)
abbrev mxB (m1 m2 y : Nat) : Nat → Bool := fun k => if k < y then m2.testBit k else m1.testBit k
theorem change_cls {M : MM} {P : PARD} {a m1 m2 : Nat} (hP : PW P) (ha : a + 8 < 60) (h1 : m1 < 256) (h2 : m2 < 256) (hC : CP M a P) (hB : BS M (sbN P m1) aT) :
    ∃ M2, fX3_change M a (nI m1 ^^^ nI m2) (nI m2) = some M2 ∧ Fr [69, 74, 75, 76] M M2 ∧ BS M2 (sbN P m2) aT := by
  have hn8 := hP.2.2.1
  have hx : (m1 ^^^ m2) < 256 := Nat.xor_lt_two_pow (n := 8) h1 h2
  rw [xor_nI]
  have key := lpk (κ := Unit) (σ := MM × Nat) (fun _ f st => fX3_change_l3 a f st.1 (nI (m1 ^^^ m2)) (nI m2) (nI st.2)) (fun _ M2 => some M2) (pN P)
    (fun y st => y = st.2 ∧ Fr [69, 74, 75, 76] M st.1 ∧ BS st.1 (subS P (mxB m1 m2 y)) aT) (fun M2 => Fr [69, 74, 75, 76] M M2 ∧ BS M2 (sbN P m2) aT) ?_ ?_ FU 0 (M, 0) (by omega) (by show _ < 5000; omega) ⟨rfl, Fr.rfl, by
      rw [subS_ext (B2 := fun k => m1.testBit k) (fun k _ => if_neg (Nat.not_lt_zero k))]; exact hB⟩
  · obtain ⟨M2, ⟨b1, b2⟩, b3⟩ := key
    exact ⟨M2, b3 (), b1, b2⟩
  · rintro y ⟨M1, y2⟩ hy ⟨rfl, hF, b1⟩
    simp only [] at hF b1
    have e2 : gI M1 a 2 = nI (pN P) := by rw [hF.gi (by simp; omega)]; exact hC.2.2.1
    have e1 : gI M1 (a + 1) y = nI (sqC (pW P) (pAt P y)) := by rw [hF.gi (by simp; omega)]; exact (hC.2.2.2.2.1 y hy).1
    have mx_y : mxB m1 m2 y y = m1.testBit y := if_neg (Nat.lt_irrefl y)
    have mx_s : ∀ b, m2.testBit y = b → subS P (fun x => if x = y then b else mxB m1 m2 y x) = subS P (mxB m1 m2 (y + 1)) := fun b hb => subS_ext (fun k _ => by
      show (if k = y then b else if k < y then m2.testBit k else m1.testBit k) = if k < y + 1 then m2.testBit k else m1.testBit k
      by_cases c : k = y
      · rw [if_pos c, if_pos (by omega), c, hb]
      · rw [if_neg c]
        by_cases c2 : k < y
        · rw [if_pos c2, if_pos (by omega)]
        · rw [if_neg c2, if_neg (by omega)])
    have hd : ∀ f, fX3_change_l3 a (f + 1) M1 (nI (m1 ^^^ m2)) (nI m2) (nI y) = if (m1 ^^^ m2).testBit y then (if m2.testBit y then (fX0_lay M1 (nI (sqC (pW P) (pAt P y))) (nI (10 + y))).bind (fun p15 => fX3_change_l3 a f p15 (nI (m1 ^^^ m2)) (nI m2) (nI (y + 1))) else (fX0_lay M1 (nI (sqC (pW P) (pAt P y))) 0).bind (fun p15 => fX3_change_l3 a f p15 (nI (m1 ^^^ m2)) (nI m2) (nI (y + 1)))) else fX3_change_l3 a f M1 (nI (m1 ^^^ m2)) (nI m2) (nI (y + 1)) := fun f => by
      rw [fX3_change_l3.eq_2, e2, le_f hy (by omega), bit_u0 (by omega) (by omega), gd_inb (by omega) (by decide), ix_nI (by omega), e1, bit_u0 (by omega) (by omega)]
      unfold fX3_change_j53
      rw [nl10, nI_add, nI_1]
    rw [Nat.testBit_xor] at hd
    by_cases c : m1.testBit y = m2.testBit y
    · refine Or.inl ⟨(M1, y + 1), ⟨rfl, hF, ?_⟩, fun _ f => ?_⟩
      · show BS M1 (subS P (mxB m1 m2 (y + 1))) aT
        rw [← mx_s _ rfl, subS_ext (B2 := mxB m1 m2 y)]
        · exact b1
        · intro k _
          by_cases z : k = y
          · rw [if_pos z, z, mx_y, c]
          · rw [if_neg z]
      · show fX3_change_l3 a (f + 1) M1 (nI (m1 ^^^ m2)) (nI m2) (nI y) = _
        rw [hd, c, Bool.xor_self, if_neg Bool.false_ne_true]
    · cases hb : m2.testBit y with
      | false =>
        have hb1 : m1.testBit y = true := by
          cases z : m1.testBit y with
          | false => rw [z, hb] at c; exact absurd rfl c
          | true => rfl
        obtain ⟨M3, d1, d2, d3⟩ := lay_away b1 (subS_DI hP _) (p := y) (q := pAt P y) hy (by rw [subS_at, if_neg (fun z => by rw [mx_y, hb1] at z; cases z.2)])
        rw [subS_out hy, mx_s false hb] at d3
        refine Or.inl ⟨(M3, y + 1), ⟨rfl, hF.trans d2, d3⟩, fun _ f => ?_⟩
        show fX3_change_l3 a (f + 1) M1 (nI (m1 ^^^ m2)) (nI m2) (nI y) = _
        rw [hd, hb, hb1, if_pos (by rfl), if_neg Bool.false_ne_true, show fX0_lay M1 (nI (sqC (pW P) (pAt P y))) 0 = some M3 from d1]
        rfl
      | true =>
        have hb1 : m1.testBit y = false := by
          cases z : m1.testBit y with
          | true => rw [z, hb] at c; exact absurd rfl c
          | false => rfl
        have h0 : onS (subS P (mxB m1 m2 y)) (pAt P y) = 0 := by
          have h := setA_away (S := subS P (fun x => if x = y then true else mxB m1 m2 y x)) (subS_DI hP _) (p := y) (q := pAt P y) hy (by rw [subS_at, if_neg (fun z => by rw [if_pos rfl] at z; cases z.2)])
          rw [subS_out hy, subS_ext (B2 := mxB m1 m2 y)] at h
          · exact h
          · intro k _
            by_cases z : k = y
            · rw [if_pos z, z, mx_y, hb1]
            · rw [if_neg z, if_neg z]
        obtain ⟨M3, d1, d2, d3⟩ := lay_put b1 (p := y) (q := pAt P y) hy (by rw [subS_at, if_pos ⟨hy, by rw [mx_y, hb1]⟩]) (hP.2.2.2.2.2.1 y hy).1 h0
        rw [subS_in hy, mx_s true hb] at d3
        refine Or.inl ⟨(M3, y + 1), ⟨rfl, hF.trans d2, d3⟩, fun _ f => ?_⟩
        show fX3_change_l3 a (f + 1) M1 (nI (m1 ^^^ m2)) (nI m2) (nI y) = _
        rw [hd, hb, hb1, if_pos (by rfl), if_pos rfl, show fX0_lay M1 (nI (sqC (pW P) (pAt P y))) (nI (10 + y)) = some M3 from d1]
        rfl
  · rintro ⟨M1, y2⟩ ⟨rfl, hF, b1⟩
    refine ⟨M1, ⟨hF, ?_⟩, fun _ f => ?_⟩
    · rw [show sbN P m2 = subS P (mxB m1 m2 (pN P)) from subS_ext (fun k hk => (if_pos hk).symm)]
      exact b1
    · show fX3_change_l3 a (f + 1) M1 (nI (m1 ^^^ m2)) (nI m2) (nI (pN P)) = _
      rw [fX3_change_l3.eq_2, show gI M1 a 2 = nI (pN P) by rw [hF.gi (by simp; omega)]; exact hC.2.2.1, le_t (Nat.le_refl _) (by omega)]
def absd (a b : Nat) : Nat := (a - b) + (b - a)
def difS (f sg : Nat → Nat) : Nat → Nat
  | 0 => 0
  | s + 1 => difS f sg s + if sg s = 0 then 0 else absd (sg s - 1) (f s)
theorem difS_le {f sg : Nat → Nat} {n : Nat} (hf : ∀ s, f s ≤ 8) (hg : ∀ s, s < n → sg s ≤ 10) : ∀ s, s ≤ n → difS f sg s ≤ 10 * s
  | 0, _ => Nat.le_refl _
  | s + 1, h => by
    have := difS_le hf hg s (by omega)
    have h1 := hf s
    have h2 := hg s (by omega)
    show difS f sg s + (if sg s = 0 then 0 else absd (sg s - 1) (f s)) ≤ _
    unfold absd
    split <;> omega
theorem sub_m {a b : Nat} (h : a < b) (hb : b < 2 ^ 30) : ¬ (0 : Int32) ≤ nI a - nI b ∧ 0 - (nI a - nI b) = nI (b - a) ∧ -(nI a - nI b) = nI (b - a) := by
  have e : (nI a - nI b).toInt = (a : Int) - b := pk_sub_toInt (by omega) (by omega)
  have e2 : nI b - nI a = nI (b - a) := pk_sub (by omega)
  refine ⟨?_, ?_, ?_⟩
  · rw [nl0, le_toInt (by decide), e]; omega
  · rw [← e2, Int32.zero_sub, Int32.neg_sub]
  · rw [← e2, Int32.neg_sub]
theorem jabs_sub {a b : Nat} (ha : a < 2 ^ 30) (hb : b < 2 ^ 30) : jabs (nI a - nI b) = nI (absd a b) := by
  unfold jabs absd
  by_cases c : a < b
  · obtain ⟨h1, h2, -⟩ := sub_m c hb
    rw [if_neg h1, h2]; congr 1; omega
  · rw [pk_sub (by omega), if_pos (by rw [nl0]; exact nI_le (by omega) (by omega))]; congr 1; omega
theorem dif_cls {M : MM} {S : SCN} {a2 a3 c : Nat} {L sg : Nat → Nat} (hB : BB M S) (hN : NR M S c) (hL : CLw M a2 L) (hsg : ∀ s, s < 8 → gI M (a3 + 1) s = nI (sg s) - 1 ∧ sg s ≤ 10) : fX3_differences M a2 a3 = some (nI (difS (countS S c L) sg (cS S))) := by
  have hS := hB.1
  have hs8 := hS.2.2.2.1
  have hle := difS_le (f := countS S c L) (sg := sg) (n := 8) (countS_le hS c L) (fun s hs => (hsg s hs).2)
  have key := lpk (κ := Unit) (σ := Nat) (fun _ f s => fX3_differences_l5 M a2 a3 f (nI (difS (countS S c L) sg s)) (nI s)) (fun _ (r : Int32) => some r) (cS S)
    (fun s st => s = st) (fun r => r = nI (difS (countS S c L) sg (cS S))) ?_ ?_ FU 0 0 (by omega) (by show _ < 5000; omega) rfl
  · obtain ⟨r, h1, h2⟩ := key
    rw [← h1]
    exact h2 ()
  · rintro s s2 hs rfl
    refine Or.inl ⟨s + 1, rfl, fun _ f => ?_⟩
    obtain ⟨g1, g2⟩ := hsg s (by omega)
    have hc := countS_le hS c L s
    have hl := hle s (by omega)
    show fX3_differences_l5 M a2 a3 (f + 1) (nI (difS (countS S c L) sg s)) (nI s) = fX3_differences_l5 M a2 a3 f (nI (difS (countS S c L) sg s + if sg s = 0 then 0 else absd (sg s - 1) (countS S c L s))) (nI (s + 1))
    rw [fX3_differences_l5.eq_2, hB.2.2.2.2.2.1, le_f hs (by omega), gd_inb (by omega) (by decide), ix_nI (by omega), g1]
    by_cases z : sg s = 0
    · rw [z, if_pos (show nI 0 - 1 = -1 from rfl), if_pos rfl, Nat.add_zero, nI_1]
    · rw [nl1, pk_sub (by omega), if_neg (show ¬ nI (sg s - 1) = -nI 1 from m1_ne (by omega)), gd_inb (by omega) (by decide), count_cls hB hN hL hs, bd_s, jabs_sub (by omega) (by omega), nI_add, bnd_r, nI_add, if_neg z]
  · rintro s rfl
    refine ⟨_, rfl, fun _ f => ?_⟩
    show fX3_differences_l5 M a2 a3 (f + 1) (nI (difS (countS S c L) sg (cS S))) (nI (cS S)) = _
    rw [fX3_differences_l5.eq_2, hB.2.2.2.2.2.1, le_t (Nat.le_refl _) (by omega)]
/-- the counts noted -/
def bmp (al : Nat → Nat) (f : Nat → Nat) (n : Nat) : Nat → Nat := fun k => al k + if k / 10 < n ∧ k % 10 = f (k / 10) then 1 else 0
theorem bmp_s {al f : Nat → Nat} {s k : Nat} (hf : f s ≤ 8) : bmp al f (s + 1) k = bmp al f s k + if k = 10 * s + f s then 1 else 0 := by
  unfold bmp
  by_cases c : k = 10 * s + f s
  · have h1 : k / 10 = s := by omega
    have h2 : k % 10 = f s := by omega
    rw [h1, h2, if_pos c, if_pos ⟨by omega, rfl⟩, if_neg (by omega)]
  · rw [if_neg c]
    by_cases z : k / 10 < s ∧ k % 10 = f (k / 10)
    · rw [if_pos z, if_pos ⟨by omega, z.2⟩]
    · rw [if_neg z, if_neg]
      rintro ⟨z1, z2⟩
      by_cases e : k / 10 = s
      · rw [e] at z2; exact c (by omega)
      · exact z ⟨by omega, z2⟩
theorem note_cls {M : MM} {S : SCN} {a2 c : Nat} {L al : Nat → Nat} (hB : BB M S) (hN : NR M S c) (hL : CLw M a2 L) (hal : ∀ k, k < 80 → gI M 89 k = nI (al k)) : ∃ M2, fX3_noteCounts M a2 = some M2 ∧ Fr [89] M M2 ∧ ∀ k, k < 80 → gI M2 89 k = nI (bmp al (countS S c L) (cS S) k) := by
  have hS := hB.1
  have hs8 := hS.2.2.2.1
  have key := lpk (κ := Unit) (σ := MM × Nat) (fun _ f st => fX3_noteCounts_l2 a2 f st.1 (nI st.2)) (fun _ M2 => some M2) (cS S)
    (fun s st => s = st.2 ∧ Fr [89] M st.1 ∧ ∀ k, k < 80 → gI st.1 89 k = nI (bmp al (countS S c L) s k)) (fun M2 => Fr [89] M M2 ∧ ∀ k, k < 80 → gI M2 89 k = nI (bmp al (countS S c L) (cS S) k)) ?_ ?_ FU 0 (M, 0) (by omega) (by show _ < 5000; omega) ⟨rfl, Fr.rfl, fun k hk => by
      unfold bmp; rw [if_neg (by omega)]; exact hal k hk⟩
  · obtain ⟨M2, ⟨b1, b2⟩, b3⟩ := key
    exact ⟨M2, b3 (), b1, b2⟩
  · rintro s ⟨M1, s2⟩ hs ⟨rfl, hF, b1⟩
    simp only [] at hF b1
    have hc := countS_le hS c L s
    have hB1 := BB_fr hB hF (by decide)
    refine Or.inl ⟨(sI M1 89 (10 * s + countS S c L s) (nI (bmp al (countS S c L) s (10 * s + countS S c L s) + 1)), s + 1), ⟨rfl, hF.pI (by decide), fun k hk => ?_⟩, fun _ f => ?_⟩
    · show gI (sI M1 89 (10 * s + countS S c L s) _) 89 k = _
      rw [bmp_s hc]
      by_cases z : k = 10 * s + countS S c L s
      · rw [← z, gI_eq, if_pos rfl]
      · rw [gI_nk _ _ _ _ _ _ z, if_neg z]; exact b1 k hk
    · show fX3_noteCounts_l2 a2 (f + 1) M1 (nI s) = fX3_noteCounts_l2 a2 f (sI M1 89 (10 * s + countS S c L s) (nI (bmp al (countS S c L) s (10 * s + countS S c L s) + 1))) (nI (s + 1))
      rw [fX3_noteCounts_l2.eq_2, hB1.2.2.2.2.2.1, le_f hs (by omega), count_cls hB1 (fun t ht => by rw [hF.gi (by decide)]; exact hN t ht) (CLw_fr hL hF (by decide)) hs, bd_s, nl10, le_f (by omega) (by decide), pk_mul, nI_add, gd_inb (by omega) (by decide), gd_inb (by omega) (by decide), ix_nI (by omega), b1 _ (by omega), nI_1, bnd_r, nI_1]
  · rintro ⟨M1, s2⟩ ⟨rfl, hF, b1⟩
    refine ⟨M1, ⟨hF, b1⟩, fun _ f => ?_⟩
    show fX3_noteCounts_l2 a2 (f + 1) M1 (nI (cS S)) = _
    rw [fX3_noteCounts_l2.eq_2, (BB_fr hB hF (by decide)).2.2.2.2.2.1, le_t (Nat.le_refl _) (by omega)]
