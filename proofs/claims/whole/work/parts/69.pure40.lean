/-! ===== rounds: the answers ===== -/
def omin (a b : Option Nat) : Option Nat := match a with
  | none => b
  | some x => match b with
    | none => some x
    | some y => if x ≤ y then some x else some y
def mnR (B : DPT) (s : Nat) : Nat → Option Nat
  | 0 => none
  | y + 1 => omin (mnR B s y) (B (8 * s + y))
theorem omin_none (a : Option Nat) : omin a none = a := by cases a <;> rfl
theorem omin_bd {a b : Option Nat} {m v : Nat} (ha : ∀ x, a = some x → x ≤ m) (hb : ∀ x, b = some x → x ≤ m) (e : omin a b = some v) : v ≤ m := by
  unfold omin at e
  cases a with
  | none => exact hb v e
  | some x =>
    cases b with
    | none => exact ha v e
    | some y =>
      have e : (if x ≤ y then some x else some y) = some v := e
      split at e
      · exact ha v e
      · exact hb v e
theorem dp_bd {B : DPT} {n k v : Nat} (hI : dpI n B) (e : B k = some v) : v ≤ 630 := by
  have h := (hI k v e).2.2
  have hbc : bcN (k / 8) ≤ 10 := cntN_le _ _
  omega
theorem mnR_bd {B : DPT} {n s : Nat} (hI : dpI n B) : ∀ y v, mnR B s y = some v → v ≤ 630
  | 0, v, e => by cases e
  | y + 1, v, e => omin_bd (mnR_bd hI y) (fun x h => dp_bd hI h) e
theorem mnR_tail {B : DPT} {n s : Nat} (hI : dpI n B) : ∀ j, n + j ≤ 8 → mnR B s (n + j) = mnR B s n
  | 0, _ => rfl
  | j + 1, h => by
    show omin (mnR B s (n + j)) (B (8 * s + (n + j))) = _
    rw [dpI_out hI (by omega), omin_none]; exact mnR_tail hI j (by omega)
/-- within x -/
def wI (x : Int32) (o : Option Nat) : Bool := match o with
  | none => false
  | some v => decide (nI v ≤ x)
theorem wI_omin {x : Int32} {a b : Option Nat} (ha : ∀ v, a = some v → v ≤ 630) (hb : ∀ v, b = some v → v ≤ 630) : wI x (omin a b) = (wI x a || wI x b) := by
  unfold omin
  cases a with
  | none => rfl
  | some u =>
    cases b with
    | none => rw [show wI x none = false from rfl, Bool.or_false]
    | some v =>
      have hu := ha u rfl
      have hv := hb v rfl
      have key : ∀ {p r : Nat}, p ≤ r → r ≤ 630 → wI x (some r) = true → wI x (some p) = true := fun {p r} h1 h2 h3 => by
        have h3 : nI r ≤ x := of_decide_eq_true h3
        rw [le_toInt (by omega)] at h3
        refine decide_eq_true ?_
        rw [le_toInt (by omega)]
        omega
      show wI x (if u ≤ v then some u else some v) = _
      by_cases c : u ≤ v
      · rw [if_pos c]
        cases h : wI x (some v) with
        | false => rw [Bool.or_false]
        | true => rw [key c hv h]; rfl
      · rw [if_neg c]
        cases h : wI x (some u) with
        | false => rw [Bool.false_or]
        | true => rw [key (by omega) hu h]; rfl
def gmM (x : Int32) (B : DPT) : Nat → Nat
  | 0 => 0
  | m + 1 => max (gmM x B m) (if wI x (B (8 + m)) = true then bcN ((8 + m) / 8) else 0)
theorem gmM_le (x : Int32) (B : DPT) : ∀ m, gmM x B m ≤ 10
  | 0 => Nat.zero_le _
  | m + 1 => by
    have h := gmM_le x B m
    have hbc : bcN ((8 + m) / 8) ≤ 10 := cntN_le _ _
    show max (gmM x B m) (if wI x (B (8 + m)) = true then bcN ((8 + m) / 8) else 0) ≤ 10
    split <;> omega
theorem gmM_row {x : Int32} {B : DPT} {n s : Nat} (hI : dpI n B) : ∀ j, j ≤ 8 → gmM x B (8 * s + j) = max (gmM x B (8 * s)) (if wI x (mnR B (s + 1) j) = true then bcN (s + 1) else 0)
  | 0, _ => by rw [if_neg (show ¬ wI x (mnR B (s + 1) 0) = true from Bool.false_ne_true)]; simp
  | j + 1, h => by
    have ih := gmM_row (x := x) (s := s) hI j (by omega)
    show max (gmM x B (8 * s + j)) (if wI x (B (8 + (8 * s + j))) = true then bcN ((8 + (8 * s + j)) / 8) else 0) = max (gmM x B (8 * s)) (if wI x (omin (mnR B (s + 1) j) (B (8 * (s + 1) + j))) = true then bcN (s + 1) else 0)
    rw [ih, wI_omin (mnR_bd hI j) (fun v e => dp_bd hI e), show (8 + (8 * s + j)) / 8 = s + 1 by omega, show 8 + (8 * s + j) = 8 * (s + 1) + j by omega]
    cases wI x (mnR B (s + 1) j) <;> cases wI x (B (8 * (s + 1) + j)) <;> simp <;> omega
/-! the class -/
theorem fewest_cls {M : MM} {n s : Nat} {B : DPT} (hn : n ≤ 8) (hs : s < 2 ^ n) (hs0 : 0 < s) (h61 : gI M 61 3 = nI n) (hI : dpI n B) (hR : RC M B) : fX10_fewestTo M (nI s) = some (opI (mnR B s n)) := by
  have hp := p8 hn
  have key := lpk (κ := Unit) (σ := Nat) (fun _ f y => fX10_fewestTo_l10 M f (nI s) (opI (mnR B s y)) (nI y)) (fun _ (r : Int32) => some r) n
    (fun y st => y = st) (fun r => r = opI (mnR B s n)) ?_ ?_ FU 0 0 (by omega) (by show _ < 5000; omega) rfl
  · obtain ⟨r, h1, h2⟩ := key
    unfold fX10_fewestTo
    rw [nl0, eqn_f (by omega) (by omega) (by decide), ← h1]
    exact h2 ()
  · rintro y y2 hy rfl
    refine Or.inl ⟨y + 1, rfl, fun _ f => ?_⟩
    have hv := fun v => dp_bd (k := 8 * s + y) (v := v) hI
    have hm := mnR_bd (s := s) hI y
    show fX10_fewestTo_l10 M (f + 1) (nI s) (opI (mnR B s y)) (nI y) = fX10_fewestTo_l10 M f (nI s) (opI (omin (mnR B s y) (B (8 * s + y)))) (nI (y + 1))
    rw [fX10_fewestTo_l10.eq_2, h61, le_f hy (by omega), nl8, pk_mul, nI_add, gd_inb (by omega) (by decide), ix_nI (by omega), bnd_r, hR _ (by omega)]
    unfold fX10_fewestTo_j54
    cases e : B (8 * s + y) with
    | none => rw [if_pos (show opI none = -1 from rfl), omin_none, nI_1]
    | some v =>
      have := hv v e
      rw [show opI (some v) = nI v from rfl, m1_iff (by omega)]
      cases e2 : mnR B s y with
      | none => rw [if_pos (show opI none = -1 from rfl), nI_1]; rfl
      | some u =>
        have := hm u e2
        rw [show opI (some u) = nI u from rfl, m1_iff (by omega), nI_1]
        by_cases c : u ≤ v
        · rw [le_t c (by omega)]; unfold omin; simp only [if_pos c]; rfl
        · rw [le_f (by omega) (by omega)]; unfold omin; simp only [if_neg c]; rfl
  · rintro y rfl
    refine ⟨_, rfl, fun _ f => ?_⟩
    show fX10_fewestTo_l10 M (f + 1) (nI s) (opI (mnR B s n)) (nI n) = _
    rw [fX10_fewestTo_l10.eq_2, h61, le_t (Nat.le_refl n) (by omega)]
theorem jmax_nI {a b : Nat} (ha : a < 2 ^ 31) (hb : b < 2 ^ 31) : jmax (nI a) (nI b) = nI (max a b) := by
  unfold jmax
  by_cases c : a < b
  · rw [lt_t c hb, Nat.max_eq_right (by omega)]
  · rw [lt_f (by omega) ha, Nat.max_eq_left (by omega)]
theorem most_cls {M : MM} {n : Nat} {B : DPT} {x : Int32} (hn : n ≤ 8) (h61 : gI M 61 3 = nI n) (hI : dpI n B) (hR : RC M B) : fX10_mostWithin M x = some (nI (gmM x B (8 * (2 ^ n - 1)))) := by
  have hp := p8 hn
  have hp0 : 0 < 2 ^ n := Nat.pow_pos (by decide)
  have key := lpk (κ := Unit) (σ := Nat) (fun _ f s => fX10_mostWithin_l4 M f x (nI (gmM x B (8 * s))) (nI (s + 1))) (fun _ (r : Int32) => some r) (2 ^ n - 1)
    (fun s st => s = st) (fun r => r = nI (gmM x B (8 * (2 ^ n - 1)))) ?_ ?_ FU 0 0 (by omega) (by show _ < 5000; omega) rfl
  · obtain ⟨r, h1, h2⟩ := key
    rw [← h1]
    exact h2 ()
  · rintro s s2 hs rfl
    refine Or.inl ⟨s + 1, rfl, fun _ f => ?_⟩
    have hm := mnR_bd (s := s + 1) hI n
    have hg := gmM_le x B (8 * s)
    have hbc : bcN (s + 1) ≤ 10 := cntN_le _ _
    have row := gmM_row (x := x) (s := s) hI 8 (by omega)
    have tl := mnR_tail (s := s + 1) hI (8 - n) (by omega)
    rw [show n + (8 - n) = 8 by omega] at tl
    rw [tl] at row
    show fX10_mostWithin_l4 M (f + 1) x (nI (gmM x B (8 * s))) (nI (s + 1)) = fX10_mostWithin_l4 M f x (nI (gmM x B (8 * s + 8))) (nI (s + 1 + 1))
    rw [fX10_mostWithin_l4.eq_2, h61, shl_nI (by omega), le_f (by omega) (by omega), fewest_cls hn (by omega) (by omega) h61 hI hR, bd_s, row]
    cases e : mnR B (s + 1) n with
    | none => rw [if_pos (show opI none = -1 from rfl), if_neg (show ¬ wI x none = true from Bool.false_ne_true), Nat.max_zero, nI_1]
    | some v =>
      have := hm v e
      rw [show opI (some v) = nI v from rfl, m1_iff (by omega)]
      by_cases c : nI v ≤ x
      · have c2 : ¬ x < nI v := by rw [lt_toInt (by omega)]; rw [le_toInt (by omega)] at c; omega
        rw [if_neg c2, if_pos (show wI x (some v) = true from decide_eq_true c), show fJ6_bitCount_0f7a4 (nI (s + 1)) = nI (bcN (s + 1)) from bc10 _ (by omega), jmax_nI (by omega) (by omega), bnd_r, nI_1]
      · have c2 : x < nI v := by rw [lt_toInt (by omega)]; rw [le_toInt (by omega)] at c; omega
        rw [if_pos c2, if_neg (show ¬ wI x (some v) = true from fun h => c (of_decide_eq_true h)), Nat.max_zero, nI_1]
  · rintro s rfl
    refine ⟨_, rfl, fun _ f => ?_⟩
    show fX10_mostWithin_l4 M (f + 1) x (nI (gmM x B (8 * (2 ^ n - 1)))) (nI (2 ^ n - 1 + 1)) = _
    rw [fX10_mostWithin_l4.eq_2, h61, shl_nI (by omega), le_t (by omega) (by omega)]
/-! the reference -/
theorem bits_ref {M : MM} {s : Nat} (hs : s < 256) : fX12_bitsOf M (nI s) = some (nI (bcN s)) := by
  have key := lpk (κ := Unit) (σ := Nat) (fun _ f y => fX12_bitsOf_l4 M f (nI s) (nI (cntN (fun p => s.testBit p) y)) (nI y)) (fun _ (r : Int32) => some r) 8
    (fun y st => y = st) (fun r => r = nI (bcN s)) ?_ ?_ FU 0 0 (by omega) (by decide) rfl
  · obtain ⟨r, h1, h2⟩ := key
    rw [← h1]
    exact h2 ()
  · rintro y y2 hy rfl
    refine Or.inl ⟨y + 1, rfl, fun _ f => ?_⟩
    show fX12_bitsOf_l4 M (f + 1) (nI s) (nI (cntN (fun p => s.testBit p) y)) (nI y) = fX12_bitsOf_l4 M f (nI s) (nI (cntN (fun p => s.testBit p) (y + 1))) (nI (y + 1))
    rw [fX12_bitsOf_l4.eq_2, nl8, le_f hy (by decide), bit_sn (by omega) (by omega), nI_add, bnd_r, nI_1, cntN]
  · rintro y rfl
    refine ⟨_, rfl, fun _ f => ?_⟩
    show fX12_bitsOf_l4 M (f + 1) (nI s) (nI (cntN (fun p => s.testBit p) 8)) (nI 8) = _
    rw [fX12_bitsOf_l4.eq_2, nl8, le_t (Nat.le_refl 8) (by decide)]
    unfold bcN
    rw [cntN_tail (n := 8) (m := 10) (by decide) (fun k h1 _ => tb_ge hs h1)]
theorem j126 {M : MM} {B : DPT} {n m : Nat} {x all u : Int32} (hn : n ≤ 8) (hm : m < 8 * (2 ^ n - 1)) (hx : x < 9999) (hI : dpI n B) (hR : RR M B) (kk : MM → Int32 → Int32 → Int32 → Int32 → Int32 → Option (Int32 × MM)) : fX12_round_j126 kk M x all u (nI (gmM x B m)) (nI (8 + m)) = kk M x all u (nI (gmM x B (m + 1))) (nI (8 + m + 1)) := by
  have hp := p8 hn
  have hg := gmM_le x B m
  have hbc : bcN ((8 + m) / 8) ≤ 10 := cntN_le _ _
  have ed : nI (8 + m) / 8 = nI ((8 + m) / 8) := pk_div (d := 8) (by omega) (by decide) (by decide)
  unfold fX12_round_j126
  rw [gd_inb (by omega) (by decide), ix_nI (by omega), hR _ (by omega), ed, bits_ref (by omega), nI_1]
  show _ = kk M x all u (nI (max (gmM x B m) (if wI x (B (8 + m)) = true then bcN ((8 + m) / 8) else 0))) (nI (8 + m + 1))
  cases e : B (8 + m) with
  | none => rw [if_pos (show x < r9 none from hx), if_neg (show ¬ wI x none = true from Bool.false_ne_true), Nat.max_zero]
  | some v =>
    have hv := dp_bd hI e
    by_cases c : nI v ≤ x
    · have c2 : ¬ x < r9 (some v) := by show ¬ x < nI v; rw [lt_toInt (by omega)]; rw [le_toInt (by omega)] at c; omega
      rw [if_neg c2, if_pos (show wI x (some v) = true from decide_eq_true c), bd_s, bd_s]
      by_cases c3 : bcN ((8 + m) / 8) ≤ gmM x B m
      · rw [le_t c3 (by omega), Nat.max_eq_left c3]
      · rw [le_f (by omega) (by omega), Nat.max_eq_right (by omega)]
    · have c2 : x < r9 (some v) := by show x < nI v; rw [lt_toInt (by omega)]; rw [le_toInt (by omega)] at c; omega
      rw [if_pos c2, if_neg (show ¬ wI x (some v) = true from fun h => c (of_decide_eq_true h)), Nat.max_zero]
theorem loop_ref {M : MM} {B : DPT} {n : Nat} {x : Int32} (hn : n ≤ 8) (hn0 : 0 < n) (hx : x < 9999) (h90 : gI M 90 14 = nI n) (hI : dpI n B) (hR : RR M B) (kk : MM → Int32 → Int32 → Int32 → Option (Int32 × MM)) :
    fX12_round_l83 kk FU M x (nI (2 ^ n - 1)) 9999 0 (nI 8) = kk M x (r9 (mnR B (2 ^ n - 1) 8)) (nI (gmM x B (8 * (2 ^ n - 1)))) := by
  have hp := p8 hn
  have hp2 : 2 ≤ 2 ^ n := Nat.pow_le_pow_right (n := 2) (i := 1) (by decide) hn0
  obtain ⟨A, hA⟩ : ∃ A, A = 2 ^ n - 1 := ⟨_, rfl⟩
  rw [← hA]
  have key := lpk (κ := Unit) (σ := Nat) (fun _ f m => fX12_round_l83 kk f M x (nI A) (r9 (mnR B A (8 + m - 8 * A))) (nI (gmM x B m)) (nI (8 + m))) (fun _ (r : Option (Int32 × MM)) => r) (8 * A)
    (fun m st => m = st) (fun r => r = kk M x (r9 (mnR B A 8)) (nI (gmM x B (8 * A)))) ?_ ?_ FU 0 0 (by omega) (by show _ < 5000; omega) rfl
  · obtain ⟨r, h1, h2⟩ := key
    have h2 := h2 ()
    rw [h1] at h2
    simp only [show 8 + 0 - 8 * A = 0 by omega] at h2
    exact h2
  · rintro m m2 hm rfl
    refine Or.inl ⟨m + 1, rfl, fun _ f => ?_⟩
    have ed : nI (8 + m) / 8 = nI ((8 + m) / 8) := pk_div (d := 8) (by omega) (by decide) (by decide)
    show fX12_round_l83 kk (f + 1) M x (nI A) (r9 (mnR B A (8 + m - 8 * A))) (nI (gmM x B m)) (nI (8 + m)) = fX12_round_l83 kk f M x (nI A) (r9 (mnR B A (8 + (m + 1) - 8 * A))) (nI (gmM x B (m + 1))) (nI (8 + m + 1))
    rw [fX12_round_l83.eq_2, h90, shl8 n (by omega), le_f (by omega) (by omega), ed]
    by_cases c : (8 + m) / 8 = A
    · rw [eqn_t c, gd_inb (by omega) (by decide), ix_nI (by omega), bnd_r, gd_inb (by omega) (by decide), hR _ (by omega), j126 hn (by omega) hx hI hR, j126 hn (by omega) hx hI hR, show 8 + (m + 1) - 8 * A = (8 + m - 8 * A) + 1 by omega]
      have h8 : 8 * A + (8 + m - 8 * A) = 8 + m := by omega
      show _ = fX12_round_l83 kk f M x (nI A) (r9 (omin (mnR B A (8 + m - 8 * A)) (B (8 * A + (8 + m - 8 * A))))) _ _
      rw [h8]
      have hm1 := mnR_bd (s := A) hI (8 + m - 8 * A)
      cases e : B (8 + m) with
      | none =>
        rw [omin_none]
        by_cases z : r9 (mnR B A (8 + m - 8 * A)) ≤ r9 none
        · rw [if_pos z]
        · rw [if_neg z]
          cases e2 : mnR B A (8 + m - 8 * A) with
          | none => rfl
          | some u =>
            have := hm1 u e2
            rw [e2] at z
            exact absurd (show nI u ≤ nI 9999 from nI_le (by omega) (by decide)) z
      | some v =>
        have hv := dp_bd hI e
        cases e2 : mnR B A (8 + m - 8 * A) with
        | none => rw [if_neg (show ¬ r9 none ≤ r9 (some v) from nI_ge (a := v) (b := 9999) (by omega) (by decide))]; rfl
        | some u =>
          have := hm1 u e2
          by_cases z : u ≤ v
          · rw [if_pos (show r9 (some u) ≤ r9 (some v) from nI_le z (by omega))]; unfold omin; simp only [if_pos z]
          · rw [if_neg (show ¬ r9 (some u) ≤ r9 (some v) from nI_ge (by omega) (by omega))]; unfold omin; simp only [if_neg z]
    · rw [eqn_f c (by omega) (by omega), j126 hn (by omega) hx hI hR, show 8 + (m + 1) - 8 * A = 8 + m - 8 * A by omega]
  · rintro m rfl
    refine ⟨_, rfl, fun _ f => ?_⟩
    show fX12_round_l83 kk (f + 1) M x (nI A) (r9 (mnR B A (8 + 8 * A - 8 * A))) (nI (gmM x B (8 * A))) (nI (8 + 8 * A)) = _
    rw [fX12_round_l83.eq_2, h90, shl8 n (by omega), le_t (by omega) (by omega), show 8 + 8 * A - 8 * A = 8 by omega]
