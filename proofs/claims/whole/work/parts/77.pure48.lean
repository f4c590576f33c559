/-! ===== text: tokens ===== -/
def isLb (b : Nat) : Bool := decide (97 ≤ b ∧ b ≤ 122)
def isDb (b : Nat) : Bool := decide (48 ≤ b ∧ b ≤ 57)
def isSb (b : Nat) : Bool := decide (b = 10 ∨ b = 32)
abbrev sgb (b : Nat) : Int32 := (nI b).toInt8.toInt32
theorem sgb_l : ∀ b, b < 256 → (if sgb b < 97 then (0 : Int32) else if 122 < sgb b then 0 else 1) = bI (isLb b) := by decide +kernel
theorem sgb_d : ∀ b, b < 256 → (if sgb b < 48 then (0 : Int32) else if 57 < sgb b then 0 else 1) = bI (isDb b) := by decide +kernel
theorem sgb_e : ∀ b, b < 256 → ∀ c, c < 123 → (sgb b = nI c ↔ b = c) := by decide +kernel
/-- the end of a run -/
def runE (p : Nat → Bool) (len : Nat) : Nat → Nat → Nat
  | 0, i => i
  | n + 1, i => if i < len ∧ p i = true then runE p len n (i + 1) else i
theorem runE_ge (p : Nat → Bool) (len : Nat) : ∀ n i, i ≤ runE p len n i
  | 0, i => Nat.le_refl i
  | n + 1, i => by
    rw [runE]
    split
    · have := runE_ge p len n (i + 1); omega
    · exact Nat.le_refl i
theorem runE_le (p : Nat → Bool) (len : Nat) : ∀ n i, i ≤ len → runE p len n i ≤ len
  | 0, i, h => h
  | n + 1, i, h => by
    rw [runE]
    split
    · exact runE_le p len n (i + 1) (by omega)
    · exact h
theorem runE_all (p : Nat → Bool) (len : Nat) : ∀ n i j, i ≤ j → j < runE p len n i → p j = true ∧ j < len
  | 0, i, j, h1, h2 => by rw [runE] at h2; omega
  | n + 1, i, j, h1, h2 => by
    rw [runE] at h2
    split at h2
    · rename_i c
      by_cases e : j = i
      · rw [e]; exact ⟨c.2, c.1⟩
      · exact runE_all p len n (i + 1) j (by omega) h2
    · omega
theorem runE_stop (p : Nat → Bool) (len : Nat) : ∀ n i, len ≤ i + n → ¬ (runE p len n i < len ∧ p (runE p len n i) = true)
  | 0, i, h => by rw [runE]; omega
  | n + 1, i, h => by
    rw [runE]
    split
    · exact runE_stop p len n (i + 1) (by omega)
    · assumption
theorem runE_first {p : Nat → Bool} {len n i : Nat} (h1 : i < len) (h2 : p i = true) : i < runE p len (n + 1) i := by
  rw [runE, if_pos ⟨h1, h2⟩]
  have := runE_ge p len n (i + 1)
  omega
/-- the tape in the class -/
def TPc (M : MM) (tp : Nat → Nat) : Prop := ∀ i, i < 600 → gI M 39 i = sgb (tp i) ∧ tp i < 256
theorem let_cls {M : MM} {tp : Nat → Nat} (hT : TPc M tp) {i : Nat} (hi : i < 600) : fX7_isLetter M (nI i) = some (bI (isLb (tp i))) := by
  obtain ⟨h1, h2⟩ := hT i hi
  unfold fX7_isLetter
  rw [gd_inb hi (by decide), gd_inb hi (by decide), ix_nI (by omega), h1, ← sgb_l _ h2]
  by_cases a : sgb (tp i) < 97
  · rw [if_pos a, if_pos a]
  · rw [if_neg a, if_neg a]
    by_cases b : 122 < sgb (tp i)
    · rw [if_pos b, if_pos b]
    · rw [if_neg b, if_neg b]
theorem dig_cls {M : MM} {tp : Nat → Nat} (hT : TPc M tp) {i : Nat} (hi : i < 600) : fX7_isDigit M (nI i) = some (bI (isDb (tp i))) := by
  obtain ⟨h1, h2⟩ := hT i hi
  unfold fX7_isDigit
  rw [gd_inb hi (by decide), gd_inb hi (by decide), ix_nI (by omega), h1, ← sgb_d _ h2]
  by_cases a : sgb (tp i) < 48
  · rw [if_pos a, if_pos a]
  · rw [if_neg a, if_neg a]
    by_cases b : 57 < sgb (tp i)
    · rw [if_pos b, if_pos b]
    · rw [if_neg b, if_neg b]
theorem bI_0 {b : Bool} {α : Type} {x y : α} : (if bI b = 0 then x else y) = if b = true then y else x := by
  cases b <;> rfl
theorem run_d {M : MM} {tp : Nat → Nat} {len : Nat} (hT : TPc M tp) (hl : len ≤ 600) (h7 : gI M 41 7 = nI len) (kk : MM → Int32 → Option MM) : ∀ n i f, i ≤ len → len ≤ i + n → n < f → fX7_nextToken_l108 kk f M (nI i) = kk M (nI (runE (fun j => isDb (tp j)) len n i))
  | 0, i, f + 1, h1, h2, _ => by
    rw [fX7_nextToken_l108.eq_2, h7, le_t (show len ≤ i by omega) (by omega), runE]
  | n + 1, i, f + 1, h1, h2, h3 => by
    rw [fX7_nextToken_l108.eq_2, h7, runE]
    by_cases c : i < len
    · rw [le_f c (by omega), dig_cls hT (by omega), bd_s, bI_0]
      cases e : isDb (tp i) with
      | true => rw [if_pos rfl, if_pos ⟨c, rfl⟩, nI_1]; exact run_d hT hl h7 kk n (i + 1) f (by omega) (by omega) (by omega)
      | false => rw [if_neg Bool.false_ne_true, if_neg (fun z => by cases z.2)]
    · rw [le_t (by omega) (by omega), if_neg (fun z => c z.1)]
  | _, _, 0, _, _, h => absurd h (Nat.not_lt_zero _)
theorem run_l {M : MM} {tp : Nat → Nat} {len : Nat} (hT : TPc M tp) (hl : len ≤ 600) (h7 : gI M 41 7 = nI len) (kk : MM → Int32 → Option MM) : ∀ n i f, i ≤ len → len ≤ i + n → n < f → fX7_nextToken_l70 kk f M (nI i) = kk M (nI (runE (fun j => isLb (tp j)) len n i))
  | 0, i, f + 1, h1, h2, _ => by
    rw [fX7_nextToken_l70.eq_2, h7, le_t (show len ≤ i by omega) (by omega), runE]
  | n + 1, i, f + 1, h1, h2, h3 => by
    rw [fX7_nextToken_l70.eq_2, h7, runE]
    by_cases c : i < len
    · rw [le_f c (by omega), let_cls hT (by omega), bd_s, bI_0]
      cases e : isLb (tp i) with
      | true => rw [if_pos rfl, if_pos ⟨c, rfl⟩, nI_1]; exact run_l hT hl h7 kk n (i + 1) f (by omega) (by omega) (by omega)
      | false => rw [if_neg Bool.false_ne_true, if_neg (fun z => by cases z.2)]
    · rw [le_t (by omega) (by omega), if_neg (fun z => c z.1)]
  | _, _, 0, _, _, h => absurd h (Nat.not_lt_zero _)
theorem run_s {M : MM} {tp : Nat → Nat} {len : Nat} (hT : TPc M tp) (hl : len ≤ 600) (h7 : gI M 41 7 = nI len) (kk : MM → Int32 → Option MM) : ∀ n i f, i ≤ len → len ≤ i + n → n < f → fX7_nextToken_l5 kk f M (nI i) = kk M (nI (runE (fun j => isSb (tp j)) len n i))
  | 0, i, f + 1, h1, h2, _ => by
    rw [fX7_nextToken_l5.eq_2, h7, le_t (show len ≤ i by omega) (by omega), runE]
  | n + 1, i, f + 1, h1, h2, h3 => by
    rw [fX7_nextToken_l5.eq_2, h7, runE]
    by_cases c : i < len
    · obtain ⟨t1, t2⟩ := hT i (by omega)
      rw [le_f c (by omega), gd_inb (by omega) (by decide), gd_inb (by omega) (by decide), ix_nI (by omega), t1, nI_1]
      have e10 := sgb_e (tp i) t2 10 (by decide)
      have e32 := sgb_e (tp i) t2 32 (by decide)
      have ih := run_s hT hl h7 kk n (i + 1) f (by omega) (by omega) (by omega)
      by_cases a : tp i = 10
      · rw [if_pos (show sgb (tp i) = 10 from e10.mpr a), if_pos ⟨c, decide_eq_true (Or.inl a)⟩]; exact ih
      · rw [if_neg (show ¬ sgb (tp i) = 10 from fun z => a (e10.mp z))]
        by_cases b : tp i = 32
        · rw [if_pos (show sgb (tp i) = 32 from e32.mpr b), if_pos ⟨c, decide_eq_true (Or.inr b)⟩]; exact ih
        · rw [if_neg (show ¬ sgb (tp i) = 32 from fun z => b (e32.mp z)), if_neg (fun z => by have := of_decide_eq_true z.2; omega)]
    · rw [le_t (by omega) (by omega), if_neg (fun z => c z.1)]
  | _, _, 0, _, _, h => absurd h (Nat.not_lt_zero _)
/-- start, sort and end of a token -/
def tkS (tp : Nat → Nat) (len pos : Nat) : Nat := runE (fun j => isSb (tp j)) len 600 pos
def tkD (tp : Nat → Nat) (len s : Nat) : Nat := runE (fun j => isDb (tp j)) len 600 s
def tkL (tp : Nat → Nat) (len s : Nat) : Nat := runE (fun j => isLb (tp j)) len 600 s
def tkK (tp : Nat → Nat) (len s : Nat) : Nat := if s < len then (if isLb (tp s) = true then 1 else if isDb (tp s) = true then (if tkD tp len s - s ≤ 2 then 2 else 4) else if tp s = 59 then 3 else 4) else 0
def tkE (tp : Nat → Nat) (len s : Nat) : Nat := if s < len then (if isLb (tp s) = true then tkL tp len s else if isDb (tp s) = true then tkD tp len s else s + 1) else s
def nxTc (M : MM) (s k e : Nat) : MM := sI (sI (sI M 41 9 (nI s)) 41 8 (nI k)) 41 10 (nI e)
theorem tok_cls {M : MM} {tp : Nat → Nat} {len pos : Nat} (hT : TPc M tp) (hl : len ≤ 600) (h7 : gI M 41 7 = nI len) (h10 : gI M 41 10 = nI pos) (hp : pos ≤ len) :
    fX7_nextToken M = some (nxTc M (tkS tp len pos) (tkK tp len (tkS tp len pos)) (tkE tp len (tkS tp len pos))) := by
  have hs : tkS tp len pos ≤ len := runE_le _ _ _ _ hp
  unfold fX7_nextToken
  rw [bnd_r, h10, run_s hT hl h7 _ 600 pos FU hp (by omega) (by show _ < 5000; omega)]
  show fX7_nextToken_j41 M (nI (tkS tp len pos)) = _
  generalize tkS tp len pos = s at *
  unfold fX7_nextToken_j41
  rw [bnd_r]
  have hT1 : TPc (sI M 41 9 (nI s)) tp := fun i hi => by rw [gI_ne _ _ _ _ _ _ (by decide)]; exact hT i hi
  have h71 : gI (sI M 41 9 (nI s)) 41 7 = nI len := by rw [gI_nk _ _ _ _ _ _ (by decide)]; exact h7
  rw [h71]
  unfold tkK tkE nxTc
  by_cases c : s < len
  · rw [lt_t c (by omega), if_pos c, if_pos c, let_cls hT1 (by omega), bd_s, bI_0]
    cases el : isLb (tp s) with
    | true =>
      rw [if_pos rfl, if_pos rfl, if_pos rfl, run_l hT1 hl h71 _ 600 s FU hs (by omega) (by show _ < 5000; omega)]
      unfold fX7_nextToken_j92 fX7_nextToken_j175
      rw [bnd_r, bnd_r]
      rfl
    | false =>
      rw [if_neg Bool.false_ne_true, if_neg Bool.false_ne_true, if_neg Bool.false_ne_true, dig_cls hT1 (by omega), bd_s, bI_0]
      cases ed : isDb (tp s) with
      | true =>
        rw [if_pos rfl, if_pos rfl, if_pos rfl, run_d hT1 hl h71 _ 600 s FU hs (by omega) (by show _ < 5000; omega)]
        unfold fX7_nextToken_j130
        have hge : s ≤ tkD tp len s := runE_ge _ _ _ _
        have hle : tkD tp len s ≤ len := runE_le _ _ _ _ hs
        show (if 2 < nI (tkD tp len s) - gI (sI M 41 9 (nI s)) 41 9 then _ else _) = _
        rw [gI_eq, pk_sub hge, nl2]
        unfold fX7_nextToken_j146 fX7_nextToken_j175
        by_cases z : tkD tp len s - s ≤ 2
        · rw [lt_f z (by omega), if_pos z, bnd_r, bnd_r]
          rfl
        · rw [lt_t (by omega) (by omega), if_neg z, bnd_r, bnd_r]
          rfl
      | false =>
        obtain ⟨t1, t2⟩ := hT1 s (by omega)
        have e59 := sgb_e (tp s) t2 59 (by decide)
        rw [if_neg Bool.false_ne_true, if_neg Bool.false_ne_true, if_neg Bool.false_ne_true, gd_inb (by omega) (by decide), ix_nI (by omega), t1]
        unfold fX7_nextToken_j169 fX7_nextToken_j175
        by_cases z : tp s = 59
        · rw [if_pos (show sgb (tp s) = 59 from e59.mpr z), if_pos z, bnd_r, bnd_r, nI_1]
          rfl
        · rw [if_neg (show ¬ sgb (tp s) = 59 from fun q => z (e59.mp q)), if_neg z, bnd_r, bnd_r, nI_1]
          rfl
  · rw [lt_f (by omega) (by omega), if_neg c, if_neg c, bnd_r]
    unfold fX7_nextToken_j175
    rw [bnd_r]
    rfl
