/-! ===== what a method may change: cells by number ===== -/
def Fr (P : List Nat) (M M2 : MM) : Prop := ∀ c, c ∉ P → M2.1 c = M.1 c ∧ M2.2 c = M.2 c
theorem Fr.rfl {P : List Nat} {M : MM} : Fr P M M := fun _ _ => ⟨Eq.refl _, Eq.refl _⟩
theorem Fr.trans {P : List Nat} {M M1 M2 : MM} (h : Fr P M M1) (h2 : Fr P M1 M2) : Fr P M M2 := fun c hc => ⟨(h2 c hc).1.trans (h c hc).1, (h2 c hc).2.trans (h c hc).2⟩
theorem Fr.mono {P P2 : List Nat} {M M1 : MM} (h : Fr P M M1) (hs : ∀ c ∈ P, c ∈ P2) : Fr P2 M M1 := fun c hc => h c (fun q => hc (hs c q))
theorem Fr.pI {P : List Nat} {M M1 : MM} {a k : Nat} {v : Int32} (h : Fr P M M1) (ha : a ∈ P) : Fr P M (sI M1 a k v) := fun c hc => ⟨by
  have hne : c ≠ a := fun e => hc (e ▸ ha)
  simp only [sI, hne, if_false]
  exact (h c hc).1, (h c hc).2⟩
theorem Fr.pL {P : List Nat} {M M1 : MM} {a k : Nat} {v : Int64} (h : Fr P M M1) (ha : a ∈ P) : Fr P M (sL M1 a k v) := fun c hc => ⟨(h c hc).1, by
  have hne : c ≠ a := fun e => hc (e ▸ ha)
  simp only [sL, hne, if_false]
  exact (h c hc).2⟩
theorem Fr.pC {P : List Nat} {M M1 : MM} {a b sp dp n : Nat} (h : Fr P M M1) (hb : b ∈ P) : Fr P M (cpI M1 a b sp dp n) := fun c hc => ⟨by
  have hne : c ≠ b := fun e => hc (e ▸ hb)
  simp only [cpI, hne, if_false]
  exact (h c hc).1, (h c hc).2⟩
theorem bnd_ex {α β : Type} {v : α} {f : α → β} {r : β} (hf : bnd v f = r) : ∃ x, x = v ∧ f x = r := ⟨v, Eq.refl _, hf⟩
/-! ===== the memory's laws ===== -/
theorem gI_sI (M : MM) (a k b j : Nat) (v : Int32) : gI (sI M a k v) b j = if b = a ∧ j = k then v else gI M b j := by
  simp only [gI, sI]
  by_cases h : b = a
  · subst h
    by_cases h2 : j = k
    · simp [upd, h2]
    · simp [upd, h2]
  · simp [h]
theorem gI_eq (M : MM) (a k : Nat) (v : Int32) : gI (sI M a k v) a k = v := by simp [gI_sI]
theorem gI_ne (M : MM) (a k b j : Nat) (v : Int32) (h : b ≠ a) : gI (sI M a k v) b j = gI M b j := by simp [gI_sI, h]
theorem gI_nk (M : MM) (a k b j : Nat) (v : Int32) (h : j ≠ k) : gI (sI M a k v) b j = gI M b j := by simp [gI_sI, h]
theorem gI_sL (M : MM) (a k b j : Nat) (v : Int64) : gI (sL M a k v) b j = gI M b j := rfl
theorem gL_sI (M : MM) (a k b j : Nat) (v : Int32) : gL (sI M a k v) b j = gL M b j := rfl
theorem gL_sL (M : MM) (a k b j : Nat) (v : Int64) : gL (sL M a k v) b j = if b = a ∧ j = k then v else gL M b j := by
  simp only [gL, sL]
  by_cases h : b = a
  · subst h
    by_cases h2 : j = k
    · simp [vp_updL, h2]
    · simp [vp_updL, h2]
  · simp [h]
theorem gI_cp (M : MM) (a d sp dp n b j : Nat) : gI (cpI M a d sp dp n) b j = if b = d ∧ dp ≤ j ∧ j < dp + n then gI M a (sp + (j - dp)) else gI M b j := by
  simp only [gI, cpI]
  by_cases h : b = d
  · subst h
    simp only [if_true, va_cpy, true_and]
  · simp [h]
theorem gL_cp (M : MM) (a d sp dp n b j : Nat) : gL (cpI M a d sp dp n) b j = gL M b j := rfl
theorem gI_fl (M : MM) (a n b j : Nat) (v : Int32) : gI (flI M a n v) b j = if b = a ∧ j < n then v else gI M b j := by
  simp only [gI, flI]
  by_cases h : b = a
  · subst h
    by_cases h2 : j < n
    · simp [h2]
    · simp [h2]
  · simp [h]
theorem gL_fl (M : MM) (a n b j : Nat) (v : Int32) : gL (flI M a n v) b j = gL M b j := rfl
theorem Fr.gi {P : List Nat} {M M2 : MM} (h : Fr P M M2) {c : Nat} (hc : c ∉ P) (k : Nat) : gI M2 c k = gI M c k := by
  show M2.1 c k = M.1 c k
  rw [(h c hc).1]
theorem Fr.gl {P : List Nat} {M M2 : MM} (h : Fr P M M2) {c : Nat} (hc : c ∉ P) (k : Nat) : gL M2 c k = gL M c k := by
  show M2.2 c k = M.2 c k
  rw [(h c hc).2]
theorem gd_t {α : Type} {b : Bool} {x : Option α} (h : b = true) : gd b x = x := by simp [gd, h]
theorem bd_s {α β : Type} (a : α) (f : α → Option β) : (some a).bind f = f a := rfl
theorem bnd_r {α β : Type} (v : α) (f : α → β) : bnd v f = f v := rfl
theorem inb_nI {j n : Nat} (h : j < n) (hn : n < 2 ^ 31) : inb (nI j) n = true := decide_eq_true (vp_in_nI h hn)
theorem ix_nI {j : Nat} (h : j < 2 ^ 31) : ix (nI j) = j := nI_clamp h
theorem isb_0 : isb 0 = true := by decide
theorem isb_1 : isb 1 = true := by decide
theorem lit_nI (n : Nat) : (OfNat.ofNat n : Int32) = nI n := rfl
/-- isIn of numbers -/
theorem isIn_t {x a b : Int32} (h1 : ¬ x < a) (h2 : ¬ b < x) : fX12_isIn x a b = 1 := by unfold fX12_isIn; rw [if_neg h1, if_neg h2]
theorem isIn_f {x a b : Int32} (h : x < a ∨ b < x) : fX12_isIn x a b = 0 := by
  unfold fX12_isIn
  by_cases h1 : x < a
  · rw [if_pos h1]
  · rw [if_neg h1, if_pos (h.resolve_left h1)]
theorem isIn_b (x a b : Int32) : isb (fX12_isIn x a b) = true := by
  unfold fX12_isIn
  by_cases h1 : x < a
  · rw [if_pos h1]; decide
  · rw [if_neg h1]
    by_cases h2 : b < x
    · rw [if_pos h2]; decide
    · rw [if_neg h2]; decide
/-- an int is below 0, at least n, or a number below n -/
theorem cases3 (x : Int32) (n : Nat) (hn : n < 2 ^ 31) : x < 0 ∨ nI n ≤ x ∨ ∃ j : Nat, j < n ∧ x = nI j := pk_ix x hn
/-! ===== evaluation by rewriting ===== -/
theorem gd_inb {α : Type} {j n : Nat} {x : Option α} (h : j < n) (hn : n < 2 ^ 31) : gd (inb (nI j) n) x = x := gd_t (inb_nI h hn)
theorem le_t {a b : Nat} {α : Type} {x y : α} (h : a ≤ b) (hb : b < 2 ^ 31) : (if nI a ≤ nI b then x else y) = x := if_pos (nI_le h hb)
theorem le_f {a b : Nat} {α : Type} {x y : α} (h : b < a) (hb : a < 2 ^ 31) : (if nI a ≤ nI b then x else y) = y := if_neg (nI_ge h hb)
theorem lt_t {a b : Nat} {α : Type} {x y : α} (h : a < b) (hb : b < 2 ^ 31) : (if nI a < nI b then x else y) = x := if_pos (nI_lt h hb)
theorem lt_f {a b : Nat} {α : Type} {x y : α} (h : b ≤ a) (hb : a < 2 ^ 31) : (if nI a < nI b then x else y) = y := if_neg (nI_nlt h hb)
theorem eqn_t {a b : Nat} {α : Type} {x y : α} (h : a = b) : (if nI a = nI b then x else y) = x := if_pos (by rw [h])
theorem eqn_f {a b : Nat} {α : Type} {x y : α} (h : a ≠ b) (ha : a < 2 ^ 31) (hb : b < 2 ^ 31) : (if nI a = nI b then x else y) = y := if_neg (fun q => h ((nI_eq ha hb).mp q))
theorem nl0 : (0 : Int32) = nI 0 := rfl
theorem nl1 : (1 : Int32) = nI 1 := rfl
theorem nl2 : (2 : Int32) = nI 2 := rfl
theorem nl3 : (3 : Int32) = nI 3 := rfl
theorem nl4 : (4 : Int32) = nI 4 := rfl
theorem nl5 : (5 : Int32) = nI 5 := rfl
theorem nl7 : (7 : Int32) = nI 7 := rfl
theorem nl8 : (8 : Int32) = nI 8 := rfl
theorem nl10 : (10 : Int32) = nI 10 := rfl
theorem nl20 : (20 : Int32) = nI 20 := rfl
theorem nl64 : (64 : Int32) = nI 64 := rfl
theorem nl68 : (68 : Int32) = nI 68 := rfl
theorem nl84 : (84 : Int32) = nI 84 := rfl
theorem nl99 : (99 : Int32) = nI 99 := rfl
theorem nl6 : (6 : Int32) = nI 6 := rfl
theorem nl9 : (9 : Int32) = nI 9 := rfl
theorem nl17 : (17 : Int32) = nI 17 := rfl
theorem nl18 : (18 : Int32) = nI 18 := rfl
theorem eqz_t {a : Nat} {α : Type} {x y : α} (h : a = 0) : (if nI a = 0 then x else y) = x := if_pos (by rw [h]; rfl)
theorem eqz_f {a : Nat} {α : Type} {x y : α} (h : 0 < a) (ha : a < 2 ^ 31) : (if nI a = 0 then x else y) = y := if_neg (nI_ne0 h ha)
theorem i10 : ¬ (1 : Int32) = 0 := by decide
/-! ===== what is told, abstractly ===== -/
/-- wide, high, people, shines, walls (by 8y+x), people's places (8y+x), names, shines (kind, place, face, size, party) -/
abbrev PARD : Type := Nat × Nat × Nat × Nat × (Nat → Bool) × (Nat → Nat) × (Nat → Nat) × (Nat → Nat → Nat)
abbrev pW (P : PARD) : Nat := P.1
abbrev pH (P : PARD) : Nat := P.2.1
abbrev pN (P : PARD) : Nat := P.2.2.1
abbrev pS (P : PARD) : Nat := P.2.2.2.1
abbrev pWa (P : PARD) : Nat → Bool := P.2.2.2.2.1
abbrev pAt (P : PARD) : Nat → Nat := P.2.2.2.2.2.1
abbrev pNm (P : PARD) : Nat → Nat := P.2.2.2.2.2.2.1
abbrev pSh (P : PARD) : Nat → Nat → Nat := P.2.2.2.2.2.2.2
/-- how many of each sort; the tape's length; fault, place; the tape; parishes; laws (six numbers); evenings; sights (slips, counts and 1) -/
abbrev TOLD : Type := (Nat → Nat) × Nat × Int32 × Int32 × (Nat → Nat) × (Nat → PARD) × (Nat → Nat → Nat) × (Nat → Nat × (Nat → Nat → Int32)) × (Nat → Nat → Nat)
abbrev tNum (T : TOLD) : Nat → Nat := T.1
abbrev tLen (T : TOLD) : Nat := T.2.1
abbrev tFlt (T : TOLD) : Int32 := T.2.2.1
abbrev tPlc (T : TOLD) : Int32 := T.2.2.2.1
abbrev tTap (T : TOLD) : Nat → Nat := T.2.2.2.2.1
abbrev tPar (T : TOLD) : Nat → PARD := T.2.2.2.2.2.1
abbrev tLaw (T : TOLD) : Nat → Nat → Nat := T.2.2.2.2.2.2.1
abbrev tEve (T : TOLD) : Nat → Nat × (Nat → Nat → Int32) := T.2.2.2.2.2.2.2.1
abbrev tSig (T : TOLD) : Nat → Nat → Nat := T.2.2.2.2.2.2.2.2
/-- the first number below n with p -/
def fstN (p : Nat → Bool) : Nat → Option Nat
  | 0 => none
  | n + 1 => match fstN p n with
    | some k => some k
    | none => if p n then some n else none
/-- a scene: wide, high, people, shines, walls, where people are (or are not), names, shines, stirred, not yet laid -/
abbrev SCN : Type := Nat × Nat × Nat × Nat × (Nat → Bool) × (Nat → Option Nat) × (Nat → Nat) × (Nat → Nat → Nat) × (Nat → Bool) × (Nat → Bool)
abbrev cW (S : SCN) : Nat := S.1
abbrev cH (S : SCN) : Nat := S.2.1
abbrev cN (S : SCN) : Nat := S.2.2.1
abbrev cS (S : SCN) : Nat := S.2.2.2.1
abbrev cWa (S : SCN) : Nat → Bool := S.2.2.2.2.1
abbrev cAt (S : SCN) : Nat → Option Nat := S.2.2.2.2.2.1
abbrev cNm (S : SCN) : Nat → Nat := S.2.2.2.2.2.2.1
abbrev cSh (S : SCN) : Nat → Nat → Nat := S.2.2.2.2.2.2.2.1
abbrev cSt (S : SCN) : Nat → Bool := S.2.2.2.2.2.2.2.2.1
abbrev cHd (S : SCN) : Nat → Bool := S.2.2.2.2.2.2.2.2.2
/-- what is on a place -/
def onS (S : SCN) (q : Nat) : Nat := match fstN (fun k => cAt S k == some q) (cN S) with
  | some k => 10 + k
  | none => match fstN (fun k => cSh S k 1 == q && !cHd S k) (cS S) with
    | some k => 20 + k
    | none => if cWa S q then 1 else 0
def scnOf (P : PARD) : SCN := (pW P, pH P, pN P, pS P, pWa P, fun k => some (pAt P k), pNm P, pSh P, fun _ => false, fun _ => false)
/-- a place by 8y+x as the class's square, and back -/
def sqC (w q : Nat) : Nat := w * (q / 8) + q % 8
def sq8 (w c : Nat) : Nat := 8 * (c / w) + c % w
/-- a place inside -/
def inP (w h q : Nat) : Prop := q % 8 < w ∧ q / 8 < h
def PW (P : PARD) : Prop := (2 ≤ pW P ∧ pW P ≤ 8) ∧ (2 ≤ pH P ∧ pH P ≤ 8) ∧ pN P ≤ 8 ∧ pS P ≤ 8 ∧
  (∀ q, pWa P q = true → inP (pW P) (pH P) q) ∧ (∀ k, k < pN P → inP (pW P) (pH P) (pAt P k) ∧ pNm P k < 10) ∧
  (∀ k, k < pS P → pSh P k 0 < 4 ∧ inP (pW P) (pH P) (pSh P k 1) ∧ pSh P k 2 < 8 ∧ (1 ≤ pSh P k 3 ∧ pSh P k 3 ≤ 9) ∧ pSh P k 4 < 4) ∧
  (∀ i j, i < pN P → j < pN P → pAt P i = pAt P j → i = j) ∧ (∀ i j, i < pS P → j < pS P → pSh P i 1 = pSh P j 1 → i = j) ∧
  (∀ i j, i < pN P → j < pS P → pAt P i ≠ pSh P j 1) ∧ (∀ i, i < pN P → pWa P (pAt P i) = false) ∧ (∀ j, j < pS P → pWa P (pSh P j 1) = false)
/-- a parish of the class at cell a -/
def CP (M : MM) (a : Nat) (P : PARD) : Prop := gI M a 0 = nI (pW P) ∧ gI M a 1 = nI (pH P) ∧ gI M a 2 = nI (pN P) ∧ gI M a 3 = nI (pS P) ∧
  (∀ k, k < pN P → gI M (a + 1) k = nI (sqC (pW P) (pAt P k)) ∧ gI M (a + 2) k = nI (pNm P k)) ∧
  (∀ k, k < pS P → gI M (a + 3) k = nI (pSh P k 0) ∧ gI M (a + 4) k = nI (sqC (pW P) (pSh P k 1)) ∧ gI M (a + 5) k = nI (pSh P k 2) ∧ gI M (a + 6) k = nI (pSh P k 3) ∧ gI M (a + 7) k = nI (pSh P k 4)) ∧
  (∀ c, c < pW P * pH P → gI M (a + 8) c = nI (onS (scnOf P) (sq8 (pW P) c))) ∧ (∀ k, k < 8 → ∃ f : Nat, f < 8 ∧ gI M (a + 5) k = nI f)
/-- a parish of the reference from place o on -/
def MP (M : MM) (o : Nat) (P : PARD) : Prop := gI M 91 o = nI (pW P) ∧ gI M 91 (o + 1) = nI (pH P) ∧ gI M 91 (o + 2) = nI (pN P) ∧ gI M 91 (o + 3) = nI (pS P) ∧
  (∀ q, q < 64 → gI M 91 (o + 4 + q) = if pWa P q then 1 else 0) ∧ (∀ k, k < pN P → gI M 91 (o + 68 + 2 * k) = nI (pAt P k) ∧ gI M 91 (o + 68 + 2 * k + 1) = nI (pNm P k)) ∧
  (∀ k, k < pS P → ∀ j, j < 5 → gI M 91 (o + 84 + 5 * k + j) = nI (pSh P k j))
def TW (T : TOLD) : Prop := (∀ s, s < 4 → tNum T s ≤ 2) ∧ tLen T ≤ 600 ∧ (∀ i, i < 600 → tTap T i < 256) ∧ (∀ k, k < tNum T 0 → PW (tPar T k)) ∧
  (∀ k, k < tNum T 1 → tLaw T k 0 ≤ 9 ∧ tLaw T k 1 ≤ 1 ∧ tLaw T k 2 < 16 ∧ (1 ≤ tLaw T k 3 ∧ tLaw T k 3 ≤ 20) ∧ tLaw T k 4 ≤ 2 ∧ tLaw T k 5 ≤ 9) ∧
  (∀ k, k < tNum T 2 → (tEve T k).1 ≤ 40 ∧ ∀ i, i < (tEve T k).1 → (∃ j : Nat, j < 5 ∧ (tEve T k).2 i 0 = nI j) ∧ (∀ c, c = 1 ∨ c = 2 → (tEve T k).2 i c = -1 ∨ ∃ j : Nat, j < 8 ∧ (tEve T k).2 i c = nI j) ∧ ((tEve T k).2 i 0 = 0 ∨ (tEve T k).2 i 0 = 1 → ∃ j : Nat, j < 8 ∧ (tEve T k).2 i 2 = nI j)) ∧
  (∀ k, k < tNum T 3 → tSig T k 0 ≤ 9 ∧ ∀ i, i < 8 → tSig T k (1 + i) ≤ 10)
/-- the told block of the class at cell t -/
def CT (M : MM) (t : Nat) (T : TOLD) : Prop := (∀ s, s < 4 → gI M (t + 1) s = nI (tNum T s)) ∧ gI M t 6 = nI (tLen T) ∧ gI M t 7 = tFlt T ∧ gI M t 8 = tPlc T ∧
  (∀ i, i < 600 → gI M (t + 38) i = (nI (tTap T i)).toInt8.toInt32) ∧ (∀ k, k < tNum T 0 → CP M (t + (6 + 16 * k)) (tPar T k)) ∧
  (∀ k, k < tNum T 1 → ∀ j, j < 6 → gI M (t + (15 + 16 * k)) j = nI (tLaw T k j)) ∧
  (∀ k, k < tNum T 2 → gI M (t + (16 + 16 * k)) 0 = nI (tEve T k).1 ∧ ∀ i, i < (tEve T k).1 → ∀ j, j < 3 → gI M (t + (16 + 16 * k) + (1 + j)) i = (tEve T k).2 i j) ∧
  (∀ k, k < tNum T 3 → gI M (t + (20 + 16 * k)) 0 = nI (tSig T k 0) ∧ ∀ i, i < 8 → gI M (t + (20 + 16 * k) + 1) i = nI (tSig T k (1 + i)) - 1) ∧ ∀ k, k < 2 → isb (gI M (t + (15 + 16 * k)) 1) = true
/-- the same of the reference, from place o on -/
def MT (M : MM) (o : Nat) (T : TOLD) : Prop := (∀ s, s < 4 → gI M 91 (o + s) = nI (tNum T s)) ∧ gI M 91 (o + 4) = nI (tLen T) ∧ gI M 91 (o + 5) = tFlt T ∧ gI M 91 (o + 6) = tPlc T ∧
  (∀ i, i < 600 → gI M 91 (o + 10 + i) = nI (tTap T i)) ∧ (∀ k, k < tNum T 0 → MP M (o + 610 + 124 * k) (tPar T k)) ∧
  (∀ k, k < tNum T 1 → ∀ j, j < 6 → gI M 91 (o + 858 + 6 * k + j) = nI (tLaw T k j)) ∧
  (∀ k, k < tNum T 2 → gI M 91 (o + 870 + 121 * k) = nI (tEve T k).1 ∧ ∀ i, i < (tEve T k).1 → ∀ j, j < 3 → gI M 91 (o + 870 + 121 * k + 1 + 3 * i + j) = (tEve T k).2 i j) ∧
  (∀ k, k < tNum T 3 → ∀ i, i < 9 → gI M 91 (o + 1112 + 9 * k + i) = nI (tSig T k i))
def dX (d : Nat) : Int := if d = 1 ∨ d = 2 ∨ d = 3 then 1 else if d = 5 ∨ d = 6 ∨ d = 7 then -1 else 0
def dY (d : Nat) : Int := if d = 3 ∨ d = 4 ∨ d = 5 then 1 else if d = 7 ∨ d = 0 ∨ d = 1 then -1 else 0
/-- the step from a place: by 8y+x, within w and h, or none -/
def stepP (w h q d : Nat) : Option Nat :=
  if 0 ≤ ((q % 8 : Nat) : Int) + dX d ∧ ((q % 8 : Nat) : Int) + dX d < w ∧ 0 ≤ ((q / 8 : Nat) : Int) + dY d ∧ ((q / 8 : Nat) : Int) + dY d < h then some (8 * (((q / 8 : Nat) : Int) + dY d).toNat + (((q % 8 : Nat) : Int) + dX d).toNat) else none
/-- the board's table of steps is true to its width and height (if it has any) -/
def BN (M : MM) : Prop := (gI M 60 5 = 0 ∧ gI M 60 6 = 0) ∨ ∃ w h : Nat, (2 ≤ w ∧ w ≤ 8) ∧ (2 ≤ h ∧ h ≤ 8) ∧ gI M 60 5 = nI w ∧ gI M 60 6 = nI h ∧
  ∀ d, d < 8 → ∀ q, inP w h q → gI M 73 (64 * d + sqC w q) = match stepP w h q d with
    | some q2 => nI (sqC w q2)
    | none => -1
/-- the images: has, the block, what is told there -/
def IM (K : SK) (M : MM) (I : Nat → Option TOLD) : Prop := ∀ j, j < 3 → match I j with
  | none => gI M 92 j = 0 ∧ K.2.2 40 j = none
  | some U => gI M 92 j = 1 ∧ TW U ∧ MT M (1130 * (j + 1)) U ∧ ∃ a, K.2.2 40 j = some a ∧ 115 ≤ a ∧ a + 39 ≤ K.1 ∧ CT M a U ∧ ∀ i b, i < 3 → i ≠ j → K.2.2 40 i = some b → a + 39 ≤ b ∨ b + 39 ≤ a
/-- faces in the reader's draft -/
def RD (M : MM) : Prop := ∀ k, k < 8 → ∃ f : Nat, f < 8 ∧ gI M 47 k = nI f
def Inv (K : SK) (M : MM) : Prop := (KI K ∧ RD M) ∧ ∃ (T : TOLD) (I : Nat → Option TOLD), TW T ∧ CT M 1 T ∧ MT M 0 T ∧ BN M ∧ IM K M I
theorem Inv_KI : ∀ K M, Inv K M → KI K := fun _ _ h => h.1.1
theorem RD_congr {M M2 : MM} (h : RD M) (he : M2.1 47 = M.1 47) : RD M2 := fun k hk => by rw [show gI M2 47 k = gI M 47 k from congrFun he k]; exact h k hk
/-! ===== which of a sort ===== -/
theorem lt0_toInt {x : Int32} : x < 0 ↔ x.toInt < 0 := by rw [Int32.lt_iff_toInt_lt]; rfl
theorem le_toInt {x : Int32} {n : Nat} (hn : n < 2 ^ 31) : nI n ≤ x ↔ (n : Int) ≤ x.toInt := by rw [Int32.le_iff_toInt_le, nI_toInt hn]
theorem lt_toInt {x : Int32} {n : Nat} (hn : n < 2 ^ 31) : x < nI n ↔ x.toInt < n := by rw [Int32.lt_iff_toInt_lt, nI_toInt hn]
theorem gt_toInt {x : Int32} {n : Nat} (hn : n < 2 ^ 31) : nI n < x ↔ (n : Int) < x.toInt := by rw [Int32.lt_iff_toInt_lt, nI_toInt hn]
theorem eq_toInt {x : Int32} {n : Nat} (hn : n < 2 ^ 31) : x = nI n ↔ x.toInt = n := ⟨fun h => by rw [h, nI_toInt hn], fun h => Int32.toInt_inj.mp (by rw [h, nI_toInt hn])⟩
theorem num_lt {T : TOLD} (hW : TW T) {s : Nat} (hs : s < 4) : tNum T s ≤ 2 := hW.1 s hs
theorem has_no {M : MM} {T : TOLD} (hC : CT M 1 T) {s : Nat} (hs : s < 4) {x : Int32} (hW : TW T) (hx : x < 0 ∨ nI (tNum T s) ≤ x) : fX9_has M (nI s) x = some 0 := by
  unfold fX9_has
  have h2 := num_lt hW hs
  by_cases h0 : x < 0
  · rw [if_pos h0]
  · rw [if_neg h0, gd_t (inb_nI hs (by decide)), ix_nI (by omega), show gI M 2 s = nI (tNum T s) from hC.1 s hs, if_pos (hx.resolve_left h0)]
theorem has_yes {M : MM} {T : TOLD} (hC : CT M 1 T) {s j : Nat} (hs : s < 4) (hW : TW T) (hj : j < tNum T s) : fX9_has M (nI s) (nI j) = some 1 := by
  unfold fX9_has
  have h2 := num_lt hW hs
  rw [if_neg (nI_pos (by omega)), gd_t (inb_nI hs (by decide)), ix_nI (by omega), show gI M 2 s = nI (tNum T s) from hC.1 s hs, if_neg (nI_ge hj (by omega)), nl2, le_f (by omega) (by decide)]
theorem num_cases {T : TOLD} (hW : TW T) {s : Nat} (hs : s < 4) (x : Int32) : (x < 0 ∨ nI (tNum T s) ≤ x) ∨ ∃ j, j < tNum T s ∧ j < 2 ∧ x = nI j := by
  have h2 := num_lt hW hs
  rcases cases3 x (tNum T s) (by omega) with h | h | ⟨j, hj, e⟩
  · exact Or.inl (Or.inl h)
  · exact Or.inl (Or.inr h)
  · exact Or.inr ⟨j, hj, by omega, e⟩
theorem parishAt_no {M : MM} {T : TOLD} (hC : CT M 1 T) (hW : TW T) {x : Int32} (hx : x < 0 ∨ nI (tNum T 0) ≤ x) : fX9_parishAt M x = some none := by
  unfold fX9_parishAt; rw [show fX9_has M 0 x = some 0 from has_no hC (s := 0) (by decide) hW hx]; rfl
theorem parishAt_yes {M : MM} {T : TOLD} (hC : CT M 1 T) (hW : TW T) {j : Nat} (hj : j < tNum T 0) : fX9_parishAt M (nI j) = some (some (1 + (6 + 16 * j))) := by
  have h2 := num_lt hW (s := 0) (by decide)
  unfold fX9_parishAt; rw [show fX9_has M 0 (nI j) = some 1 from has_yes hC (s := 0) (by decide) hW hj, bd_s, if_neg (by decide), gd_t (inb_nI (by omega) (by decide)), ix_nI (by omega)]
theorem lawAt_no {M : MM} {T : TOLD} (hC : CT M 1 T) (hW : TW T) {x : Int32} (hx : x < 0 ∨ nI (tNum T 1) ≤ x) : fX9_lawAt M x = some none := by
  unfold fX9_lawAt; rw [show fX9_has M 1 x = some 0 from has_no hC (s := 1) (by decide) hW hx]; rfl
theorem lawAt_yes {M : MM} {T : TOLD} (hC : CT M 1 T) (hW : TW T) {j : Nat} (hj : j < tNum T 1) : fX9_lawAt M (nI j) = some (some (1 + (15 + 16 * j))) := by
  have h2 := num_lt hW (s := 1) (by decide)
  unfold fX9_lawAt; rw [show fX9_has M 1 (nI j) = some 1 from has_yes hC (s := 1) (by decide) hW hj, bd_s, if_neg (by decide), gd_t (inb_nI (by omega) (by decide)), ix_nI (by omega)]
theorem eveningAt_no {M : MM} {T : TOLD} (hC : CT M 1 T) (hW : TW T) {x : Int32} (hx : x < 0 ∨ nI (tNum T 2) ≤ x) : fX9_eveningAt M x = some none := by
  unfold fX9_eveningAt; rw [show fX9_has M 2 x = some 0 from has_no hC (s := 2) (by decide) hW hx]; rfl
theorem eveningAt_yes {M : MM} {T : TOLD} (hC : CT M 1 T) (hW : TW T) {j : Nat} (hj : j < tNum T 2) : fX9_eveningAt M (nI j) = some (some (1 + (16 + 16 * j))) := by
  have h2 := num_lt hW (s := 2) (by decide)
  unfold fX9_eveningAt; rw [show fX9_has M 2 (nI j) = some 1 from has_yes hC (s := 2) (by decide) hW hj, bd_s, if_neg (by decide), gd_t (inb_nI (by omega) (by decide)), ix_nI (by omega)]
theorem sightAt_no {M : MM} {T : TOLD} (hC : CT M 1 T) (hW : TW T) {x : Int32} (hx : x < 0 ∨ nI (tNum T 3) ≤ x) : fX9_sightAt M x = some none := by
  unfold fX9_sightAt; rw [show fX9_has M 3 x = some 0 from has_no hC (s := 3) (by decide) hW hx]; rfl
theorem sightAt_yes {M : MM} {T : TOLD} (hC : CT M 1 T) (hW : TW T) {j : Nat} (hj : j < tNum T 3) : fX9_sightAt M (nI j) = some (some (1 + (20 + 16 * j))) := by
  have h2 := num_lt hW (s := 3) (by decide)
  unfold fX9_sightAt; rw [show fX9_has M 3 (nI j) = some 1 from has_yes hC (s := 3) (by decide) hW hj, bd_s, if_neg (by decide), gd_t (inb_nI (by omega) (by decide)), ix_nI (by omega)]
theorem isOf_no {M : MM} {T : TOLD} (hM : MT M 0 T) (hW : TW T) {s : Nat} (hs : s < 4) {x : Int32} (hx : x < 0 ∨ nI (tNum T s) ≤ x) : fX12_isOf M (nI s) x = some 0 := by
  have h2 := num_lt hW hs
  have e1 := hM.1 s hs
  rw [Nat.zero_add] at e1
  unfold fX12_isOf
  rw [gd_t (inb_nI (by omega) (by decide)), gd_t (isIn_b _ _ _), ix_nI (by omega), e1, isIn_f]
  rcases hx with h | h
  · exact Or.inl h
  · refine Or.inr ?_
    rw [le_toInt (by omega)] at h
    rw [Int32.lt_iff_toInt_lt, show (1 : Int32) = nI 1 from rfl, pk_sub_toInt (by omega) (by decide)]
    omega
theorem isOf_yes {M : MM} {T : TOLD} (hM : MT M 0 T) (hW : TW T) {s j : Nat} (hs : s < 4) (hj : j < tNum T s) : fX12_isOf M (nI s) (nI j) = some 1 := by
  have h2 := num_lt hW hs
  have e1 := hM.1 s hs
  rw [Nat.zero_add] at e1
  unfold fX12_isOf
  rw [gd_t (inb_nI (by omega) (by decide)), gd_t (isIn_b _ _ _), ix_nI (by omega), e1, isIn_t]
  · exact nI_pos (by omega)
  · rw [Int32.lt_iff_toInt_lt, show (1 : Int32) = nI 1 from rfl, pk_sub_toInt (by omega) (by decide), nI_toInt (by omega)]
    omega
/-! ===== what only asks ===== -/
theorem e3 : E3 Inv := by
  intro K M x1 hI
  obtain ⟨hK, T, I, hW, hC, hM, hB, hIm⟩ := id hI
  refine ⟨_, rfl, ?_, hI⟩
  have h5 : gI M 91 (ix 5) = gI M 1 7 := by rw [hC.2.2.1]; exact hM.2.2.1
  have h6 : gI M 91 (ix 6) = gI M 1 8 := by rw [hC.2.2.2.1]; exact hM.2.2.2.1
  unfold fX12_fault fX11_fault
  rw [h5, h6]
theorem e31 : E31 Inv := by
  intro K M x1 hI
  obtain ⟨hK, T, I, hW, hC, hM, hB, hIm⟩ := id hI
  unfold fX11_count fX12_count
  rcases cases3 x1 4 (by decide) with h | h | ⟨j, hj, rfl⟩
  · exact ⟨-2, by rw [if_pos h], by rw [isIn_f (Or.inl h)]; rfl, hI⟩
  · have h9 := (le_toInt (by decide)).mp h
    have h0 : ¬ x1 < 0 := fun q => by have := lt0_toInt.mp q; omega
    have h4 : ¬ x1 < nI 4 := fun q => by have := (lt_toInt (by decide)).mp q; omega
    have h3 : nI 3 < x1 := (gt_toInt (by decide)).mpr (by omega)
    exact ⟨-2, by rw [if_neg h0, nl4, if_neg h4], by rw [nl3, isIn_f (Or.inr h3)]; rfl, hI⟩
  · have h0 : ¬ nI j < 0 := nI_pos (by omega)
    have h4 : nI j < nI 4 := nI_lt hj (by decide)
    have h3 : ¬ nI 3 < nI j := nI_nlt (by omega) (by omega)
    refine ⟨gI M 2 j, ?_, ?_, hI⟩
    · rw [if_neg h0, nl4, if_pos h4, gd_t (inb_nI hj (by decide)), ix_nI (by omega)]
    · rw [nl3, isIn_t h0 h3, if_neg (by decide), gd_t (inb_nI (by omega) (by decide)), ix_nI (by omega)]
      have e1 := hM.1 j hj
      have e2 : gI M 2 j = nI (tNum T j) := hC.1 j hj
      rw [Nat.zero_add] at e1
      rw [e1, e2]
/-! ===== what does not change the told things ===== -/
theorem gI_of {M M2 : MM} {c : Nat} (h : M2.1 c = M.1 c) (k : Nat) : gI M2 c k = gI M c k := congrFun h k
theorem sI_ne {M : MM} {a c k : Nat} {v : Int32} (h : c ≠ a) : (sI M a k v).1 c = M.1 c := by simp only [sI, h, if_false]
theorem CP_congr {M M2 : MM} {a : Nat} {P : PARD} (h : CP M a P) (he : ∀ c, a ≤ c → c ≤ a + 8 → M2.1 c = M.1 c) : CP M2 a P := by
  obtain ⟨h1, h2, h3, h4, h5, h6, h7⟩ := h
  have g : ∀ j k, j ≤ 8 → gI M2 (a + j) k = gI M (a + j) k := fun j k hj => gI_of (he (a + j) (by omega) (by omega)) k
  have g0 : ∀ k, gI M2 a k = gI M a k := fun k => g 0 k (by omega)
  refine ⟨by rw [g0]; exact h1, by rw [g0]; exact h2, by rw [g0]; exact h3, by rw [g0]; exact h4, fun k hk => ?_, fun k hk => ?_, fun c hc => ?_, fun k hk => ?_⟩
  · rw [g 1 k (by omega), g 2 k (by omega)]; exact h5 k hk
  · rw [g 3 k (by omega), g 4 k (by omega), g 5 k (by omega), g 6 k (by omega), g 7 k (by omega)]; exact h6 k hk
  · rw [g 8 c (by omega)]; exact h7.1 c hc
  · rw [g 5 k (by omega)]; exact h7.2 k hk
/-- the block's own cell may differ: what is given of it -/
theorem CT_head {M M2 : MM} {t : Nat} {T : TOLD} (hW : TW T) (h : CT M t T) {n : Nat} {f q : Int32} (he : ∀ c, t < c → c ≤ t + 38 → M2.1 c = M.1 c) (h6 : gI M2 t 6 = nI n) (h7 : gI M2 t 7 = f) (h8 : gI M2 t 8 = q) : CT M2 t (T.1, n, f, q, T.2.2.2.2) := by
  obtain ⟨a1, a2, a3, a4, a5, a6, a7, a8, a9, a10⟩ := h
  have n0 := hW.1 0 (by decide)
  have n1 := hW.1 1 (by decide)
  have n2 := hW.1 2 (by decide)
  have n3 := hW.1 3 (by decide)
  have g : ∀ j k, 0 < j → j ≤ 38 → gI M2 (t + j) k = gI M (t + j) k := fun j k h0 hj => gI_of (he (t + j) (by omega) (by omega)) k
  refine ⟨fun s hs => by rw [g 1 s (by omega) (by omega)]; exact a1 s hs, h6, h7, h8, fun i hi => by rw [g 38 i (by omega) (by omega)]; exact a5 i hi, fun k hk => ?_, fun k hk j hj => ?_, fun k hk => ⟨?_, fun i hi j hj => ?_⟩, fun k hk => ⟨?_, fun i hi => ?_⟩, fun k hk => by rw [g (15 + 16 * k) 1 (by omega) (by omega)]; exact a10 k hk⟩
  · have hk : k < tNum T 0 := hk
    exact CP_congr (a6 k hk) (fun c h1 h2 => he c (by omega) (by omega))
  · have hk : k < tNum T 1 := hk
    rw [g (15 + 16 * k) j (by omega) (by omega)]; exact a7 k hk j hj
  · have hk : k < tNum T 2 := hk
    rw [g (16 + 16 * k) 0 (by omega) (by omega)]; exact (a8 k hk).1
  · have hk : k < tNum T 2 := hk
    rw [Nat.add_assoc, g (16 + 16 * k + (1 + j)) i (by omega) (by omega), ← Nat.add_assoc]; exact (a8 k hk).2 i hi j hj
  · have hk : k < tNum T 3 := hk
    rw [g (20 + 16 * k) 0 (by omega) (by omega)]; exact (a9 k hk).1
  · have hk : k < tNum T 3 := hk
    rw [Nat.add_assoc, g (20 + 16 * k + 1) i (by omega) (by omega), ← Nat.add_assoc]; exact (a9 k hk).2 i hi
theorem CT_congr {M M2 : MM} {t : Nat} {T : TOLD} (hW : TW T) (h : CT M t T) (he : ∀ c, t ≤ c → c ≤ t + 38 → M2.1 c = M.1 c) : CT M2 t T := by
  have g : ∀ k, gI M2 t k = gI M t k := gI_of (he t (Nat.le_refl _) (by omega))
  exact CT_head hW h (fun c h1 h2 => he c (by omega) h2) (by rw [g]; exact h.2.1) (by rw [g]; exact h.2.2.1) (by rw [g]; exact h.2.2.2.1)
theorem MP_congr {M M2 : MM} {o : Nat} {P : PARD} (hP : PW P) (h : MP M o P) (he : ∀ i, i < 124 → gI M2 91 (o + i) = gI M 91 (o + i)) : MP M2 o P := by
  obtain ⟨h1, h2, h3, h4, h5, h6, h7⟩ := h
  have p3 := hP.2.2.1
  have p4 := hP.2.2.2.1
  refine ⟨by have := he 0 (by omega); rw [Nat.add_zero] at this; rw [this]; exact h1, by rw [he 1 (by omega)]; exact h2, by rw [he 2 (by omega)]; exact h3, by rw [he 3 (by omega)]; exact h4, fun q hq => ?_, fun k hk => ⟨?_, ?_⟩, fun k hk j hj => ?_⟩
  · have := he (4 + q) (by omega)
    rw [← Nat.add_assoc] at this
    rw [this]; exact h5 q hq
  · have := he (68 + 2 * k) (by omega)
    rw [← Nat.add_assoc] at this
    rw [this]; exact (h6 k hk).1
  · have := he (68 + 2 * k + 1) (by omega)
    rw [← Nat.add_assoc, ← Nat.add_assoc] at this
    rw [this]; exact (h6 k hk).2
  · have := he (84 + 5 * k + j) (by omega)
    rw [← Nat.add_assoc, ← Nat.add_assoc] at this
    rw [this]; exact h7 k hk j hj
/-- the head of the reference's block may differ: what is given of it -/
theorem MT_head {M M2 : MM} {o : Nat} {T : TOLD} (hW : TW T) (h : MT M o T) {n : Nat} {f q : Int32} (he : ∀ i, i < 1130 → i < 4 ∨ 7 ≤ i → gI M2 91 (o + i) = gI M 91 (o + i)) (h4 : gI M2 91 (o + 4) = nI n) (h5 : gI M2 91 (o + 5) = f) (h6 : gI M2 91 (o + 6) = q) : MT M2 o (T.1, n, f, q, T.2.2.2.2) := by
  obtain ⟨a1, a2, a3, a4, a5, a6, a7, a8, a9⟩ := h
  have n0 := hW.1 0 (by decide)
  have n1 := hW.1 1 (by decide)
  have n2 := hW.1 2 (by decide)
  have n3 := hW.1 3 (by decide)
  have g : ∀ x y : Nat, x = o + y → y < 1130 → y < 4 ∨ 7 ≤ y → gI M2 91 x = gI M 91 x := fun x y e h1 h2 => by rw [e]; exact he y h1 h2
  refine ⟨fun s hs => by rw [g _ s rfl (by omega) (by omega)]; exact a1 s hs, h4, h5, h6, fun i hi => by rw [g _ (10 + i) (by omega) (by omega) (by omega)]; exact a5 i hi, fun k hk => ?_, fun k hk j hj => ?_, fun k hk => ⟨?_, fun i hi j hj => ?_⟩, fun k hk i hi => ?_⟩
  · have hk : k < tNum T 0 := hk
    exact MP_congr (hW.2.2.2.1 k hk) (a6 k hk) (fun i hi => g _ (610 + 124 * k + i) (by omega) (by omega) (by omega))
  · have hk : k < tNum T 1 := hk
    rw [g _ (858 + 6 * k + j) (by omega) (by omega) (by omega)]; exact a7 k hk j hj
  · have hk : k < tNum T 2 := hk
    rw [g _ (870 + 121 * k) (by omega) (by omega) (by omega)]; exact (a8 k hk).1
  · have hk : k < tNum T 2 := hk
    have hi : i < (tEve T k).1 := hi
    have h40 := (hW.2.2.2.2.2.1 k hk).1
    rw [g _ (870 + 121 * k + 1 + 3 * i + j) (by omega) (by omega) (by omega)]; exact (a8 k hk).2 i hi j hj
  · have hk : k < tNum T 3 := hk
    rw [g _ (1112 + 9 * k + i) (by omega) (by omega) (by omega)]; exact a9 k hk i hi
theorem MT_congr {M M2 : MM} {o : Nat} {T : TOLD} (hW : TW T) (h : MT M o T) (he : ∀ i, i < 1130 → gI M2 91 (o + i) = gI M 91 (o + i)) : MT M2 o T :=
  MT_head hW h (fun i hi _ => he i hi) (by rw [he 4 (by omega)]; exact h.2.1) (by rw [he 5 (by omega)]; exact h.2.2.1) (by rw [he 6 (by omega)]; exact h.2.2.2.1)
theorem BN_congr {M M2 : MM} (h : BN M) (h1 : M2.1 60 = M.1 60) (h2 : M2.1 73 = M.1 73) : BN M2 := by
  have g1 : ∀ k, gI M2 60 k = gI M 60 k := gI_of h1
  have g2 : ∀ k, gI M2 73 k = gI M 73 k := gI_of h2
  unfold BN
  simp only [g1, g2]
  exact h
theorem IM_congr {K : SK} {M M2 : MM} {I : Nat → Option TOLD} (h : IM K M I) (h1 : ∀ i, 1130 ≤ i → gI M2 91 i = gI M 91 i) (h2 : M2.1 92 = M.1 92) (h3 : ∀ c, 115 ≤ c → M2.1 c = M.1 c) : IM K M2 I := by
  intro j hj
  have hh := h j hj
  revert hh
  cases I j with
  | none => intro hh; exact ⟨by rw [gI_of h2]; exact hh.1, hh.2⟩
  | some U =>
    intro hh
    obtain ⟨b1, b2, b3, a, b4, b5, b6, b7, b8⟩ := hh
    refine ⟨by rw [gI_of h2]; exact b1, b2, MT_congr b2 b3 (fun i _ => h1 _ (by omega)), a, b4, b5, b6, CT_congr b2 b7 (fun c c1 _ => h3 c (by omega)), b8⟩
/-- scratch cells changed alone -/
theorem inv_keep {K : SK} {M M2 : MM} (h : Inv K M) (he : ∀ c, c < 40 ∨ c = 47 ∨ c = 91 ∨ c = 92 ∨ 115 ≤ c → M2.1 c = M.1 c) (hB : BN M2) : Inv K M2 := by
  obtain ⟨hK, T, I, hW, hC, hM, -, hIm⟩ := h
  exact ⟨⟨hK.1, RD_congr hK.2 (he 47 (by omega))⟩, T, I, hW, CT_congr hW hC (fun c h1 h2 => he c (by omega)), MT_congr hW hM (fun i _ => gI_of (he 91 (by omega)) _), hB, IM_congr hIm (fun i _ => gI_of (he 91 (by omega)) _) (he 92 (by omega)) (fun c hc => he c (by omega))⟩
def scr (P : List Nat) : Bool := P.all (fun c => decide (40 ≤ c ∧ c < 115 ∧ c ≠ 47 ∧ c ≠ 91 ∧ c ≠ 92))
theorem inv_fr {K : SK} {M M2 : MM} {P : List Nat} (h : Inv K M) (hF : Fr P M M2) (hP : scr P = true) (hB : BN M2) : Inv K M2 :=
  inv_keep h (fun c hc => (hF c (fun q => by have := of_decide_eq_true (List.all_eq_true.mp hP c q); omega)).1) hB
theorem inv_fr2 {K : SK} {M M2 : MM} {P : List Nat} (h : Inv K M) (hF : Fr P M M2) (hP : scr P = true) (h60 : 60 ∉ P) (h73 : 73 ∉ P) : Inv K M2 := by
  refine inv_fr h hF hP ?_
  obtain ⟨hK, T, I, hW, hC, hM, hB, hIm⟩ := h
  exact BN_congr hB (hF 60 h60).1 (hF 73 h73).1
/-! ===== end; law; sight; deed ===== -/
theorem e1 : E1 Inv := by
  intro K M x1 hI
  obtain ⟨hK, T, I, hW, hC, hM, hB, hIm⟩ := id hI
  have hl : gI M 1 6 = nI (tLen T) := hC.2.1
  have hm : gI M 91 4 = nI (tLen T) := hM.2.1
  have h600 := hW.2.1
  unfold fX11_end
  rcases cases3 x1 (tLen T + 1) (by omega) with h | h | ⟨j, hj, rfl⟩
  · refine ⟨-1, M, M, by rw [if_pos h], ?_, hI⟩
    unfold fX12_end; rw [if_pos h]
  · have h9 := (le_toInt (by omega)).mp h
    have h0 : ¬ x1 < 0 := fun q => by have := lt0_toInt.mp q; omega
    have h1 : ¬ x1 ≤ nI (tLen T) := fun q => by
      rw [Int32.le_iff_toInt_le, nI_toInt (by omega)] at q; omega
    refine ⟨-1, M, M, by rw [if_neg h0, hl, if_neg h1], ?_, hI⟩
    unfold fX12_end; rw [if_neg h0, show gI M 91 (ix 4) = nI (tLen T) from hm, if_neg h1]
  · have h0 : ¬ nI j < 0 := nI_pos (by omega)
    have h1 : nI j ≤ nI (tLen T) := nI_le (by omega) (by omega)
    refine ⟨nI j, sI M 1 6 (nI j), sI (sI M 1 6 (nI j)) 91 4 (nI j), by rw [if_neg h0, hl, if_pos h1]; rfl, ?_, ?_⟩
    · unfold fX12_end
      rw [if_neg h0, show gI (sI M 1 6 (nI j)) 91 (ix 4) = nI (tLen T) by rw [gI_ne _ _ _ _ _ _ (by decide)]; exact hm, if_pos h1]
      rfl
    · have k1 : ∀ c, c ≠ 1 → c ≠ 91 → (sI (sI M 1 6 (nI j)) 91 4 (nI j)).1 c = M.1 c := fun c c1 c2 => by rw [sI_ne c2, sI_ne c1]
      have k9 : ∀ i, i ≠ 4 → gI (sI (sI M 1 6 (nI j)) 91 4 (nI j)) 91 i = gI M 91 i := fun i hi => by rw [gI_nk _ _ _ _ _ _ hi, gI_ne _ _ _ _ _ _ (by decide)]
      refine ⟨⟨hK.1, RD_congr hK.2 (k1 47 (by decide) (by decide))⟩, (T.1, j, T.2.2.1, T.2.2.2.1, T.2.2.2.2), I, ⟨hW.1, by show j ≤ 600; omega, hW.2.2⟩, CT_head hW hC (fun c c1 c2 => k1 c (by omega) (by omega)) ?_ ?_ ?_, MT_head hW hM (fun i _ h3 => k9 _ (by omega)) ?_ ?_ ?_, BN_congr hB (k1 60 (by decide) (by decide)) (k1 73 (by decide) (by decide)), IM_congr hIm (fun i hi => k9 i (by omega)) (k1 92 (by decide) (by decide)) (fun c hc => k1 c (by omega) (by omega))⟩
      · rw [gI_ne _ _ _ _ _ _ (by decide), gI_eq]
      · rw [gI_ne _ _ _ _ _ _ (by decide), gI_nk _ _ _ _ _ _ (by decide)]; exact hC.2.2.1
      · rw [gI_ne _ _ _ _ _ _ (by decide), gI_nk _ _ _ _ _ _ (by decide)]; exact hC.2.2.2.1
      · exact gI_eq _ _ _ _
      · rw [k9 _ (by decide)]; exact hM.2.2.1
      · rw [k9 _ (by decide)]; exact hM.2.2.2.1
theorem isLaw_no {M : MM} {T : TOLD} (hM : MT M 0 T) (hW : TW T) {x : Int32} (hx : x < 0 ∨ nI (tNum T 1) ≤ x) : fX12_isLaw M x = some (0, M) := by
  unfold fX12_isLaw; rw [show fX12_isOf M 1 x = some 0 from isOf_no hM hW (s := 1) (by decide) hx]; rfl
/-- the memory behind isLaw(j) -/
def mLaw (M : MM) (j c : Nat) : MM := sI (sI M 90 26 (nI (858 + 6 * j))) 90 27 (nI c)
theorem isLaw_yes {M : MM} {T : TOLD} (hM : MT M 0 T) (hW : TW T) {j : Nat} (hj : j < tNum T 1) : fX12_isLaw M (nI j) = some (1, mLaw M j (tLaw T j 0)) := by
  have h2 := num_lt hW (s := 1) (by decide)
  have e1 := hM.2.2.2.2.2.2.1 j hj 0 (by decide)
  have ep : fX12_placeOf 1 (nI j) = nI (858 + 6 * j) := by
    unfold fX12_placeOf
    rw [if_neg (by decide), if_pos rfl, show (858 : Int32) = nI 858 from rfl, show (6 : Int32) = nI 6 from rfl, pk_mul, nI_add]
  unfold fX12_isLaw mLaw
  rw [show fX12_isOf M 1 (nI j) = some 1 from isOf_yes hM hW (s := 1) (by decide) hj, bd_s, if_neg (by decide), bnd_r, ep, gI_eq, show nI (858 + 6 * j) + 0 = nI (858 + 6 * j) by rw [show (0 : Int32) = nI 0 from rfl, nI_add]; rfl, gd_t (inb_nI (by omega) (by decide)), bnd_r, ix_nI (by omega), gI_ne _ _ _ _ _ _ (by decide)]
  rw [show 0 + 858 + 6 * j + 0 = 858 + 6 * j by omega] at e1
  rw [e1]
theorem mLaw_fr (M : MM) (j c : Nat) : Fr [90] M (mLaw M j c) := (Fr.rfl.pI (by decide)).pI (by decide)
theorem e6 : E6 Inv := by
  intro K M x1 x2 hI
  obtain ⟨hK, T, I, hW, hC, hM, hB, hIm⟩ := id hI
  rcases num_cases hW (s := 1) (by decide) x1 with h | ⟨j, hj, hj2, rfl⟩
  · refine ⟨-1, M, ?_, ?_, hI⟩
    · unfold fX11_law; rw [lawAt_no hC hW h]; rfl
    · unfold fX12_law; rw [isLaw_no hM hW h]; rfl
  · have hl : ∀ i, i < 6 → gI M (1 + (15 + 16 * j)) i = nI (tLaw T j i) := hC.2.2.2.2.2.2.1 j hj
    have hm : ∀ i, i < 6 → gI M 91 (858 + 6 * j + i) = nI (tLaw T j i) := fun i hi => by have := hM.2.2.2.2.2.2.1 j hj i hi; rw [Nat.zero_add] at this; exact this
    have hb := hW.2.2.2.2.1 j hj
    have hI2 : Inv K (mLaw M j (tLaw T j 0)) := inv_fr2 hI (mLaw_fr M j _) (by decide) (by decide) (by decide)
    have c26 : gI (mLaw M j (tLaw T j 0)) 90 26 = nI (858 + 6 * j) := by unfold mLaw; rw [gI_nk _ _ _ _ _ _ (by decide), gI_eq]
    have c91 : ∀ i, gI (mLaw M j (tLaw T j 0)) 91 i = gI M 91 i := fun i => (mLaw_fr M j _).gi (by decide) i
    unfold fX11_law fX12_law
    rw [lawAt_yes hC hW hj, isLaw_yes hM hW hj, bd_s, bd_s]
    simp only []
    rw [if_neg (by decide), c26]
    rcases cases3 x2 6 (by decide) with h | h | ⟨i, hi, rfl⟩
    · have h9 := lt0_toInt.mp h
      have hx : ∀ n : Nat, n < 2 ^ 31 → ¬ x2 = nI n := fun n hn q => by rw [eq_toInt hn] at q; omega
      refine ⟨-1, _, ?_, by rw [isIn_f (Or.inl h), if_pos rfl], hI2⟩
      unfold fX4_tell
      rw [nl0, nl1, nl2, nl3, nl4, nl5, if_neg (hx 0 (by decide)), if_neg (hx 1 (by decide)), if_neg (hx 2 (by decide)), if_neg (hx 3 (by decide)), if_neg (hx 4 (by decide)), if_neg (hx 5 (by decide))]
    · have h9 := (le_toInt (by decide)).mp h
      have hx : ∀ n : Nat, n < 6 → ¬ x2 = nI n := fun n hn q => by rw [eq_toInt (by omega)] at q; omega
      have h5 : nI 5 < x2 := (gt_toInt (by decide)).mpr (by omega)
      refine ⟨-1, _, ?_, by rw [nl5, isIn_f (Or.inr h5), if_pos rfl], hI2⟩
      unfold fX4_tell
      rw [nl0, nl1, nl2, nl3, nl4, nl5, if_neg (hx 0 (by decide)), if_neg (hx 1 (by decide)), if_neg (hx 2 (by decide)), if_neg (hx 3 (by decide)), if_neg (hx 4 (by decide)), if_neg (hx 5 (by decide))]
    · refine ⟨nI (tLaw T j i), _, ?_, ?_, hI2⟩
      · congr 1
        unfold fX4_tell
        rcases (show i = 0 ∨ i = 1 ∨ i = 2 ∨ i = 3 ∨ i = 4 ∨ i = 5 by omega) with rfl | rfl | rfl | rfl | rfl | rfl
        · rw [if_pos (by decide)]; exact hl 0 (by decide)
        · rw [if_neg (by decide), if_pos (by decide), hl 1 (by decide)]
          rcases (show tLaw T j 1 = 0 ∨ tLaw T j 1 = 1 by omega) with e | e <;> rw [e] <;> decide
        · rw [if_neg (by decide), if_neg (by decide), if_pos (by decide)]; exact hl 2 (by decide)
        · rw [if_neg (by decide), if_neg (by decide), if_neg (by decide), if_pos (by decide)]; exact hl 3 (by decide)
        · rw [if_neg (by decide), if_neg (by decide), if_neg (by decide), if_neg (by decide), if_pos (by decide)]; exact hl 4 (by decide)
        · rw [if_neg (by decide), if_neg (by decide), if_neg (by decide), if_neg (by decide), if_neg (by decide), if_pos (by decide)]; exact hl 5 (by decide)
      · rw [nl5, isIn_t (nI_pos (by omega)) (show ¬ nI 5 < nI i from nI_nlt (by omega) (by omega)), if_neg (by decide), nI_add, gd_t (inb_nI (by omega) (by decide)), ix_nI (by omega), c91, hm i hi]
theorem cases_rng (x : Int32) (a n : Nat) (h : a + n < 2 ^ 31) : x < nI a ∨ nI (a + n) ≤ x ∨ ∃ i : Nat, i < n ∧ x = nI (a + i) := by
  rw [lt_toInt (by omega), le_toInt (by omega)]
  rcases Int.lt_or_le x.toInt a with h1 | h1
  · exact Or.inl h1
  · rcases Int.lt_or_le x.toInt ((a + n : Nat) : Int) with h2 | h2
    · refine Or.inr (Or.inr ⟨x.toInt.toNat - a, by omega, ?_⟩)
      rw [eq_toInt (by omega)]
      omega
    · exact Or.inr (Or.inl h2)
theorem place3 {j : Nat} : fX12_placeOf 3 (nI j) = nI (1112 + 9 * j) := by
  unfold fX12_placeOf
  rw [if_neg (by decide), if_neg (by decide), if_neg (by decide), show (1112 : Int32) = nI 1112 from rfl, show (9 : Int32) = nI 9 from rfl, pk_mul, nI_add]
theorem place2 {j : Nat} : fX12_placeOf 2 (nI j) = nI (870 + 121 * j) := by
  unfold fX12_placeOf
  rw [if_neg (by decide), if_neg (by decide), if_pos rfl, show (870 : Int32) = nI 870 from rfl, show (121 : Int32) = nI 121 from rfl, pk_mul, nI_add]
theorem place0 {j : Nat} : fX12_placeOf 0 (nI j) = nI (610 + 124 * j) := by
  unfold fX12_placeOf
  rw [if_pos rfl, show (610 : Int32) = nI 610 from rfl, show (124 : Int32) = nI 124 from rfl, pk_mul, nI_add]
theorem e22 : E22 Inv := by
  intro K M x1 x2 hI
  obtain ⟨hK, T, I, hW, hC, hM, hB, hIm⟩ := id hI
  rcases num_cases hW (s := 3) (by decide) x1 with h | ⟨j, hj, hj2, rfl⟩
  · refine ⟨-2, M, ?_, ?_, hI⟩
    · unfold fX11_sight; rw [sightAt_no hC hW h]; rfl
    · unfold fX12_sight; rw [show fX12_isOf M 3 x1 = some 0 from isOf_no hM hW (s := 3) (by decide) h]; rfl
  · have hl := hC.2.2.2.2.2.2.2.2.1 j hj
    have hm : ∀ i, i < 9 → gI M 91 (1112 + 9 * j + i) = nI (tSig T j i) := fun i hi => by have := hM.2.2.2.2.2.2.2.2 j hj i hi; rw [Nat.zero_add] at this; exact this
    have hb := hW.2.2.2.2.2.2 j hj
    have hF : Fr [90] M (sI M 90 41 (nI (1112 + 9 * j))) := Fr.rfl.pI (by decide)
    have hI2 : Inv K (sI M 90 41 (nI (1112 + 9 * j))) := inv_fr2 hI hF (by decide) (by decide) (by decide)
    have c91 : ∀ i, gI (sI M 90 41 (nI (1112 + 9 * j))) 91 i = gI M 91 i := fun i => hF.gi (by decide) i
    unfold fX11_sight fX12_sight
    rw [sightAt_yes hC hW hj, show fX12_isOf M 3 (nI j) = some 1 from isOf_yes hM hW (s := 3) (by decide) hj, bd_s, bd_s]
    simp only []
    rw [if_neg i10, bnd_r, place3, gI_eq]
    by_cases h0 : x2 = 0
    · refine ⟨nI (tSig T j 0), _, by rw [if_pos h0, hl.1], ?_, hI2⟩
      rw [if_pos h0, gd_t (inb_nI (by omega) (by decide)), ix_nI (by omega), c91]
      have := hm 0 (by decide)
      rw [Nat.add_zero] at this
      rw [this]
    · rw [if_neg h0, if_neg h0]
      rcases cases_rng x2 10 8 (by decide) with h | h | ⟨i, hi, rfl⟩
      · exact ⟨-2, _, by rw [if_pos (show x2 < 10 from h)], by rw [nl10, isIn_f (Or.inl h), if_pos rfl], hI2⟩
      · have h9 := (le_toInt (by decide)).mp h
        have h1 : ¬ x2 < nI 10 := fun q => by have := (lt_toInt (by decide)).mp q; omega
        have h2 : ¬ x2 < nI 18 := fun q => by have := (lt_toInt (by decide)).mp q; omega
        have h3 : nI 17 < x2 := (gt_toInt (by decide)).mpr (by omega)
        exact ⟨-2, _, by rw [if_neg (show ¬ x2 < 10 from h1), if_neg (show ¬ x2 < 18 from h2)], by rw [nl17, isIn_f (Or.inr h3), if_pos rfl], hI2⟩
      · have h1 : ¬ nI (10 + i) < nI 10 := nI_nlt (by omega) (by omega)
        have h2 : nI (10 + i) < nI 18 := nI_lt (by omega) (by omega)
        have h3 : ¬ nI 17 < nI (10 + i) := nI_nlt (by omega) (by omega)
        have e1 : nI (10 + i) - 10 = nI i := by rw [show (10 : Int32) = nI 10 from rfl, pk_sub (by omega)]; congr 1; omega
        have e2 : nI (1112 + 9 * j) + 1 + nI (10 + i) - 10 = nI (1112 + 9 * j + (1 + i)) := by
          rw [show (10 : Int32) = nI 10 from rfl, show (1 : Int32) = nI 1 from rfl, nI_add, nI_add, pk_sub (by omega)]; congr 1; omega
        refine ⟨nI (tSig T j (1 + i)) - 1, _, ?_, ?_, hI2⟩
        · rw [if_neg (show ¬ nI (10 + i) < 10 from h1), if_pos (show nI (10 + i) < 18 from h2), e1, gd_t (inb_nI hi (by decide)), ix_nI (by omega), hl.2 i hi]
        · rw [isIn_t (show ¬ nI (10 + i) < 10 from h1) (show ¬ (17 : Int32) < nI (10 + i) from h3), if_neg (by decide), e2, gd_t (inb_nI (by omega) (by decide)), ix_nI (by omega), c91, hm (1 + i) (by omega)]
theorem isEvening_no {M : MM} {T : TOLD} (hM : MT M 0 T) (hW : TW T) {x : Int32} (hx : x < 0 ∨ nI (tNum T 2) ≤ x) : fX12_isEvening M x = some (0, M) := by
  unfold fX12_isEvening; rw [show fX12_isOf M 2 x = some 0 from isOf_no hM hW (s := 2) (by decide) hx]; rfl
theorem isEvening_yes {M : MM} {T : TOLD} (hM : MT M 0 T) (hW : TW T) {j : Nat} (hj : j < tNum T 2) : fX12_isEvening M (nI j) = some (1, sI M 90 31 (nI (870 + 121 * j))) := by
  unfold fX12_isEvening; rw [show fX12_isOf M 2 (nI j) = some 1 from isOf_yes hM hW (s := 2) (by decide) hj, bd_s, if_neg (by decide), place2]; rfl
theorem e7 : E7 Inv := by
  intro K M x1 x2 x3 hI
  obtain ⟨hK, T, I, hW, hC, hM, hB, hIm⟩ := id hI
  rcases num_cases hW (s := 2) (by decide) x1 with h | ⟨j, hj, hj2, rfl⟩
  · refine ⟨-2, M, ?_, ?_, hI⟩
    · unfold fX11_deed; rw [eveningAt_no hC hW h]; rfl
    · unfold fX12_deed; rw [isEvening_no hM hW h]; rfl
  · have hl := hC.2.2.2.2.2.2.2.1 j hj
    have hm := hM.2.2.2.2.2.2.2.1 j hj
    rw [Nat.zero_add] at hm
    have hb := hW.2.2.2.2.2.1 j hj
    have hF : Fr [90] M (sI M 90 31 (nI (870 + 121 * j))) := Fr.rfl.pI (by decide)
    have hI2 : Inv K (sI M 90 31 (nI (870 + 121 * j))) := inv_fr2 hI hF (by decide) (by decide) (by decide)
    have c91 : ∀ i, gI (sI M 90 31 (nI (870 + 121 * j))) 91 i = gI M 91 i := fun i => hF.gi (by decide) i
    unfold fX11_deed fX12_deed
    rw [eveningAt_yes hC hW hj, isEvening_yes hM hW hj, bd_s, bd_s]
    simp only []
    rw [if_neg i10, gI_eq, gd_t (inb_nI (by omega) (by decide)), ix_nI (by omega), c91, hm.1, gd_t (inb_nI (by omega) (by decide)), hl.1]
    by_cases h0 : x2 = -1
    · rw [if_pos h0, if_pos h0]
      by_cases h1 : x3 = 0
      · exact ⟨_, _, by rw [if_pos h1], by rw [if_pos h1], hI2⟩
      · exact ⟨_, _, by rw [if_neg h1], by rw [if_neg h1], hI2⟩
    · rw [if_neg h0, if_neg h0]
      rcases cases3 x2 (tEve T j).1 (by omega) with h | h | ⟨i, hi, rfl⟩
      · exact ⟨-2, _, by rw [if_pos h], by rw [isIn_f (Or.inl h), if_pos rfl], hI2⟩
      · have h9 := (le_toInt (by omega)).mp h
        have h1 : ¬ x2 < 0 := fun q => by have := lt0_toInt.mp q; omega
        have h2 : ¬ x2 < nI (tEve T j).1 := fun q => by have := (lt_toInt (by omega)).mp q; omega
        have h3 : nI (tEve T j).1 - 1 < x2 := by
          rw [Int32.lt_iff_toInt_lt, show (1 : Int32) = nI 1 from rfl, pk_sub_toInt (by omega) (by decide)]; omega
        exact ⟨-2, _, by rw [if_neg h1, if_neg h2], by rw [isIn_f (Or.inr h3), if_pos rfl], hI2⟩
      · have h1 : ¬ nI i < 0 := nI_pos (by omega)
        have h2 : nI i < nI (tEve T j).1 := nI_lt hi (by omega)
        have h3 : ¬ nI (tEve T j).1 - 1 < nI i := by
          rw [Int32.lt_iff_toInt_lt, show (1 : Int32) = nI 1 from rfl, pk_sub_toInt (by omega) (by decide), nI_toInt (by omega)]; omega
        rw [if_neg h1, if_pos h2, isIn_t h1 h3, if_neg i10]
        have hi40 : i < 40 := by omega
        simp only [gd_t (inb_nI hi40 (show 40 < 2 ^ 31 by decide)), ix_nI (show i < 2 ^ 31 by omega)]
        rcases cases3 x3 3 (by decide) with q | q | ⟨c, hc, rfl⟩
        · have q9 := lt0_toInt.mp q
          have hx : ∀ n : Nat, n < 3 → ¬ x3 = nI n := fun n hn z => by rw [eq_toInt (by omega)] at z; omega
          exact ⟨-2, _, by rw [nl0, nl1, nl2, if_neg (hx 0 (by decide)), if_neg (hx 1 (by decide)), if_neg (hx 2 (by decide))], by rw [isIn_f (Or.inl q), if_pos rfl], hI2⟩
        · have q9 := (le_toInt (by decide)).mp q
          have hx : ∀ n : Nat, n < 3 → ¬ x3 = nI n := fun n hn z => by rw [eq_toInt (by omega)] at z; omega
          have q3 : nI 2 < x3 := (gt_toInt (by decide)).mpr (by omega)
          exact ⟨-2, _, by rw [nl0, nl1, nl2, if_neg (hx 0 (by decide)), if_neg (hx 1 (by decide)), if_neg (hx 2 (by decide))], by rw [nl2, isIn_f (Or.inr q3), if_pos rfl], hI2⟩
        · have q1 : ¬ nI c < 0 := nI_pos (by omega)
          have q2 : ¬ nI 2 < nI c := nI_nlt (by omega) (by omega)
          have e2 : nI (870 + 121 * j) + 1 + 3 * nI i + nI c = nI (870 + 121 * j + 1 + 3 * i + c) := by
            rw [show (3 : Int32) = nI 3 from rfl, show (1 : Int32) = nI 1 from rfl, nI_add, pk_mul, nI_add, nI_add]
          refine ⟨(tEve T j).2 i c, _, ?_, ?_, hI2⟩
          · rcases (show c = 0 ∨ c = 1 ∨ c = 2 by omega) with rfl | rfl | rfl
            · rw [if_pos (by decide)]; exact congrArg some (hl.2 i hi 0 (by decide))
            · rw [if_neg (by decide), if_pos (by decide)]; exact congrArg some (hl.2 i hi 1 (by decide))
            · rw [if_neg (by decide), if_neg (by decide), if_pos (by decide)]; exact congrArg some (hl.2 i hi 2 (by decide))
          · rw [nl2, isIn_t q1 q2, if_neg i10]
            unfold fX12_deedOf
            rw [gI_eq, e2, gd_t (inb_nI (by omega) (by decide)), ix_nI (by omega), c91, hm.2 i hi c hc]
            rfl
/-! ===== the reference loads a parish ===== -/
/-- the value of a person's place: a number, or -1 -/
def opI (o : Option Nat) : Int32 := match o with
  | some q => nI q
  | none => -1
/-- the first k entries of the working arrays are loaded -/
def LD (M : MM) (o : Nat) (P : PARD) (k : Nat) : Prop := ∀ i, i < k → gI M 94 i = (if i < pN P then nI (pAt P i) else -1) ∧ gI M 95 i = gI M 91 (o + 68 + 2 * i + 1) ∧ (∀ j, j < 5 → gI M (96 + j) i = gI M 91 (o + 84 + 5 * i + j)) ∧ gI M 101 i = 0
theorem nar0 : vp_nar .boolean 0 = 0 := by decide
theorem nar1 : vp_nar .boolean 1 = 1 := by decide
/-- the memory behind one turn of the loading loop -/
def mLd (M : MM) (o k : Nat) (v : Int32) : MM := sI (sI (sI (sI (sI (sI (sI (sI M 94 k v) 95 k (gI M 91 (o + 68 + 2 * k + 1))) 96 k (gI M 91 (o + 84 + 5 * k))) 97 k (gI M 91 (o + 84 + 5 * k + 1))) 98 k (gI M 91 (o + 84 + 5 * k + 2))) 99 k (gI M 91 (o + 84 + 5 * k + 3))) 100 k (gI M 91 (o + 84 + 5 * k + 4))) 101 k 0
theorem mLd_fr (M : MM) (o k : Nat) (v : Int32) : Fr [94, 95, 96, 97, 98, 99, 100, 101] M (mLd M o k v) := by
  unfold mLd
  exact (((((((Fr.rfl.pI (by decide)).pI (by decide)).pI (by decide)).pI (by decide)).pI (by decide)).pI (by decide)).pI (by decide)).pI (by decide)
theorem isParish_j96 {M : MM} {o k : Nat} (ho : o + 124 ≤ 4520) (h12 : gI M 90 12 = nI o) (hk : k < 8) (v : Int32) (kk : MM → Int32 → Option (Int32 × MM)) : fX12_isParish_j96 kk M (nI k) (nI k) v = kk (mLd M o k v) (nI (k + 1)) := by
  unfold fX12_isParish_j96 mLd
  simp (disch := omega) only [bnd_r, gI_ne, h12, nl1, nl2, nl3, nl4, nl5, nl68, nl84, nI_add, pk_mul, gd_inb, ix_nI, nar0]
theorem LD_step {M : MM} {o k : Nat} {P : PARD} (hL : LD M o P k) {v : Int32} (hv : v = if k < pN P then nI (pAt P k) else -1) : LD (mLd M o k v) o P (k + 1) := by
  intro i hi
  have h91 : ∀ x, gI (mLd M o k v) 91 x = gI M 91 x := fun x => (mLd_fr M o k v).gi (by decide) x
  rcases Nat.lt_or_ge i k with h | h
  · have hne : i ≠ k := by omega
    obtain ⟨a1, a2, a3, a4⟩ := hL i h
    have g : ∀ c, gI (mLd M o k v) c i = gI M c i := fun c => by unfold mLd; simp only [gI_nk _ _ _ _ _ _ hne]
    simp only [g, h91]
    exact ⟨a1, a2, a3, a4⟩
  · have e : i = k := by omega
    subst e
    simp only [h91]
    unfold mLd
    refine ⟨by simp (disch := omega) only [gI_ne, gI_eq]; exact hv, by simp (disch := omega) only [gI_ne, gI_eq], fun j hj => ?_, by simp (disch := omega) only [gI_ne, gI_eq]⟩
    rcases (show j = 0 ∨ j = 1 ∨ j = 2 ∨ j = 3 ∨ j = 4 by omega) with rfl | rfl | rfl | rfl | rfl <;> simp (disch := omega) only [gI_ne, gI_eq, Nat.add_zero]
theorem isParish_loop {M : MM} {o : Nat} {P : PARD} (hP : PW P) (hM : MP M o P) (ho : o + 124 ≤ 4520) (h12 : gI M 90 12 = nI o) (h13 : gI M 90 13 = nI (pN P)) : ∀ (n k : Nat) (M1 : MM), k ≤ 8 → 8 - k < n → Fr [94, 95, 96, 97, 98, 99, 100, 101] M M1 → LD M1 o P k → ∃ M2, fX12_isParish_l57 n M1 (nI k) = some (1, M2) ∧ Fr [94, 95, 96, 97, 98, 99, 100, 101] M M2 ∧ LD M2 o P 8 := by
  intro n
  induction n with
  | zero => intro k M1 _ h; omega
  | succ n ih =>
    intro k M1 hk hn hF hL
    rw [fX12_isParish_l57.eq_2]
    rcases Nat.lt_or_ge k 8 with h | h
    · have g12 : gI M1 90 12 = nI o := by rw [hF.gi (by decide)]; exact h12
      have g13 : gI M1 90 13 = nI (pN P) := by rw [hF.gi (by decide)]; exact h13
      have p3 := hP.2.2.1
      rw [nl8, le_f h (by omega), g13]
      rcases Nat.lt_or_ge k (pN P) with q | q
      · rw [le_f q (by omega), g12]
        simp (disch := omega) only [nl2, nl68, nI_add, pk_mul, gd_inb, ix_nI]
        rw [isParish_j96 ho g12 h]
        have hv : gI M1 91 (o + 68 + 2 * k) = nI (pAt P k) := by rw [hF.gi (by decide)]; exact (hM.2.2.2.2.2.1 k q).1
        exact ih (k + 1) _ (by omega) (by omega) (hF.trans (mLd_fr M1 o k _)) (LD_step hL (by rw [if_pos q]; exact hv))
      · rw [le_t q (by omega), isParish_j96 ho g12 h]
        exact ih (k + 1) _ (by omega) (by omega) (hF.trans (mLd_fr M1 o k _)) (LD_step hL (by rw [if_neg (by omega)]))
    · have e : k = 8 := by omega
      subst e
      exact ⟨M1, by rw [nl8, le_t (Nat.le_refl _) (by decide)], hF, hL⟩
/-! ===== the first with a property ===== -/
theorem fstN_none {p : Nat → Bool} : ∀ {n : Nat}, (∀ k, k < n → p k = false) → fstN p n = none
  | 0, _ => rfl
  | n + 1, h => by
    rw [fstN, fstN_none (fun k hk => h k (by omega))]
    simp only [h n (by omega)]
    rfl
theorem fstN_some {p : Nat → Bool} : ∀ {n i : Nat}, i < n → (∀ k, k < i → p k = false) → p i = true → fstN p n = some i
  | 0, i, h, _, _ => absurd h (Nat.not_lt_zero i)
  | n + 1, i, h, h1, h2 => by
    rcases Nat.lt_or_ge i n with q | q
    · rw [fstN, fstN_some q h1 h2]
    · have e : i = n := by omega
      subst e
      rw [fstN, fstN_none h1]
      simp only [h2, if_true]
theorem fstN_no {p : Nat → Bool} : ∀ {n : Nat}, fstN p n = none → ∀ k, k < n → p k = false
  | 0, _, k, hk => absurd hk (Nat.not_lt_zero k)
  | n + 1, h, k, hk => by
    rw [fstN] at h
    cases hf : fstN p n with
    | some k2 => rw [hf] at h; cases h
    | none =>
      rw [hf] at h
      rcases Nat.lt_or_ge k n with q | q
      · exact fstN_no hf k q
      · rw [show k = n by omega]
        cases hp : p n with
        | false => rfl
        | true => simp only [hp, if_true] at h; cases h
theorem fstN_out {p : Nat → Bool} : ∀ {n k : Nat}, fstN p n = some k → k < n ∧ p k = true ∧ ∀ j, j < k → p j = false
  | 0, k, h => by cases h
  | n + 1, k, h => by
    rw [fstN] at h
    cases hf : fstN p n with
    | some k2 =>
      rw [hf] at h
      cases h
      obtain ⟨a, b, c⟩ := fstN_out hf
      exact ⟨by omega, b, c⟩
    | none =>
      rw [hf] at h
      cases hp : p n with
      | true =>
        simp only [hp, if_true] at h
        cases h
        exact ⟨by omega, hp, fun j hj => fstN_no hf j hj⟩
      | false => simp only [hp] at h; cases h
/-! ===== a scene in the reference's arrays ===== -/
/-- places and numbers of a scene are such as can be -/
def SW (S : SCN) : Prop := (2 ≤ cW S ∧ cW S ≤ 8) ∧ (2 ≤ cH S ∧ cH S ≤ 8) ∧ cN S ≤ 8 ∧ cS S ≤ 8 ∧ (∀ k q, k < cN S → cAt S k = some q → inP (cW S) (cH S) q) ∧ (∀ k, k < cN S → cNm S k < 10) ∧
  (∀ k, k < cS S → cSh S k 0 < 4 ∧ inP (cW S) (cH S) (cSh S k 1) ∧ cSh S k 2 < 8 ∧ (1 ≤ cSh S k 3 ∧ cSh S k 3 ≤ 9) ∧ cSh S k 4 < 4)
def MS (M : MM) (o : Nat) (P : PARD) (S : SCN) : Prop := gI M 90 12 = nI o ∧ MP M o P ∧ PW P ∧ o + 124 ≤ 1130 ∧ SW S ∧ cW S = pW P ∧ cH S = pH P ∧ gI M 90 13 = nI (cN S) ∧ gI M 90 14 = nI (cS S) ∧
  (∀ k, k < cN S → gI M 94 k = opI (cAt S k) ∧ gI M 95 k = nI (cNm S k)) ∧ (∀ k, k < cS S → ∀ j, j < 5 → gI M (96 + j) k = nI (cSh S k j)) ∧ (∀ k, k < 8 → gI M 101 k = if cSt S k then 1 else 0) ∧ (∀ k, k < cS S → cHd S k = false) ∧
  ∃ bo : Option Nat, gI M 90 23 = opI bo ∧ (∀ b, bo = some b → b < 64) ∧ ∀ q, q < 64 → cWa S q = (pWa P q || bo == some q)
theorem inP_64 {w h q : Nat} (hh : h ≤ 8) (hq : inP w h q) : q < 64 := by have := hq.2; omega
theorem opI_eq {o : Option Nat} {q : Nat} (hq : q < 2 ^ 31) (ho : ∀ b, o = some b → b < 2 ^ 31) : opI o = nI q ↔ o = some q := by
  cases o with
  | none =>
    refine ⟨fun h => ?_, fun h => by cases h⟩
    exfalso
    have h1 : (-1 : Int32).toInt = (nI q).toInt := congrArg Int32.toInt h
    rw [nI_toInt hq] at h1
    have h2 : (-1 : Int32).toInt = -1 := by decide
    omega
  | some b =>
    show nI b = nI q ↔ _
    rw [nI_eq (ho b rfl) hq]
    exact ⟨fun h => by rw [h], fun h => by cases h; rfl⟩
theorem on_loop2 {M : MM} {o : Nat} {P : PARD} {S : SCN} (h : MS M o P S) {q : Nat} (hq : q < 64) (k31 k20 : Int32 → Option Int32) : ∀ (n i : Nat), i ≤ cN S → cN S - i < n → (∀ k, k < i → (cAt S k == some q) = false) → fX12_on_l2 M k31 k20 n (nI q) (nI i) = match fstN (fun k => cAt S k == some q) (cN S) with
    | some k => k20 (nI k)
    | none => k31 (nI q) := by
  obtain ⟨-, -, -, -, hS, -, -, h13, -, hA, -⟩ := h
  have hN := hS.2.2.1
  intro n
  induction n with
  | zero => intro i _ h; omega
  | succ n ih =>
    intro i hi hn hno
    rw [fX12_on_l2.eq_2, h13]
    rcases Nat.lt_or_ge i (cN S) with c | c
    · rw [le_f c (by omega), gd_inb (by omega) (by decide), ix_nI (by omega), (hA i c).1]
      have hb : ∀ b, cAt S i = some b → b < 2 ^ 31 := fun b e => by have := inP_64 hS.2.1.2 (hS.2.2.2.2.1 i b c e); omega
      by_cases e : cAt S i = some q
      · rw [if_pos ((opI_eq (by omega) hb).mpr e), fstN_some c hno (by simp [e])]
      · rw [if_neg (fun z => e ((opI_eq (by omega) hb).mp z)), nl1, nI_add]
        refine ih (i + 1) c (by omega) (fun k hk => ?_)
        rcases Nat.lt_or_ge k i with z | z
        · exact hno k z
        · rw [show k = i by omega]; simp [e]
    · rw [le_t c (by omega), fstN_none (fun k hk => hno k (by omega))]
theorem on_loop33 {M : MM} {o : Nat} {P : PARD} {S : SCN} (h : MS M o P S) {q : Nat} (hq : q < 64) (k62 k51 : Int32 → Option Int32) : ∀ (n i : Nat), i ≤ cS S → cS S - i < n → (∀ k, k < i → (cSh S k 1 == q && !cHd S k) = false) → fX12_on_l33 M k62 k51 n (nI q) (nI i) = match fstN (fun k => cSh S k 1 == q && !cHd S k) (cS S) with
    | some k => k51 (nI k)
    | none => k62 (nI q) := by
  obtain ⟨-, -, -, -, hS, -, -, -, h14, -, hB, -, hH, -⟩ := h
  have hN := hS.2.2.2.1
  intro n
  induction n with
  | zero => intro i _ h; omega
  | succ n ih =>
    intro i hi hn hno
    rw [fX12_on_l33.eq_2, h14]
    rcases Nat.lt_or_ge i (cS S) with c | c
    · have e97 : gI M 97 i = nI (cSh S i 1) := hB i c 1 (by decide)
      have hb : cSh S i 1 < 64 := inP_64 hS.2.1.2 (hS.2.2.2.2.2.2 i c).2.1
      rw [le_f c (by omega), gd_inb (by omega) (by decide), ix_nI (by omega), e97]
      by_cases e : cSh S i 1 = q
      · rw [eqn_t e, fstN_some c hno (by simp [e, hH i c])]
      · rw [eqn_f e (by omega) (by omega), nl1, nI_add]
        refine ih (i + 1) c (by omega) (fun k hk => ?_)
        rcases Nat.lt_or_ge k i with z | z
        · exact hno k z
        · rw [show k = i by omega]; simp [e]
    · rw [le_t c (by omega), fstN_none (fun k hk => hno k (by omega))]
theorem on_spec {M : MM} {o : Nat} {P : PARD} {S : SCN} (h : MS M o P S) {q : Nat} (hq : q < 64) : fX12_on M (nI q) = some (nI (onS S q)) := by
  have h0 := h
  obtain ⟨h12, hMP, hPW, ho, hS, -, -, -, -, -, -, -, -, bo, h23, hbo, hwa⟩ := h
  have hN := hS.2.2.1
  have hN2 := hS.2.2.2.1
  unfold fX12_on
  rw [nl0, on_loop2 h0 hq _ _ FU 0 (Nat.zero_le _) (by show _ < 5000; omega) (fun k hk => absurd hk (Nat.not_lt_zero k))]
  unfold onS
  cases h1 : fstN (fun k => cAt S k == some q) (cN S) with
  | some k =>
    have := (fstN_out h1).1
    simp only []
    rw [nl10, nI_add]
  | none =>
    simp only []
    rw [on_loop33 h0 hq _ _ FU 0 (Nat.zero_le _) (by show _ < 5000; omega) (fun k hk => absurd hk (Nat.not_lt_zero k))]
    cases h2 : fstN (fun k => cSh S k 1 == q && !cHd S k) (cS S) with
    | some k => simp only []; rw [nl20, nI_add]
    | none =>
      simp only []
      rw [h23, hwa q hq]
      by_cases e : bo = some q
      · rw [if_pos ((opI_eq (by omega) (fun b hb => by have := hbo b hb; omega)).mpr e).symm]
        simp only [e, beq_self_eq_true, Bool.or_true, if_true]
        rfl
      · rw [if_neg (fun z => e ((opI_eq (by omega) (fun b hb => by have := hbo b hb; omega)).mp z.symm)), h12]
        simp (disch := omega) only [nl4, nI_add, gd_inb, ix_nI]
        rw [hMP.2.2.2.2.1 q hq]
        have : (bo == some q) = false := by simp [e]
        rw [this, Bool.or_false]
        cases pWa P q <;> rfl
/-! ===== a step in the reference ===== -/
theorem wide_spec {M : MM} {o : Nat} {P : PARD} {S : SCN} (h : MS M o P S) : fX12_wide M = some (nI (cW S)) := by
  obtain ⟨h12, hMP, hPW, ho, hS, hw, -⟩ := h
  unfold fX12_wide
  rw [h12]
  simp (disch := omega) only [nl0, nI_add, gd_inb, ix_nI, Nat.add_zero]
  rw [hMP.1, hw]
theorem high_spec {M : MM} {o : Nat} {P : PARD} {S : SCN} (h : MS M o P S) : fX12_high M = some (nI (cH S)) := by
  obtain ⟨h12, hMP, hPW, ho, hS, -, hh, -⟩ := h
  unfold fX12_high
  rw [h12]
  simp (disch := omega) only [nl1, nI_add, gd_inb, ix_nI]
  rw [hMP.2.1, hh]
theorem sub1_toInt {n : Nat} (hn : n < 2 ^ 30) : (nI n - 1).toInt = (n : Int) - 1 := by rw [nl1, pk_sub_toInt hn (by decide)]; rfl
theorem isIn_iff {v : Int32} {n : Nat} (hn : n < 2 ^ 30) : fX12_isIn v 0 (nI n - 1) = if 0 ≤ v.toInt ∧ v.toInt < n then 1 else 0 := by
  by_cases h : 0 ≤ v.toInt ∧ v.toInt < n
  · rw [if_pos h]
    refine isIn_t (fun q => ?_) (fun q => ?_)
    · have := lt0_toInt.mp q; omega
    · rw [Int32.lt_iff_toInt_lt, sub1_toInt hn] at q; omega
  · rw [if_neg h]
    refine isIn_f ?_
    rw [lt0_toInt, Int32.lt_iff_toInt_lt, sub1_toInt hn]
    omega
theorem j67_spec {M : MM} {o : Nat} {P : PARD} {S : SCN} (h : MS M o P S) {X Y : Int} {v y dy : Int32} (hv : v.toInt = X) (hy : (y + dy).toInt = Y) : fX12_beside_j67 M v y dy = some (opI (if 0 ≤ X ∧ X < cW S ∧ 0 ≤ Y ∧ Y < cH S then some (8 * Y.toNat + X.toNat) else none)) := by
  have hS := h.2.2.2.2.1
  have w8 := hS.1.2
  have h8 := hS.2.1.2
  unfold fX12_beside_j67
  rw [bnd_r, wide_spec h, bd_s, isIn_iff (by omega), hv]
  by_cases hX : 0 ≤ X ∧ X < cW S
  · rw [if_pos hX, if_neg (by decide), high_spec h, bd_s, isIn_iff (by omega), hy]
    by_cases hY : 0 ≤ Y ∧ Y < cH S
    · rw [if_pos hY, if_neg (by decide), if_pos ⟨hX.1, hX.2, hY.1, hY.2⟩]
      have e1 : v = nI X.toNat := (eq_toInt (by omega)).mpr (by omega)
      have e2 : y + dy = nI Y.toNat := (eq_toInt (by omega)).mpr (by omega)
      rw [e1, e2, nl8, pk_mul, nI_add]
      rfl
    · rw [if_neg hY, if_pos rfl, if_neg (fun z => hY ⟨z.2.2.1, z.2.2.2⟩)]
      rfl
  · rw [if_neg hX, if_pos rfl, if_neg (fun z => hX ⟨z.1, z.2.1⟩)]
    rfl
theorem toInt_add1 {n : Nat} (hn : n < 2 ^ 30) : (nI n + 1).toInt = (n : Int) + 1 := by rw [nl1, nI_add, nI_toInt (by omega)]; rfl
theorem toInt_addm {n : Nat} (hn : n < 2 ^ 30) : (nI n + (-1)).toInt = (n : Int) + (-1) := by
  rw [show nI n + (-1) = nI n - 1 by rw [Int32.sub_eq_add_neg], sub1_toInt hn]
  rfl
theorem toInt_add0 {n : Nat} (hn : n < 2 ^ 30) : (nI n + 0).toInt = (n : Int) + 0 := by rw [nl0, nI_add, nI_toInt (by omega)]; rfl
theorem beside_spec {M : MM} {o : Nat} {P : PARD} {S : SCN} (h : MS M o P S) {q d : Nat} (hq : q < 64) (hd : d < 8) : fX12_beside M (nI q) (nI d) = some (opI (stepP (cW S) (cH S) q d)) := by
  have e1 : nI q - nI q / 8 * 8 = nI (q % 8) := pk_rem (by omega) (by decide) (by decide)
  have e2 : nI q / 8 = nI (q / 8) := pk_div (by omega) (by decide) (by decide)
  rw [e2] at e1
  have hx : q % 8 < 2 ^ 30 := by omega
  have hy : q / 8 < 2 ^ 30 := by omega
  unfold fX12_beside fX12_beside_j32 fX12_beside_j62
  simp only [bnd_r, e2, e1]
  rcases (show d = 0 ∨ d = 1 ∨ d = 2 ∨ d = 3 ∨ d = 4 ∨ d = 5 ∨ d = 6 ∨ d = 7 by omega) with rfl | rfl | rfl | rfl | rfl | rfl | rfl | rfl
  · rw [show fX12_isIn (nI 0) 1 3 = 0 by decide, show fX12_isIn (nI 0) 5 7 = 0 by decide, show fX12_isIn (nI 0) 3 5 = 0 by decide, if_pos rfl, if_pos rfl, if_pos rfl, if_neg (by decide), if_neg (by decide)]
    exact j67_spec h (toInt_add0 hx) (toInt_addm hy)
  · rw [show fX12_isIn (nI 1) 1 3 = 1 by decide, show fX12_isIn (nI 1) 3 5 = 0 by decide, if_neg (by decide), if_pos rfl, if_neg (by decide), if_neg (by decide)]
    exact j67_spec h (toInt_add1 hx) (toInt_addm hy)
  · rw [show fX12_isIn (nI 2) 1 3 = 1 by decide, show fX12_isIn (nI 2) 3 5 = 0 by decide, if_neg (by decide), if_pos rfl, if_neg (by decide), if_pos (by decide)]
    exact j67_spec h (toInt_add1 hx) (toInt_add0 hy)
  · rw [show fX12_isIn (nI 3) 1 3 = 1 by decide, show fX12_isIn (nI 3) 3 5 = 1 by decide, if_neg (by decide), if_neg (by decide)]
    exact j67_spec h (toInt_add1 hx) (toInt_add1 hy)
  · rw [show fX12_isIn (nI 4) 1 3 = 0 by decide, show fX12_isIn (nI 4) 5 7 = 0 by decide, show fX12_isIn (nI 4) 3 5 = 1 by decide, if_pos rfl, if_pos rfl, if_neg (by decide)]
    exact j67_spec h (toInt_add0 hx) (toInt_add1 hy)
  · rw [show fX12_isIn (nI 5) 1 3 = 0 by decide, show fX12_isIn (nI 5) 5 7 = 1 by decide, show fX12_isIn (nI 5) 3 5 = 1 by decide, if_pos rfl, if_neg (by decide), if_neg (by decide)]
    exact j67_spec h (toInt_addm hx) (toInt_add1 hy)
  · rw [show fX12_isIn (nI 6) 1 3 = 0 by decide, show fX12_isIn (nI 6) 5 7 = 1 by decide, show fX12_isIn (nI 6) 3 5 = 0 by decide, if_pos rfl, if_neg (by decide), if_pos rfl, if_neg (by decide), if_pos (by decide)]
    exact j67_spec h (toInt_addm hx) (toInt_add0 hy)
  · rw [show fX12_isIn (nI 7) 1 3 = 0 by decide, show fX12_isIn (nI 7) 5 7 = 1 by decide, show fX12_isIn (nI 7) 3 5 = 0 by decide, if_pos rfl, if_neg (by decide), if_pos rfl, if_pos (by decide)]
    exact j67_spec h (toInt_addm hx) (toInt_addm hy)
/-! ===== which ways a shine looks; what it meets ===== -/
theorem off_ref : ∀ d, d < 8 → ∀ f, f < 8 → (nI d - nI f + 8) - (nI d - nI f + 8) / 8 * 8 = nI ((d + 8 - f) % 8) := by decide +kernel
theorem off_cls : ∀ d, d < 8 → ∀ f, f < 8 → (nI d - nI f) &&& 7 = nI ((d + 8 - f) % 8) := by decide +kernel
/-- a kind k that is turned by f is open in that direction -/
def opK (k f : Nat) : Bool := k == 0 || f == 0 || (k == 2 && (f == 1 || f == 7)) || (k == 3 && f == 4)
def opensS (S : SCN) (s d : Nat) : Bool := opK (cSh S s 0) ((d + 8 - cSh S s 2) % 8)
theorem open_ref : ∀ k, k < 4 → ∀ f, f < 8 → (if nI k = 0 then some 1 else (if nI f = 0 then some 1 else (if nI k = 2 then (if nI f = 1 then some 1 else (if nI f = 7 then some 1 else (if nI k = 3 then (if nI f = 4 then some 1 else some 0) else some 0))) else (if nI k = 3 then (if nI f = 4 then some 1 else some 0) else some 0)))) = (some (if opK k f then 1 else 0) : Option Int32) := by decide +kernel
theorem open_cls : ∀ k, k < 4 → ∀ f, f < 8 → (if nI k = 0 then some 1 else (if nI f = 0 then some 1 else (if nI k = 2 then (if nI f = 1 then some 1 else (if nI f = 7 then some 1 else some 0)) else (if nI k = 3 then (if nI f = 4 then some 1 else some 0) else some 0)))) = (some (if opK k f then 1 else 0) : Option Int32) := by decide +kernel
theorem isOpen_spec {M : MM} {o : Nat} {P : PARD} {S : SCN} (h : MS M o P S) {s d : Nat} (hs : s < cS S) (hd : d < 8) : fX12_isOpen M (nI s) (nI d) = some (if (!cSt S s && opensS S s d) then 1 else 0) := by
  obtain ⟨-, -, -, -, hS, -, -, -, -, -, hB, hT, -⟩ := h
  have h8 := hS.2.2.2.1
  obtain ⟨hk, -, hf, -, -⟩ := hS.2.2.2.2.2.2 s hs
  have e96 : gI M 96 s = nI (cSh S s 0) := hB s hs 0 (by decide)
  have e98 : gI M 98 s = nI (cSh S s 2) := hB s hs 2 (by decide)
  have e101 := hT s (by omega)
  unfold fX12_isOpen fX12_isOpen_j60
  simp (disch := omega) only [gd_inb, ix_nI, bnd_r]
  rw [e96, e98, off_ref d hd _ hf, e101]
  cases hc : cSt S s with
  | true => simp only [if_true, Bool.not_true, Bool.false_and]; rfl
  | false =>
    simp only [Bool.not_false, Bool.true_and]
    rw [if_pos (by rfl), open_ref _ hk _ (Nat.mod_lt _ (by decide))]
    rfl
/-- the first place with something on it, from c on -/
def rayS (S : SCN) (d : Nat) : Nat → Option Nat → Option Nat
  | 0, _ => none
  | _ + 1, none => none
  | n + 1, some q => if onS S q = 0 then rayS S d n (stepP (cW S) (cH S) q d) else some q
/-- what a shine meets: 1 where the parish ends -/
def meetsS (S : SCN) (s d : Nat) : Nat := match rayS S d 8 (stepP (cW S) (cH S) (cSh S s 1) d) with
  | some q => onS S q
  | none => 1
/-- n steps from c on the widest board -/
def itN (d : Nat) : Nat → Option Nat → Option Nat
  | 0, c => c
  | _ + 1, none => none
  | n + 1, some q => itN d n (stepP 8 8 q d)
theorem itN_out : ∀ d, d < 8 → ∀ q, q < 64 → itN d 8 (some q) = none := by decide +kernel
theorem stepP_in {w h q d q2 : Nat} (hw : w ≤ 8) (hh : h ≤ 8) (e : stepP w h q d = some q2) : inP w h q2 ∧ stepP 8 8 q d = some q2 := by
  unfold stepP at e ⊢
  by_cases c : 0 ≤ ((q % 8 : Nat) : Int) + dX d ∧ ((q % 8 : Nat) : Int) + dX d < w ∧ 0 ≤ ((q / 8 : Nat) : Int) + dY d ∧ ((q / 8 : Nat) : Int) + dY d < h
  · rw [if_pos c] at e
    obtain ⟨c1, c2, c3, c4⟩ := c
    rw [if_pos ⟨c1, by omega, c3, by omega⟩]
    refine ⟨?_, e⟩
    have e2 := Option.some.inj e
    unfold inP
    omega
  · rw [if_neg c] at e
    cases e
theorem itN_none (d : Nat) : ∀ n, itN d n none = none
  | 0 => rfl
  | _ + 1 => rfl
theorem onS_lt {S : SCN} (hS : SW S) (q : Nat) : onS S q < 28 := by
  unfold onS
  cases h1 : fstN (fun k => cAt S k == some q) (cN S) with
  | some k => have := (fstN_out h1).1; have := hS.2.2.1; simp only []; omega
  | none =>
    simp only []
    cases h2 : fstN (fun k => cSh S k 1 == q && !cHd S k) (cS S) with
    | some k => have := (fstN_out h2).1; have := hS.2.2.2.1; simp only []; omega
    | none => simp only []; split <;> omega
theorem itN_step {S : SCN} (hS : SW S) {d m q : Nat} (h : itN d (m + 1) (some q) = none) : itN d m (stepP (cW S) (cH S) q d) = none := by
  cases e : stepP (cW S) (cH S) q d with
  | none => exact itN_none d m
  | some q2 =>
    have h2 : itN d m (stepP 8 8 q d) = none := h
    rw [(stepP_in hS.1.2 hS.2.1.2 e).2] at h2
    exact h2
theorem rayS_fuel {S : SCN} (hS : SW S) {d : Nat} : ∀ (m n : Nat) (c : Option Nat), itN d m c = none → m ≤ n → rayS S d n c = rayS S d m c := by
  intro m
  induction m with
  | zero =>
    intro n c h _
    have h : c = none := h
    subst h
    cases n <;> rfl
  | succ m ih =>
    intro n c h hn
    obtain ⟨n, rfl⟩ : ∃ n2, n = n2 + 1 := ⟨n - 1, by omega⟩
    cases c with
    | none => rfl
    | some q =>
      rw [rayS, rayS]
      by_cases e : onS S q = 0
      · rw [if_pos e, if_pos e]
        exact ih n _ (itN_step hS h) (by omega)
      · rw [if_neg e, if_neg e]
theorem m1_ne {q : Nat} (hq : q < 2 ^ 31) : ¬ nI q = -1 := fun h => by
  have h1 : (nI q).toInt = (-1 : Int32).toInt := congrArg Int32.toInt h
  rw [nI_toInt hq] at h1
  have h2 : (-1 : Int32).toInt = -1 := by decide
  omega
theorem l23_spec {M : MM} {o : Nat} {P : PARD} {S : SCN} (h : MS M o P S) {d : Nat} (hd : d < 8) (k46 : Int32 → Option Int32) : ∀ (m n : Nat) (c : Option Nat), (∀ q, c = some q → inP (cW S) (cH S) q) → itN d m c = none → m < n → fX12_meets_l23 M k46 n (nI d) (opI c) = k46 (opI (rayS S d m c)) := by
  have hS := h.2.2.2.2.1
  intro m
  induction m with
  | zero =>
    intro n c _ hi hn
    have hi : c = none := hi
    subst hi
    obtain ⟨n, rfl⟩ : ∃ n2, n = n2 + 1 := ⟨n - 1, by omega⟩
    rw [fX12_meets_l23.eq_2, if_pos (show opI none = -1 from rfl)]
    rfl
  | succ m ih =>
    intro n c hc hi hn
    obtain ⟨n, rfl⟩ : ∃ n2, n = n2 + 1 := ⟨n - 1, by omega⟩
    rw [fX12_meets_l23.eq_2]
    cases c with
    | none => rw [if_pos (show opI none = -1 from rfl)]; rfl
    | some q =>
      have hq := inP_64 hS.2.1.2 (hc q rfl)
      have ho := onS_lt hS q
      show (if nI q = -1 then _ else _) = _
      rw [if_neg (m1_ne (by omega)), show opI (some q) = nI q from rfl, on_spec h hq, bd_s, rayS]
      by_cases e : onS S q = 0
      · rw [if_pos e, e, nl0, eqn_t rfl, beside_spec h hq hd, bd_s]
        exact ih n _ (fun q2 e2 => (stepP_in hS.1.2 hS.2.1.2 e2).1) (itN_step hS hi) (by omega)
      · rw [if_neg e, nl0, eqn_f e (by omega) (by decide)]
        rfl
theorem meets_ref {M : MM} {o : Nat} {P : PARD} {S : SCN} (h : MS M o P S) {s d : Nat} (hs : s < cS S) (hd : d < 8) : fX12_meets M (nI s) (nI d) = some (if (!cSt S s && opensS S s d) then (if 10 ≤ meetsS S s d then nI (meetsS S s d - 10) else -1) else -1) := by
  have hS := h.2.2.2.2.1
  have h8 := hS.2.2.2.1
  have e97 : gI M 97 s = nI (cSh S s 1) := h.2.2.2.2.2.2.2.2.2.2.1 s hs 1 (by decide)
  have hin := (hS.2.2.2.2.2.2 s hs).2.1
  have hq := inP_64 hS.2.1.2 hin
  unfold fX12_meets
  rw [isOpen_spec h hs hd, bd_s]
  cases hc : (!cSt S s && opensS S s d) with
  | false => simp only [if_true, Bool.false_eq_true, if_false]
  | true =>
    simp only [if_true]
    rw [if_neg (by decide), gd_inb (by omega) (by decide), ix_nI (by omega), e97, beside_spec h hq hd, bd_s]
    have hi : itN d 7 (stepP (cW S) (cH S) (cSh S s 1) d) = none := itN_step hS (itN_out d hd _ hq)
    rw [l23_spec h hd _ 7 FU _ (fun q2 e2 => (stepP_in hS.1.2 hS.2.1.2 e2).1) hi (by decide)]
    unfold meetsS
    rw [rayS_fuel hS 7 8 _ hi (by decide)]
    cases hr : rayS S d 7 (stepP (cW S) (cH S) (cSh S s 1) d) with
    | none =>
      simp only []
      show fX12_meets_j46 M (-1) = _
      unfold fX12_meets_j46
      rw [if_pos rfl, if_neg (by decide)]
    | some q =>
      have hq2 : q < 64 := by
        have : ∀ (m : Nat) (c : Option Nat), (∀ q, c = some q → inP (cW S) (cH S) q) → ∀ q, rayS S d m c = some q → q < 64 := by
          intro m
          induction m with
          | zero => intro c _ q e; cases e
          | succ m ih =>
            intro c hc q e
            cases c with
            | none => cases e
            | some q0 =>
              rw [rayS] at e
              by_cases e0 : onS S q0 = 0
              · rw [if_pos e0] at e
                exact ih _ (fun q2 e2 => (stepP_in hS.1.2 hS.2.1.2 e2).1) q e
              · rw [if_neg e0] at e
                cases e
                exact inP_64 hS.2.1.2 (hc _ rfl)
        exact this 7 _ (fun q2 e2 => (stepP_in hS.1.2 hS.2.1.2 e2).1) q hr
      have ho := onS_lt hS q
      simp only []
      show fX12_meets_j46 M (nI q) = _
      unfold fX12_meets_j46
      rw [if_neg (m1_ne (by omega)), on_spec h hq2, bd_s, nl10]
      rcases Nat.lt_or_ge (onS S q) 10 with c | c
      · rw [le_f c (by decide), if_neg (by omega)]
      · rw [le_t c (by omega), bd_s, if_pos c, pk_sub c]
/-! ===== loops; bits ===== -/
/-- a loop of n turns: its state, what holds at turn i, what is handed on -/
theorem lpk {κ σ τ R : Type} (F : κ → Nat → σ → Option R) (A : κ → τ → Option R) (n : Nat) (I : Nat → σ → Prop) (J : τ → Prop)
    (step : ∀ i s, i < n → I i s → (∃ s2, I (i + 1) s2 ∧ ∀ k f, F k (f + 1) s = F k f s2) ∨ (∃ t, J t ∧ ∀ k f, F k (f + 1) s = A k t))
    (fin : ∀ s, I n s → ∃ t, J t ∧ ∀ k f, F k (f + 1) s = A k t) : ∀ (m i : Nat) (s : σ), i ≤ n → n - i < m → I i s → ∃ t, J t ∧ ∀ k, F k m s = A k t := by
  intro m
  induction m with
  | zero => intro i s _ h; omega
  | succ m ih =>
    intro i s hi hm hI
    rcases Nat.lt_or_ge i n with h | h
    · rcases step i s h hI with ⟨s2, h1, h2⟩ | ⟨t, h1, h2⟩
      · obtain ⟨t, h3, h4⟩ := ih (i + 1) s2 h (by omega) h1
        exact ⟨t, h3, fun k => by rw [h2 k m]; exact h4 k⟩
      · exact ⟨t, h1, fun k => h2 k m⟩
    · have e : i = n := by omega
      subst e
      obtain ⟨t, h1, h2⟩ := fin s hI
      exact ⟨t, h1, fun k => h2 k m⟩
theorem or_nI (a b : Nat) : nI a ||| nI b = nI (a ||| b) := by
  apply Int32.toBitVec_inj.mp
  rw [Int32.toBitVec_or]
  show BitVec.ofNat 32 a ||| BitVec.ofNat 32 b = BitVec.ofNat 32 (a ||| b)
  rw [BitVec.ofNat_or]
theorem and_nI (a b : Nat) : nI a &&& nI b = nI (a &&& b) := by
  apply Int32.toBitVec_inj.mp
  rw [Int32.toBitVec_and]
  show BitVec.ofNat 32 a &&& BitVec.ofNat 32 b = BitVec.ofNat 32 (a &&& b)
  rw [BitVec.ofNat_and]
theorem xor_nI (a b : Nat) : nI a ^^^ nI b = nI (a ^^^ b) := by
  apply Int32.toBitVec_inj.mp
  rw [Int32.toBitVec_xor]
  show BitVec.ofNat 32 a ^^^ BitVec.ofNat 32 b = BitVec.ofNat 32 (a ^^^ b)
  rw [BitVec.ofNat_xor]
theorem sh_l : ∀ n, n < 32 → ((nI n &&& 31).toBitVec.smod 32).toNat = n := by decide +kernel
theorem sh_u : ∀ n, n < 32 → (((nI n).toUInt32 &&& Int32.toUInt32 31).toBitVec % 32).toNat = n := by decide +kernel
theorem shl_nI {k : Nat} (hk : k < 31) : jshl 1 (nI k) = nI (2 ^ k) := by
  unfold jshl
  have h2 : 2 ^ k < 2 ^ 31 := Nat.pow_lt_pow_right (by decide) hk
  have := pk_shlN (n := 1) (nI k &&& 31) k (sh_l k (by omega)) (by omega)
  rw [Nat.one_mul] at this
  exact this
theorem ushr_nI {m k : Nat} (hm : m < 2 ^ 31) (hk : k < 32) : jushr (nI m) (nI k) = nI (m / 2 ^ k) := by
  unfold jushr
  exact pk_ushrN (by omega) (nI k) k (sh_u k hk)
theorem shr_nI {m k : Nat} (hm : m < 2 ^ 31) (hk : k < 32) : jshr (nI m) (nI k) = nI (m / 2 ^ k) := by
  unfold jshr
  exact pk_shrN hm _ k (sh_l k hk)
theorem and1_nI (m : Nat) : nI m &&& 1 = nI (m % 2) := by
  rw [show (1 : Int32) = nI 1 from rfl, and_nI, Nat.and_one_is_mod]
theorem tb_div (m k : Nat) : m.testBit k = decide (m / 2 ^ k % 2 = 1) := by
  rw [Nat.testBit_eq_decide_div_mod_eq]
/-- a bit of a mask, as the class and as the reference ask for it -/
theorem bit_u0 {α : Type} {m k : Nat} {x y : α} (hm : m < 2 ^ 31) (hk : k < 32) : (if (jushr (nI m) (nI k) &&& 1) = 0 then x else y) = if m.testBit k then y else x := by
  rw [ushr_nI hm hk, and1_nI, tb_div]
  rcases (show m / 2 ^ k % 2 = 0 ∨ m / 2 ^ k % 2 = 1 by omega) with h | h
  · rw [h, if_pos (by rfl), if_neg (by decide)]
  · rw [h, if_neg (by decide), if_pos (by decide)]
theorem bit_s1 {α : Type} {m k : Nat} {x y : α} (hm : m < 2 ^ 31) (hk : k < 32) : (if (jshr (nI m) (nI k) &&& 1) = 1 then x else y) = if m.testBit k then x else y := by
  rw [shr_nI hm hk, and1_nI, tb_div]
  rcases (show m / 2 ^ k % 2 = 0 ∨ m / 2 ^ k % 2 = 1 by omega) with h | h
  · rw [h, if_neg (by decide), if_neg (by decide)]
  · rw [h, if_pos (by rfl), if_pos (by decide)]
theorem bit_un {m k : Nat} (hm : m < 2 ^ 31) (hk : k < 32) : jushr (nI m) (nI k) &&& 1 = nI (if m.testBit k then 1 else 0) := by
  rw [ushr_nI hm hk, and1_nI, tb_div]
  rcases (show m / 2 ^ k % 2 = 0 ∨ m / 2 ^ k % 2 = 1 by omega) with h | h
  · rw [h, if_neg (by decide)]
  · rw [h, if_pos (by decide)]
theorem bit_sn {m k : Nat} (hm : m < 2 ^ 31) (hk : k < 32) : jshr (nI m) (nI k) &&& 1 = nI (if m.testBit k then 1 else 0) := by
  rw [shr_nI hm hk, and1_nI, tb_div]
  rcases (show m / 2 ^ k % 2 = 0 ∨ m / 2 ^ k % 2 = 1 by omega) with h | h
  · rw [h, if_neg (by decide)]
  · rw [h, if_pos (by decide)]
theorem or_lt8 {a b : Nat} (ha : a < 256) (hb : b < 256) : a ||| b < 256 := Nat.or_lt_two_pow (n := 8) ha hb
theorem pow_lt8 {k : Nat} (hk : k < 8) : 2 ^ k < 256 := Nat.pow_lt_pow_right (n := 8) (by decide) hk
theorem tb_pow (k p : Nat) : (2 ^ k).testBit p = decide (k = p) := Nat.testBit_two_pow
theorem tb_or (a b p : Nat) : (a ||| b).testBit p = (a.testBit p || b.testBit p) := Nat.testBit_or a b p
theorem tb_0 (p : Nat) : (0 : Nat).testBit p = false := Nat.zero_testBit p
theorem tb_ge {m p : Nat} (hm : m < 256) (hp : 8 ≤ p) : m.testBit p = false := Nat.testBit_lt_two_pow (Nat.lt_of_lt_of_le hm (Nat.pow_le_pow_right (n := 2) (by decide) hp))
/-- two masks with the same bits below 8 -/
theorem mask_ext {a b : Nat} (ha : a < 256) (hb : b < 256) (h : ∀ p, p < 8 → a.testBit p = b.testBit p) : a = b := by
  apply Nat.eq_of_testBit_eq
  intro p
  rcases Nat.lt_or_ge p 8 with q | q
  · exact h p q
  · rw [tb_ge ha q, tb_ge hb q]
/-- the OR of those that are chosen -/
def orN (f : Nat → Nat) (g : Nat → Bool) : Nat → Nat
  | 0 => 0
  | n + 1 => if g n then orN f g n ||| f n else orN f g n
theorem orN_lt {f : Nat → Nat} {g : Nat → Bool} : ∀ {n : Nat}, (∀ t, t < n → f t < 256) → orN f g n < 256
  | 0, _ => by show 0 < 256; decide
  | n + 1, h => by
    have ih := orN_lt (f := f) (g := g) (n := n) (fun t ht => h t (by omega))
    rw [orN]
    split
    · exact or_lt8 ih (h n (by omega))
    · exact ih
theorem orN_bit {f : Nat → Nat} {g : Nat → Bool} {p : Nat} : ∀ {n : Nat}, (orN f g n).testBit p = true ↔ ∃ t, t < n ∧ g t = true ∧ (f t).testBit p = true
  | 0 => by
    rw [orN, tb_0]
    exact ⟨fun h => (by cases h), fun ⟨t, ht, _⟩ => absurd ht (Nat.not_lt_zero t)⟩
  | n + 1 => by
    have ih := orN_bit (f := f) (g := g) (p := p) (n := n)
    rw [orN]
    by_cases hg : g n = true
    · rw [if_pos hg, tb_or, Bool.or_eq_true, ih]
      constructor
      · rintro (⟨t, h1, h2⟩ | h)
        · exact ⟨t, by omega, h2⟩
        · exact ⟨n, by omega, hg, h⟩
      · rintro ⟨t, h1, h2, h3⟩
        rcases Nat.lt_or_ge t n with q | q
        · exact Or.inl ⟨t, q, h2, h3⟩
        · rw [show t = n by omega] at h3; exact Or.inr h3
    · rw [if_neg hg, ih]
      constructor
      · rintro ⟨t, h1, h2⟩; exact ⟨t, by omega, h2⟩
      · rintro ⟨t, h1, h2, h3⟩
        rcases Nat.lt_or_ge t n with q | q
        · exact ⟨t, q, h2, h3⟩
        · rw [show t = n by omega] at h2; exact absurd h2 hg
theorem orN_cong {f f2 : Nat → Nat} {g g2 : Nat → Bool} : ∀ {n : Nat}, (∀ t, t < n → f t = f2 t) → (∀ t, t < n → g t = g2 t) → orN f g n = orN f2 g2 n
  | 0, _, _ => rfl
  | n + 1, h, h2 => by
    rw [orN, orN, orN_cong (fun t ht => h t (by omega)) (fun t ht => h2 t (by omega)), h n (by omega), h2 n (by omega)]
/-! ===== who is seen, who is near ===== -/
theorem onS_cases {S : SCN} (q : Nat) : onS S q < 2 ∨ (10 ≤ onS S q ∧ onS S q < 10 + cN S) ∨ (20 ≤ onS S q ∧ onS S q < 20 + cS S) := by
  unfold onS
  cases h1 : fstN (fun k => cAt S k == some q) (cN S) with
  | some k => have := (fstN_out h1).1; simp only []; omega
  | none =>
    simp only []
    cases h2 : fstN (fun k => cSh S k 1 == q && !cHd S k) (cS S) with
    | some k => have := (fstN_out h2).1; simp only []; omega
    | none => simp only []; left; split <;> omega
/-- what a shine meets, 1 where it does not look -/
def metS (S : SCN) (s d : Nat) : Nat := if (!cSt S s && opensS S s d) = true then meetsS S s d else 1
theorem metS_cases {S : SCN} (s d : Nat) : metS S s d < 2 ∨ (10 ≤ metS S s d ∧ metS S s d < 10 + cN S) ∨ (20 ≤ metS S s d ∧ metS S s d < 20 + cS S) := by
  unfold metS
  split
  · unfold meetsS
    split
    · exact onS_cases _
    · left; omega
  · left; omega
/-- whom a shine sees, in the first d directions -/
def seenN (S : SCN) (s : Nat) : Nat → Nat
  | 0 => 0
  | d + 1 => if 10 ≤ metS S s d ∧ metS S s d < 20 then seenN S s d ||| 2 ^ (metS S s d - 10) else seenN S s d
/-- which shines it looks at -/
def lookN (S : SCN) (s : Nat) : Nat → Nat
  | 0 => 0
  | d + 1 => if 20 ≤ metS S s d then lookN S s d ||| 2 ^ (metS S s d - 20) else lookN S s d
theorem seenN_lt {S : SCN} (hS : SW S) (s : Nat) : ∀ d, seenN S s d < 256
  | 0 => by show 0 < 256; decide
  | d + 1 => by
    have hN := hS.2.2.1
    have hc := metS_cases (S := S) s d
    rw [seenN]
    split
    · exact or_lt8 (seenN_lt hS s d) (pow_lt8 (by omega))
    · exact seenN_lt hS s d
theorem lookN_lt {S : SCN} (hS : SW S) (s : Nat) : ∀ d, lookN S s d < 256
  | 0 => by show 0 < 256; decide
  | d + 1 => by
    have hN := hS.2.2.2.1
    have hc := metS_cases (S := S) s d
    have hN2 := hS.2.2.1
    rw [lookN]
    split
    · exact or_lt8 (lookN_lt hS s d) (pow_lt8 (by omega))
    · exact lookN_lt hS s d
theorem seenN_bit {S : SCN} (hS : SW S) {s p : Nat} : ∀ {d : Nat}, (seenN S s d).testBit p = true → p < cN S
  | 0, h => by rw [seenN, tb_0] at h; cases h
  | d + 1, h => by
    have hc := metS_cases (S := S) s d
    rw [seenN] at h
    split at h
    · rename_i c
      rw [tb_or, Bool.or_eq_true] at h
      rcases h with h | h
      · exact seenN_bit hS h
      · rw [tb_pow] at h
        have := of_decide_eq_true h
        omega
    · exact seenN_bit hS h
theorem lookN_bit {S : SCN} (hS : SW S) {s p : Nat} : ∀ {d : Nat}, (lookN S s d).testBit p = true → p < cS S
  | 0, h => by rw [lookN, tb_0] at h; cases h
  | d + 1, h => by
    have hc := metS_cases (S := S) s d
    have hN := hS.2.2.1
    rw [lookN] at h
    split at h
    · rename_i c
      rw [tb_or, Bool.or_eq_true] at h
      rcases h with h | h
      · exact lookN_bit hS h
      · rw [tb_pow] at h
        have := of_decide_eq_true h
        omega
    · exact lookN_bit hS h
/-- near: by degree -/
def nearM (S : SCN) : Nat → Nat → Nat
  | 0, s => seenN S s 8
  | k + 1, s => nearM S k s ||| orN (nearM S k) (fun t => (lookN S s 8).testBit t) (cS S)
theorem nearM_lt {S : SCN} (hS : SW S) : ∀ (k s : Nat), nearM S k s < 256
  | 0, s => seenN_lt hS s 8
  | k + 1, s => by
    rw [nearM]
    exact or_lt8 (nearM_lt hS k s) (orN_lt (fun t _ => nearM_lt hS k t))
theorem near_step {S : SCN} {k s p : Nat} : (nearM S (k + 1) s).testBit p = true ↔ (nearM S k s).testBit p = true ∨ ∃ t, t < cS S ∧ (lookN S s 8).testBit t = true ∧ (nearM S k t).testBit p = true := by
  rw [nearM, tb_or, Bool.or_eq_true, orN_bit]
theorem near_bit {S : SCN} (hS : SW S) {p : Nat} : ∀ {k s : Nat}, (nearM S k s).testBit p = true → p < cN S
  | 0, s, h => seenN_bit hS h
  | k + 1, s, h => by
    rcases near_step.mp h with h | ⟨t, _, _, h⟩
    · exact near_bit hS h
    · exact near_bit hS h
theorem near_mono {S : SCN} {s p k : Nat} (h : (nearM S k s).testBit p = true) : ∀ (l : Nat), k ≤ l → (nearM S l s).testBit p = true := by
  intro l hl
  induction l with
  | zero => rw [show k = 0 by omega] at h; exact h
  | succ l ih =>
    rcases Nat.lt_or_ge l k with q | q
    · rw [show k = l + 1 by omega] at h; exact h
    · exact near_step.mpr (Or.inl (ih q))
/-- how many -/
def cntN (p : Nat → Bool) : Nat → Nat
  | 0 => 0
  | n + 1 => cntN p n + if p n then 1 else 0
theorem cntN_le (p : Nat → Bool) : ∀ n, cntN p n ≤ n
  | 0 => Nat.le_refl 0
  | n + 1 => by
    have ih := cntN_le p n
    rw [cntN]
    split <;> omega
theorem cntN_mono {a b : Nat → Bool} : ∀ {n : Nat}, (∀ s, s < n → a s = true → b s = true) → cntN a n ≤ cntN b n
  | 0, _ => Nat.le_refl 0
  | n + 1, h => by
    have ih := cntN_mono (a := a) (b := b) (n := n) (fun s hs => h s (by omega))
    rw [cntN, cntN]
    by_cases e : a n = true
    · rw [if_pos e, if_pos (h n (by omega) e)]; omega
    · rw [if_neg e]; omega
theorem cntN_strict {a b : Nat → Bool} : ∀ {n s : Nat}, (∀ s, s < n → a s = true → b s = true) → s < n → b s = true → a s = false → cntN a n < cntN b n
  | 0, s, _, hs, _, _ => absurd hs (Nat.not_lt_zero s)
  | n + 1, s, h, hs, h1, h2 => by
    rw [cntN, cntN]
    rcases Nat.lt_or_ge s n with q | q
    · have ih := cntN_strict (a := a) (b := b) (fun s hs => h s (by omega)) q h1 h2
      by_cases e : a n = true
      · rw [if_pos e, if_pos (h n (by omega) e)]; omega
      · rw [if_neg e]; omega
    · have e : s = n := by omega
      subst e
      have ih := cntN_mono (a := a) (b := b) (n := s) (fun s hs => h s (by omega))
      rw [if_pos h1, if_neg (by rw [h2]; decide)]
      omega
theorem cntN_cong {a b : Nat → Bool} : ∀ {n : Nat}, (∀ s, s < n → a s = b s) → cntN a n = cntN b n
  | 0, _ => rfl
  | n + 1, h => by rw [cntN, cntN, cntN_cong (fun s hs => h s (by omega)), h n (by omega)]
theorem near_new {S : SCN} {k s p : Nat} (h1 : (nearM S (k + 2) s).testBit p = true) (h2 : (nearM S (k + 1) s).testBit p = false) : ∃ t, t < cS S ∧ (nearM S (k + 1) t).testBit p = true ∧ (nearM S k t).testBit p = false := by
  rcases near_step.mp h1 with h | ⟨t, ht, hl, hn⟩
  · rw [h2] at h; cases h
  · refine ⟨t, ht, hn, ?_⟩
    cases e : (nearM S k t).testBit p with
    | false => rfl
    | true =>
      have := near_step.mpr (Or.inr ⟨t, ht, hl, e⟩)
      rw [h2] at this
      cases this
theorem near_cnt {S : SCN} {p : Nat} : ∀ {k s : Nat}, s < cS S → (nearM S (k + 1) s).testBit p = true → (nearM S k s).testBit p = false → k + 2 ≤ cntN (fun s => (nearM S (k + 1) s).testBit p) (cS S)
  | 0, s, hs, h1, h2 => by
    have m : ∀ s, s < cS S → (nearM S 0 s).testBit p = true → (nearM S 1 s).testBit p = true := fun s _ h => near_step.mpr (Or.inl h)
    have a := cntN_strict (a := fun s => (nearM S 0 s).testBit p) (b := fun s => (nearM S 1 s).testBit p) m hs h1 h2
    rcases near_step.mp h1 with h | ⟨t, ht, hl, hn⟩
    · rw [h2] at h; cases h
    · have b := cntN_strict (a := fun _ => false) (b := fun s => (nearM S 0 s).testBit p) (fun s _ h => by cases h) ht hn rfl
      show 0 + 2 ≤ cntN (fun s => (nearM S 1 s).testBit p) (cS S)
      omega
  | k + 1, s, hs, h1, h2 => by
    obtain ⟨t, ht, h3, h4⟩ := near_new h1 h2
    have ih := near_cnt ht h3 h4
    have m : ∀ s, s < cS S → (nearM S (k + 1) s).testBit p = true → (nearM S (k + 2) s).testBit p = true := fun s _ h => near_step.mpr (Or.inl h)
    have a := cntN_strict (a := fun s => (nearM S (k + 1) s).testBit p) (b := fun s => (nearM S (k + 2) s).testBit p) m hs h1 h2
    show k + 3 ≤ cntN (fun s => (nearM S (k + 2) s).testBit p) (cS S)
    omega
theorem near_stab {S : SCN} {s p : Nat} (hs : s < cS S) : ∀ {k : Nat}, (nearM S k s).testBit p = true → ∃ r, r ≤ k ∧ r < cS S ∧ (nearM S r s).testBit p = true
  | 0, h => ⟨0, Nat.le_refl 0, by omega, h⟩
  | k + 1, h => by
    cases e : (nearM S k s).testBit p with
    | true =>
      obtain ⟨r, h1, h2, h3⟩ := near_stab hs e
      exact ⟨r, by omega, h2, h3⟩
    | false =>
      have a := near_cnt hs h e
      have b := cntN_le (fun s => (nearM S (k + 1) s).testBit p) (cS S)
      exact ⟨k + 1, Nat.le_refl _, by omega, h⟩
/-- the degree, 99 for none -/
def dgN (S : SCN) (s p : Nat) : Nat := (fstN (fun k => (nearM S k s).testBit p) 8).getD 99
theorem dg_le {S : SCN} (hS : SW S) {s p c : Nat} (hs : s < cS S) (hc : c < 99) : dgN S s p ≤ c ↔ (nearM S c s).testBit p = true := by
  have h8 := hS.2.2.2.1
  unfold dgN
  cases hf : fstN (fun k => (nearM S k s).testBit p) 8 with
  | some v =>
    obtain ⟨a, b, d⟩ := fstN_out hf
    simp only [Option.getD_some]
    constructor
    · intro h; exact near_mono b c h
    · intro h
      obtain ⟨r, h1, h2, h3⟩ := near_stab hs h
      rcases Nat.lt_or_ge r v with q | q
      · have := d r q
        simp only [h3] at this
        cases this
      · omega
  | none =>
    simp only [Option.getD_none]
    constructor
    · intro h; omega
    · intro h
      obtain ⟨r, h1, h2, h3⟩ := near_stab hs h
      have := fstN_no hf r (by omega)
      simp only [h3] at this
      cases this
theorem dg_is {S : SCN} (hS : SW S) {s p x : Nat} (hs : s < cS S) (h1 : x = 99 ∨ (x < 99 ∧ (nearM S x s).testBit p = true)) (h2 : ∀ r, r ≤ cS S → (nearM S r s).testBit p = true → x ≤ r) : x = dgN S s p := by
  have h8 := hS.2.2.2.1
  unfold dgN
  cases hf : fstN (fun k => (nearM S k s).testBit p) 8 with
  | some v =>
    obtain ⟨a, b, d⟩ := fstN_out hf
    simp only [Option.getD_some]
    obtain ⟨r, r1, r2, r3⟩ := near_stab hs b
    have x1 := h2 r (by omega) r3
    rcases h1 with h1 | ⟨-, h1⟩
    · omega
    · rcases Nat.lt_or_ge x v with q | q
      · have := d x q
        simp only [h1] at this
        cases this
      · omega
  | none =>
    simp only [Option.getD_none]
    rcases h1 with h1 | ⟨-, h1⟩
    · exact h1
    · obtain ⟨r, r1, r2, r3⟩ := near_stab hs h1
      have := fstN_no hf r (by omega)
      simp only [r3] at this
      cases this
theorem dg_99 (S : SCN) (s p : Nat) : dgN S s p ≤ 99 := by
  unfold dgN
  cases hf : fstN (fun k => (nearM S k s).testBit p) 8 with
  | some v => have := (fstN_out hf).1; simp only [Option.getD_some]; omega
  | none => simp only [Option.getD_none]; omega
/-! ===== the reference lays out degrees ===== -/
theorem MS_fr {M M2 : MM} {o : Nat} {P : PARD} {S : SCN} {L : List Nat} (h : MS M o P S) (hF : Fr L M M2) (hL : L.all (fun c => decide (c < 90 ∨ c = 92 ∨ c = 93 ∨ 101 < c)) = true) : MS M2 o P S := by
  have g : ∀ c k, (c = 90 ∨ c = 91 ∨ (94 ≤ c ∧ c ≤ 101)) → gI M2 c k = gI M c k := fun c k hc => hF.gi (fun q => by have := of_decide_eq_true (List.all_eq_true.mp hL c q); omega) k
  obtain ⟨h1, h2, h3, h4, h5, h6, h7, h8, h9, h10, h11, h12, h12b, bo, h13, h14⟩ := h
  refine ⟨by rw [g 90 _ (by omega)]; exact h1, MP_congr h3 h2 (fun i _ => g 91 _ (by omega)), h3, h4, h5, h6, h7, by rw [g 90 _ (by omega)]; exact h8, by rw [g 90 _ (by omega)]; exact h9, fun k hk => ⟨?_, ?_⟩, fun k hk j hj => ?_, fun k hk => ?_, h12b, bo, by rw [g 90 _ (by omega)]; exact h13, h14⟩
  · rw [g 94 _ (by omega)]; exact (h10 k hk).1
  · rw [g 95 _ (by omega)]; exact (h10 k hk).2
  · rw [g (96 + j) _ (by omega)]; exact h11 k hk j hj
  · rw [g 101 _ (by omega)]; exact h12 k hk
theorem met_ref {M : MM} {o : Nat} {P : PARD} {S : SCN} (h : MS M o P S) {s d : Nat} (hs : s < cS S) (hd : d < 8) : fX12_meets M (nI s) (nI d) = some (if 10 ≤ metS S s d then nI (metS S s d - 10) else -1) := by
  rw [meets_ref h hs hd]
  unfold metS
  by_cases e : (!cSt S s && opensS S s d) = true
  · rw [if_pos e, if_pos e]
  · rw [if_neg e, if_neg e, if_neg (by decide)]
def DV (M : MM) (dv : Nat → Nat → Nat) : Prop := ∀ s p, s < 8 → p < 8 → gI M 102 (8 * s + p) = nI (dv s p)
def joinV (dv : Nat → Nat → Nat) (t p : Nat) : Nat := if dv t p = 99 then 99 else dv t p + 1
def joinD (dv : Nat → Nat → Nat) (s t p0 : Nat) (s2 p : Nat) : Nat := if s2 = s ∧ p < p0 then (if dv s p ≤ joinV dv t p then dv s p else joinV dv t p) else dv s2 p
theorem joins_j42 {M : MM} {x s t p v : Nat} (hD : gI M 102 (8 * s + p) = nI x) (hb : x ≤ 99) (hs : s < 8) (hp : p < 8) (hv : v ≤ 100) (k2 : MM → Int32 → Int32 → Int32 → Option MM) : fX12_joins_j42 k2 M (nI s) (nI t) (nI p) (nI v) = k2 (if x ≤ v then M else sI M 102 (8 * s + p) (nI v)) (nI s) (nI t) (nI (p + 1)) := by
  unfold fX12_joins_j42
  simp (disch := omega) only [nl8, pk_mul, nI_add, nI_1, gd_inb, ix_nI, bnd_r]
  rw [hD]
  by_cases h : x ≤ v
  · rw [le_t h (by omega), if_pos h]
  · rw [le_f (by omega) (by omega), if_neg h]
theorem DV_join {M : MM} {dv : Nat → Nat → Nat} {s t i : Nat} (hD : DV M (joinD dv s t i)) (hs : s < 8) (hi : i < 8) : DV (if dv s i ≤ joinV dv t i then M else sI M 102 (8 * s + i) (nI (joinV dv t i))) (joinD dv s t (i + 1)) := by
  intro s2 p h1 h2
  by_cases e : s2 = s ∧ p = i
  · obtain ⟨rfl, rfl⟩ := e
    have hd := hD s2 p h1 h2
    unfold joinD at hd ⊢
    rw [if_neg (by omega)] at hd
    rw [if_pos (show s2 = s2 ∧ p < p + 1 from ⟨rfl, by omega⟩)]
    by_cases c : dv s2 p ≤ joinV dv t p
    · rw [if_pos c, if_pos c]; exact hd
    · rw [if_neg c, if_neg c, gI_eq]
  · have hd := hD s2 p h1 h2
    have e2 : joinD dv s t (i + 1) s2 p = joinD dv s t i s2 p := by
      unfold joinD
      by_cases c : s2 = s ∧ p < i
      · rw [if_pos c, if_pos ⟨c.1, by omega⟩]
      · rw [if_neg c, if_neg (by omega)]
    rw [e2, ← hd]
    by_cases c : dv s i ≤ joinV dv t i
    · rw [if_pos c]
    · rw [if_neg c, gI_nk _ _ _ _ _ _ (by omega)]
theorem joins_spec {M : MM} {dv : Nat → Nat → Nat} {s t : Nat} (hs : s < 8) (ht : t < 8) (hD : DV M dv) (hb : ∀ s p, s < 8 → p < 8 → dv s p ≤ 99) : ∃ M2, fX12_joins M (nI s) (nI t) = some M2 ∧ Fr [102] M M2 ∧ DV M2 (joinD dv s t 8) := by
  have key := lpk (κ := Unit) (σ := MM × Nat) (fun _ f st => fX12_joins_l2 f st.1 (nI s) (nI t) (nI st.2)) (fun _ M2 => some M2) 8
    (fun i st => i = st.2 ∧ Fr [102] M st.1 ∧ DV st.1 (joinD dv s t i)) (fun M2 => Fr [102] M M2 ∧ DV M2 (joinD dv s t 8)) ?_ ?_ FU 0 (M, 0) (by omega) (by decide) ⟨rfl, Fr.rfl, ?_⟩
  · obtain ⟨M2, h1, h2⟩ := key
    exact ⟨M2, h2 (), h1.1, h1.2⟩
  · rintro i ⟨M1, j⟩ hi ⟨rfl, hF, hD1⟩
    have hd1 : gI M1 102 (8 * t + i) = nI (dv t i) := by
      have := hD1 t i ht hi
      unfold joinD at this
      rw [if_neg (by omega)] at this
      exact this
    have hd2 : gI M1 102 (8 * s + i) = nI (dv s i) := by
      have := hD1 s i hs hi
      unfold joinD at this
      rw [if_neg (by omega)] at this
      exact this
    have b1 := hb t i ht hi
    have b2 := hb s i hs hi
    refine Or.inl ⟨(if dv s i ≤ joinV dv t i then M1 else sI M1 102 (8 * s + i) (nI (joinV dv t i)), i + 1), ⟨rfl, ?_, DV_join hD1 hs hi⟩, fun _ f => ?_⟩
    · split
      · exact hF
      · exact hF.pI (by decide)
    · show fX12_joins_l2 (f + 1) M1 (nI s) (nI t) (nI i) = _
      rw [fX12_joins_l2.eq_2]
      simp (disch := omega) only [nl8, pk_mul, nI_add, gd_inb, ix_nI, le_f]
      rw [hd1]
      by_cases c : dv t i = 99
      · rw [nl99, eqn_t c, joins_j42 hd2 b2 hs hi (by omega)]
        unfold joinV
        rw [if_pos c]
      · rw [nl99, eqn_f c (by omega) (by decide), nI_1, joins_j42 hd2 b2 hs hi (by omega)]
        unfold joinV
        rw [if_neg c]
  · rintro ⟨M1, j⟩ ⟨rfl, hF, hD1⟩
    refine ⟨M1, ⟨hF, hD1⟩, fun _ f => ?_⟩
    show fX12_joins_l2 (f + 1) M1 (nI s) (nI t) (nI 8) = _
    rw [fX12_joins_l2.eq_2, nl8, le_t (Nat.le_refl _) (by decide)]
  · intro s2 p h1 h2
    unfold joinD
    rw [if_neg (by omega)]
    exact hD s2 p h1 h2
/-- the first phase: 0 where seen, else 99 -/
def PH (M : MM) (f : Nat → Nat) : Prop := ∀ s p, s < 8 → p < 8 → gI M 102 (8 * s + p) = nI (if (f s).testBit p then 0 else 99)
def fS (S : SCN) (i d s : Nat) : Nat := if s < i then seenN S s 8 else if s = i then seenN S i d else 0
theorem fS_at (S : SCN) (i d : Nat) : fS S i d i = seenN S i d := by
  unfold fS
  rw [if_neg (Nat.lt_irrefl i), if_pos rfl]
theorem fS_ne (S : SCN) {i s : Nat} (d d2 : Nat) (h : s ≠ i) : fS S i d s = fS S i d2 s := by
  unfold fS
  rw [if_neg h, if_neg h]
theorem seenN_yes {S : SCN} {s d : Nat} (h : 10 ≤ metS S s d ∧ metS S s d < 20) : seenN S s (d + 1) = seenN S s d ||| 2 ^ (metS S s d - 10) := by rw [seenN, if_pos h]
theorem seenN_no {S : SCN} {s d : Nat} (h : ¬ (10 ≤ metS S s d ∧ metS S s d < 20)) : seenN S s (d + 1) = seenN S s d := by rw [seenN, if_neg h]
theorem lookN_yes {S : SCN} {s d : Nat} (h : 20 ≤ metS S s d) : lookN S s (d + 1) = lookN S s d ||| 2 ^ (metS S s d - 20) := by rw [lookN, if_pos h]
theorem lookN_no {S : SCN} {s d : Nat} (h : ¬ 20 ≤ metS S s d) : lookN S s (d + 1) = lookN S s d := by rw [lookN, if_neg h]
theorem PH_cong {M : MM} {f g : Nat → Nat} (h : PH M f) (e : ∀ s, s < 8 → f s = g s) : PH M g := fun s p hs hp => by rw [← e s hs]; exact h s p hs hp
theorem laysOut_dirs {M : MM} {o : Nat} {P : PARD} {S : SCN} (hM : MS M o P S) {i : Nat} (hi : i < cS S) (hP : PH M (fS S i 0)) (hL : ∀ s, s < i → gI M 103 s = nI (lookN S s 8)) (hz : gI M 103 i = nI 0) :
    ∃ M2, (Fr [102, 103] M M2 ∧ PH M2 (fS S (i + 1) 0) ∧ ∀ s, s < i + 1 → gI M2 103 s = nI (lookN S s 8)) ∧ ∀ k103, fX12_laysOut_l41 k103 FU M (nI i) (nI 0) = k103 M2 (nI i) := by
  have hS := hM.2.2.2.2.1
  have h8 := hS.2.2.2.1
  have hN := hS.2.2.1
  refine lpk (κ := MM → Int32 → Option MM) (σ := MM × Nat) (fun k f st => fX12_laysOut_l41 k f st.1 (nI i) (nI st.2)) (fun k M2 => k M2 (nI i)) 8
    (fun d st => d = st.2 ∧ Fr [102, 103] M st.1 ∧ PH st.1 (fS S i d) ∧ (∀ s, s < i → gI st.1 103 s = nI (lookN S s 8)) ∧ gI st.1 103 i = nI (lookN S i d)) _ ?_ ?_ FU 0 (M, 0) (by omega) (by decide) ⟨rfl, Fr.rfl, hP, hL, hz⟩
  · rintro d ⟨M1, j⟩ hd ⟨rfl, hF, hP1, hL1, hz1⟩
    left
    have hM1 : MS M1 o P S := MS_fr hM hF (by decide)
    have hc := metS_cases (S := S) i d
    have hm := met_ref hM1 hi hd
    have sl := seenN_lt hS i d
    have ll := lookN_lt hS i d
    have cgr : ∀ s, s < 8 → ¬ (10 ≤ metS S i d ∧ metS S i d < 20) → fS S i d s = fS S i (d + 1) s := fun s _ q => by
      by_cases e : s = i
      · rw [e, fS_at, fS_at, seenN_no q]
      · exact fS_ne S d (d + 1) e
    by_cases c1 : metS S i d < 2
    · refine ⟨(M1, d + 1), ⟨rfl, hF, PH_cong hP1 (fun s hs => cgr s hs (by omega)), hL1, ?_⟩, fun k f => ?_⟩
      · rw [lookN, if_neg (by omega)]; exact hz1
      · show fX12_laysOut_l41 k (f + 1) M1 (nI i) (nI d) = fX12_laysOut_l41 k f M1 (nI i) (nI (d + 1))
        rw [fX12_laysOut_l41.eq_2, nl8, le_f hd (by decide), hm, if_neg (by omega), bd_s, show fX12_isIn (-1) 0 7 = 0 by decide, if_pos rfl]
        unfold fX12_laysOut_j76
        rw [if_pos (by decide), nI_1]
    · by_cases c2 : metS S i d < 20
      · refine ⟨(sI M1 102 (8 * i + (metS S i d - 10)) 0, d + 1), ⟨rfl, hF.pI (by decide), ?_, fun s hs => ?_, ?_⟩, fun k f => ?_⟩
        · intro s p hs hp
          show gI (sI M1 102 (8 * i + (metS S i d - 10)) 0) 102 (8 * s + p) = _
          by_cases e : s = i ∧ p = metS S i d - 10
          · obtain ⟨rfl, rfl⟩ := e
            rw [gI_eq, fS_at, seenN_yes ⟨by omega, c2⟩, tb_or, tb_pow, decide_eq_true rfl, Bool.or_true, if_pos rfl]
            rfl
          · rw [gI_nk _ _ _ _ _ _ (by omega), hP1 s p hs hp]
            by_cases e2 : s = i
            · subst e2
              rw [fS_at, fS_at, seenN_yes ⟨by omega, c2⟩, tb_or, tb_pow, decide_eq_false (by omega), Bool.or_false]
            · rw [fS_ne S d (d + 1) e2]
        · rw [gI_ne _ _ _ _ _ _ (by decide)]; exact hL1 s hs
        · rw [gI_ne _ _ _ _ _ _ (by decide), lookN, if_neg (by omega)]; exact hz1
        · show fX12_laysOut_l41 k (f + 1) M1 (nI i) (nI d) = fX12_laysOut_l41 k f (sI M1 102 (8 * i + (metS S i d - 10)) 0) (nI i) (nI (d + 1))
          rw [fX12_laysOut_l41.eq_2, nl8, le_f hd (by decide), hm, if_pos (by omega), bd_s, nl7, isIn_t (nI_pos (by omega)) (show ¬ nI 7 < nI (metS S i d - 10) from nI_nlt (by omega) (by omega)), if_neg (by decide)]
          simp (disch := omega) only [pk_mul, nI_add, gd_inb, ix_nI, bnd_r]
          unfold fX12_laysOut_j76
          rw [nl10, lt_t (by omega) (by decide), nI_1]
      · refine ⟨(sI M1 103 i (nI (lookN S i (d + 1))), d + 1), ⟨rfl, hF.pI (by decide), ?_, fun s hs => ?_, ?_⟩, fun k f => ?_⟩
        · have hq : PH M1 (fS S i (d + 1)) := PH_cong hP1 (fun s hs => cgr s hs (by omega))
          intro s p hs hp
          show gI (sI M1 103 i _) 102 (8 * s + p) = _
          rw [gI_ne _ _ _ _ _ _ (by decide)]
          exact hq s p hs hp
        · show gI (sI M1 103 i _) 103 s = _
          rw [gI_nk _ _ _ _ _ _ (by omega)]; exact hL1 s hs
        · show gI (sI M1 103 i _) 103 i = _
          rw [gI_eq]
        · show fX12_laysOut_l41 k (f + 1) M1 (nI i) (nI d) = fX12_laysOut_l41 k f (sI M1 103 i (nI (lookN S i (d + 1)))) (nI i) (nI (d + 1))
          rw [fX12_laysOut_l41.eq_2, nl8, le_f hd (by decide), hm, if_pos (by omega), bd_s, nl7, isIn_f (Or.inr (show nI 7 < nI (metS S i d - 10) from nI_lt (by omega) (by omega))), if_pos rfl]
          unfold fX12_laysOut_j76
          rw [nl10, lt_f (by omega) (by omega), pk_sub (by omega), shl_nI (by omega)]
          simp (disch := omega) only [gd_inb, ix_nI, bnd_r, nI_1]
          rw [hz1, or_nI, lookN, if_pos (by omega), show metS S i d - 10 - 10 = metS S i d - 20 by omega]
  · rintro ⟨M1, j⟩ ⟨rfl, hF, hP1, hL1, hz1⟩
    refine ⟨M1, ⟨hF, PH_cong hP1 (fun s _ => ?_), fun s hs => ?_⟩, fun k f => ?_⟩
    · unfold fS
      by_cases e3 : s < i
      · rw [if_pos e3, if_pos (by omega)]
      · by_cases e2 : s = i
        · subst e2; rw [if_neg e3, if_pos rfl, if_pos (by omega)]
        · rw [if_neg e3, if_neg e2, if_neg (by omega)]
          by_cases e4 : s = i + 1
          · rw [if_pos e4]; rfl
          · rw [if_neg e4]
    · rcases Nat.lt_or_ge s i with q | q
      · exact hL1 s q
      · rw [show s = i by omega]; exact hz1
    · show fX12_laysOut_l41 k (f + 1) M1 (nI i) (nI 8) = _
      rw [fX12_laysOut_l41.eq_2, nl8, le_t (Nat.le_refl _) (by decide)]
theorem laysOut_first {M : MM} {o : Nat} {P : PARD} {S : SCN} (hM : MS M o P S) (hP : PH M (fun _ => 0)) :
    ∃ M2, (Fr [102, 103] M M2 ∧ PH M2 (fun s => if s < cS S then seenN S s 8 else 0) ∧ ∀ s, s < cS S → gI M2 103 s = nI (lookN S s 8)) ∧ ∀ k109, fX12_laysOut_l24 k109 FU M (nI 0) = k109 M2 := by
  have hS := hM.2.2.2.2.1
  have h8 := hS.2.2.2.1
  refine lpk (κ := MM → Option MM) (σ := MM × Nat) (fun k f st => fX12_laysOut_l24 k f st.1 (nI st.2)) (fun k M2 => k M2) (cS S)
    (fun i st => i = st.2 ∧ Fr [102, 103] M st.1 ∧ PH st.1 (fS S i 0) ∧ (∀ s, s < i → gI st.1 103 s = nI (lookN S s 8))) _ ?_ ?_ FU 0 (M, 0) (by omega) (by show _ < 5000; omega) ⟨rfl, Fr.rfl, PH_cong hP (fun s _ => ?_), fun s hs => absurd hs (Nat.not_lt_zero s)⟩
  · rintro i ⟨M1, j⟩ hi ⟨rfl, hF, hP1, hL1⟩
    left
    have hF2 : Fr [102, 103] M1 (sI M1 103 i 0) := Fr.rfl.pI (by decide)
    have hM2 : MS (sI M1 103 i 0) o P S := MS_fr hM (hF.trans hF2) (by decide)
    obtain ⟨M2, ⟨h1, h2, h3⟩, h4⟩ := laysOut_dirs hM2 hi (fun s p hs hp => by rw [gI_ne _ _ _ _ _ _ (by decide)]; exact hP1 s p hs hp) (fun s hs => by rw [gI_nk _ _ _ _ _ _ (by omega)]; exact hL1 s hs) (by rw [gI_eq]; rfl)
    refine ⟨(M2, i + 1), ⟨rfl, (hF.trans hF2).trans h1, h2, h3⟩, fun k f => ?_⟩
    have h14 : gI M1 90 14 = nI (cS S) := (MS_fr hM hF (by decide)).2.2.2.2.2.2.2.2.1
    show fX12_laysOut_l24 k (f + 1) M1 (nI i) = fX12_laysOut_l24 k f M2 (nI (i + 1))
    rw [fX12_laysOut_l24.eq_2, h14, le_f hi (by omega)]
    simp (disch := omega) only [gd_inb, ix_nI, bnd_r]
    rw [nl0]
    have h4' := h4 (fun M46 y47 => fX12_laysOut_l24 k f M46 (y47 + 1))
    rw [nl0] at h4'
    rw [h4', nI_1]
  · rintro ⟨M1, j⟩ ⟨rfl, hF, hP1, hL1⟩
    have h14 : gI M1 90 14 = nI (cS S) := (MS_fr hM hF (by decide)).2.2.2.2.2.2.2.2.1
    refine ⟨M1, ⟨hF, PH_cong hP1 (fun s _ => ?_), hL1⟩, fun k f => ?_⟩
    · unfold fS
      by_cases e : s < cS S
      · rw [if_pos e, if_pos e]
      · rw [if_neg e, if_neg e]
        by_cases e4 : s = cS S
        · rw [if_pos e4]; rfl
        · rw [if_neg e4]
    · show fX12_laysOut_l24 k (f + 1) M1 (nI (cS S)) = _
      rw [fX12_laysOut_l24.eq_2, h14, le_t (Nat.le_refl _) (by omega)]
  · unfold fS
    rw [if_neg (by omega)]
    by_cases e4 : s = 0
    · rw [if_pos e4]; rfl
    · rw [if_neg e4]
