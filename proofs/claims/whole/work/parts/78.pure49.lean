/-! ===== text: tokens of the reference ===== -/
def W90 (l : List Nat) (M M2 : MM) : Prop := Fr [90] M M2 ∧ ∀ k, k ∉ l → gI M2 90 k = gI M 90 k
theorem W90.rfl {l : List Nat} {M : MM} : W90 l M M := ⟨Fr.rfl, fun _ _ => _root_.rfl⟩
theorem W90.trans {l : List Nat} {M M1 M2 : MM} (h : W90 l M M1) (h2 : W90 l M1 M2) : W90 l M M2 := ⟨h.1.trans h2.1, fun k hk => (h2.2 k hk).trans (h.2 k hk)⟩
theorem W90.mono {l l2 : List Nat} {M M2 : MM} (h : W90 l M M2) (hl : ∀ c, c ∈ l → c ∈ l2) : W90 l2 M M2 := ⟨h.1, fun k hk => h.2 k (fun q => hk (hl k q))⟩
theorem W90.pI {l : List Nat} {M M2 : MM} (h : W90 l M M2) {k : Nat} {v : Int32} (hk : k ∈ l) : W90 l M (sI M2 90 k v) :=
  ⟨h.1.pI (by decide), fun j hj => by
    have hne : j ≠ k := fun e => hj (by rw [e]; exact hk)
    rw [gI_nk _ _ _ _ _ _ hne]; exact h.2 j hj⟩
/-- the tape in the reference -/
def TPm (M : MM) (tp : Nat → Nat) (len : Nat) : Prop := gI M 90 2 = nI len ∧ len ≤ 600 ∧ ∀ i, i < 600 → gI M 91 (10 + i) = nI (tp i) ∧ tp i < 256
theorem TPm_w {M M2 : MM} {tp : Nat → Nat} {len : Nat} {l : List Nat} (h : TPm M tp len) (hw : W90 l M M2) (h2 : 2 ∉ l) : TPm M2 tp len :=
  ⟨(hw.2 2 h2).trans h.1, h.2.1, fun i hi => ⟨by rw [hw.1.gi (by decide)]; exact (h.2.2 i hi).1, (h.2.2 i hi).2⟩⟩
def rbI (tp : Nat → Nat) (len i : Nat) : Int32 := if i < len then nI (tp i) else -1
theorem byte_ref {M : MM} {tp : Nat → Nat} {len i : Nat} (h : TPm M tp len) (hi : i ≤ len) : fX12_byteAt M (nI i) = some (rbI tp len i) := by
  have hl := h.2.1
  unfold fX12_byteAt rbI
  rw [h.1]
  by_cases c : i < len
  · rw [le_f c (by omega), if_pos c, nl10, nI_add, gd_inb (by omega) (by decide), ix_nI (by omega), (h.2.2 i (by omega)).1]
  · rw [le_t (by omega) (by omega), if_neg c]
theorem rb_l {tp : Nat → Nat} {len i : Nat} (ht : i < len → tp i < 256) : fX12_isLetter (rbI tp len i) = bI (decide (i < len) && isLb (tp i)) := by
  unfold rbI
  by_cases c : i < len
  · have := ht c
    rw [if_pos c, decide_eq_true c, Bool.true_and]
    unfold fX12_isLetter isLb
    rw [show (97 : Int32) = nI 97 from rfl, show (122 : Int32) = nI 122 from rfl]
    by_cases a : tp i < 97
    · rw [lt_t a (by decide), decide_eq_false (by omega)]; rfl
    · rw [lt_f (by omega) (by omega)]
      by_cases b : 122 < tp i
      · rw [lt_t b (by omega), decide_eq_false (by omega)]; rfl
      · rw [lt_f (by omega) (by decide), decide_eq_true (by omega)]; rfl
  · rw [if_neg c, decide_eq_false c, Bool.false_and]; rfl
theorem rb_d {tp : Nat → Nat} {len i : Nat} (ht : i < len → tp i < 256) : fX12_isDigit (rbI tp len i) = bI (decide (i < len) && isDb (tp i)) := by
  unfold rbI
  by_cases c : i < len
  · have := ht c
    rw [if_pos c, decide_eq_true c, Bool.true_and]
    unfold fX12_isDigit isDb
    rw [show (48 : Int32) = nI 48 from rfl, show (57 : Int32) = nI 57 from rfl]
    by_cases a : tp i < 48
    · rw [lt_t a (by decide), decide_eq_false (by omega)]; rfl
    · rw [lt_f (by omega) (by omega)]
      by_cases b : 57 < tp i
      · rw [lt_t b (by omega), decide_eq_false (by omega)]; rfl
      · rw [lt_f (by omega) (by decide), decide_eq_true (by omega)]; rfl
  · rw [if_neg c, decide_eq_false c, Bool.false_and]; rfl
theorem rb_e {tp : Nat → Nat} {len i c : Nat} (ht : i < len → tp i < 256) (hc : c < 256) {α : Type} {x y : α} : (if rbI tp len i = nI c then x else y) = if i < len ∧ tp i = c then x else y := by
  unfold rbI
  by_cases h : i < len
  · have := ht h
    rw [if_pos h]
    by_cases e : tp i = c
    · rw [eqn_t e, if_pos ⟨h, e⟩]
    · rw [eqn_f e (by omega) (by omega), if_neg (fun z => e z.2)]
  · rw [if_neg h, if_neg (fun z => m1_ne (q := c) (by omega) z.symm), if_neg (fun z => h z.1)]
theorem sk_ref {tp : Nat → Nat} {len : Nat} : ∀ n i M f, TPm M tp len → gI M 90 3 = nI i → i ≤ len → len ≤ i + n → n < f → ∃ M2, (W90 [3] M M2 ∧ gI M2 90 3 = nI (runE (fun j => isSb (tp j)) len n i)) ∧ ∀ kk, fX12_advance_l0 kk f M = kk M2
  | n, i, M, f + 1, h, h3, h1, h2, hf => by
    have ht : i < len → tp i < 256 := fun c => (h.2.2 i (by have := h.2.1; omega)).2
    have head : ∀ kk, fX12_advance_l0 kk (f + 1) M = if i < len ∧ tp i = 10 then fX12_advance_l0 kk f (sI M 90 3 (nI (i + 1))) else if i < len ∧ tp i = 32 then fX12_advance_l0 kk f (sI M 90 3 (nI (i + 1))) else kk M := fun kk => by
      rw [fX12_advance_l0.eq_2, h3, byte_ref h h1, bd_s, bd_s]
      unfold fX12_advance_j26
      rw [h3, nI_1, bnd_r, nl10, rb_e ht (by decide), show (32 : Int32) = nI 32 from rfl, rb_e ht (by decide)]
    cases n with
    | zero =>
      refine ⟨M, ⟨W90.rfl, by rw [runE]; exact h3⟩, fun kk => ?_⟩
      rw [head, if_neg (fun z => by omega), if_neg (fun z => by omega)]
    | succ n =>
      by_cases c : i < len ∧ isSb (tp i) = true
      · obtain ⟨M2, ⟨a1, a2⟩, a3⟩ := sk_ref n (i + 1) (sI M 90 3 (nI (i + 1))) f (TPm_w h (W90.rfl.pI (by decide : (3 : Nat) ∈ [3])) (by decide)) (gI_eq _ _ _ _) (by omega) (by omega) (by omega)
        refine ⟨M2, ⟨(W90.rfl.pI (by decide)).trans a1, by rw [a2, runE, if_pos c]⟩, fun kk => ?_⟩
        rw [head]
        have := of_decide_eq_true c.2
        by_cases z : tp i = 10
        · rw [if_pos ⟨c.1, z⟩]; exact a3 kk
        · rw [if_neg (fun q => z q.2), if_pos ⟨c.1, by omega⟩]; exact a3 kk
      · refine ⟨M, ⟨W90.rfl, by rw [runE, if_neg c]; exact h3⟩, fun kk => ?_⟩
        rw [head, if_neg (fun z => c ⟨z.1, decide_eq_true (Or.inl z.2)⟩), if_neg (fun z => c ⟨z.1, decide_eq_true (Or.inr z.2)⟩)]
  | _, _, _, 0, _, _, _, _, h => absurd h (Nat.not_lt_zero _)
/-- the number told by the first digits -/
def dvN (tp : Nat → Nat) (s : Nat) : Nat → Nat
  | 0 => 0
  | k + 1 => 10 * dvN tp s k + (tp (s + k) - 48)
theorem dg_ref {tp : Nat → Nat} {len s : Nat} : ∀ n i M f, TPm M tp len → gI M 90 3 = nI i → gI M 90 4 = nI s → s ≤ i → gI M 90 6 = nI (dvN tp s (min (i - s) 2)) → i ≤ len → len ≤ i + n → n < f → ∃ M2, (W90 [3, 6] M M2 ∧ gI M2 90 3 = nI (runE (fun j => isDb (tp j)) len n i) ∧ gI M2 90 6 = nI (dvN tp s (min (runE (fun j => isDb (tp j)) len n i - s) 2))) ∧ ∀ kk, fX12_advance_l198 kk f M = kk M2
  | n, i, M, f + 1, h, h3, h4, hs, h6, h1, h2, hf => by
    have hl := h.2.1
    have ht : i < len → tp i < 256 := fun c => (h.2.2 i (by omega)).2
    have head : ∀ kk, fX12_advance_l198 kk (f + 1) M = if (decide (i < len) && isDb (tp i)) = true then (if 2 ≤ i - s then fX12_advance_l198 kk f (sI M 90 3 (nI (i + 1))) else fX12_advance_l198 kk f (sI (sI M 90 6 (10 * nI (dvN tp s (min (i - s) 2)) + rbI tp len i - 48)) 90 3 (nI (i + 1)))) else kk M := fun kk => by
      rw [fX12_advance_l198.eq_2, h3, byte_ref h h1, bd_s, bd_s, rb_d ht, bI_0, h4, pk_sub hs, h6]
      unfold fX12_advance_j248
      rw [bnd_r, bnd_r, bnd_r, h3, gI_nk _ _ _ _ _ _ (by decide), h3, nI_1, nl2]
      by_cases z : 2 ≤ i - s
      · rw [le_t z (by omega), if_pos z]
      · rw [le_f (by omega) (by decide), if_neg z]
    cases n with
    | zero =>
      refine ⟨M, ⟨W90.rfl, by rw [runE]; exact h3, by rw [runE]; exact h6⟩, fun kk => ?_⟩
      rw [head, decide_eq_false (show ¬ i < len by omega), Bool.false_and, if_neg Bool.false_ne_true]
    | succ n =>
      by_cases c : i < len ∧ isDb (tp i) = true
      · have hd := of_decide_eq_true c.2
        by_cases z : 2 ≤ i - s
        · obtain ⟨M2, ⟨a1, a2, a4⟩, a3⟩ := dg_ref n (i + 1) (sI M 90 3 (nI (i + 1))) f (TPm_w h (W90.rfl.pI (by decide : (3 : Nat) ∈ [3])) (by decide)) (gI_eq _ _ _ _) (by rw [gI_nk _ _ _ _ _ _ (by decide)]; exact h4) (by omega) (by rw [gI_nk _ _ _ _ _ _ (by decide), h6, show min (i + 1 - s) 2 = min (i - s) 2 by omega]) (by omega) (by omega) (by omega)
          refine ⟨M2, ⟨(W90.rfl.pI (by decide)).trans a1, by rw [a2, runE, if_pos c], by rw [a4, runE, if_pos c]⟩, fun kk => ?_⟩
          rw [head, decide_eq_true c.1, c.2, if_pos (show (true && true) = true from rfl), if_pos z]; exact a3 kk
        · have hv : 10 * nI (dvN tp s (min (i - s) 2)) + rbI tp len i - 48 = nI (dvN tp s (min (i + 1 - s) 2)) := by
            unfold rbI
            rw [if_pos c.1, nl10, pk_mul, nI_add, show (48 : Int32) = nI 48 from rfl, pk_sub (by omega), show min (i + 1 - s) 2 = min (i - s) 2 + 1 by omega, dvN, show s + min (i - s) 2 = i by omega]
            congr 1
            omega
          obtain ⟨M2, ⟨a1, a2, a4⟩, a3⟩ := dg_ref n (i + 1) (sI (sI M 90 6 (nI (dvN tp s (min (i + 1 - s) 2)))) 90 3 (nI (i + 1))) f (TPm_w h ((W90.rfl.pI (by decide : (6 : Nat) ∈ [3, 6])).pI (by decide : (3 : Nat) ∈ [3, 6])) (by decide)) (gI_eq _ _ _ _) (by rw [gI_nk _ _ _ _ _ _ (by decide), gI_nk _ _ _ _ _ _ (by decide)]; exact h4) (by omega) (by rw [gI_nk _ _ _ _ _ _ (by decide), gI_eq]) (by omega) (by omega) (by omega)
          refine ⟨M2, ⟨((W90.rfl.pI (by decide)).pI (by decide)).trans a1, by rw [a2, runE, if_pos c], by rw [a4, runE, if_pos c]⟩, fun kk => ?_⟩
          rw [head, decide_eq_true c.1, c.2, if_pos (show (true && true) = true from rfl), if_neg z, hv]; exact a3 kk
      · refine ⟨M, ⟨W90.rfl, by rw [runE, if_neg c]; exact h3, by rw [runE, if_neg c]; exact h6⟩, fun kk => ?_⟩
        rw [head, if_neg (fun z => c (by rw [Bool.and_eq_true] at z; exact ⟨of_decide_eq_true z.1, z.2⟩))]
  | _, _, _, 0, _, _, _, _, _, _, _, h => absurd h (Nat.not_lt_zero _)
