/-! ===== text: a token of the reference ===== -/
theorem whN_lt {tp : Nat → Nat} {s : Nat} : ∀ k, (∀ j, j < k → tp (s + j) - 96 < 32) → whN tp s k < 32 ^ k
  | 0, _ => Nat.zero_lt_one
  | k + 1, h => by
    have h1 := whN_lt k (fun j hj => h j (by omega))
    have h2 := h k (by omega)
    rw [whN, Nat.pow_succ]
    omega
def wcT (tp : Nat → Nat) (len s : Nat) : Nat := if tkL tp len s - s ≤ 8 then wcN (whN tp s (tkL tp len s - s)) else 99
def rkN (tp : Nat → Nat) (len s : Nat) : Nat := if s < len then (if isLb (tp s) = true then (if wcT tp len s = 99 then 4 else 3) else if isDb (tp s) = true then (if tkD tp len s - s ≤ 2 then 1 else 4) else if tp s = 59 then 2 else 4) else 0
theorem wcR_le (h : Nat) : ∀ n w, w + n ≤ 20 → wcR h n w ≤ 99
  | 0, _, _ => Nat.le_refl _
  | n + 1, w, hw => by
    rw [wcR]
    split
    · omega
    · exact wcR_le h n (w + 1) (by omega)
theorem wcT_le (tp : Nat → Nat) (len s : Nat) : wcT tp len s ≤ 99 := by
  unfold wcT
  split
  · exact wcR_le _ 20 0 (by decide)
  · exact Nat.le_refl _
/-- the reference's token -/
def TKm (M : MM) (tp : Nat → Nat) (len s : Nat) : Prop := gI M 90 3 = nI (tkE tp len s) ∧ gI M 90 4 = nI s ∧ gI M 90 5 = nI (rkN tp len s) ∧ (rkN tp len s = 1 → gI M 90 6 = nI (dvN tp s (tkD tp len s - s))) ∧ (rkN tp len s = 3 → gI M 90 7 = nI (wcT tp len s))
theorem adv_ref {M : MM} {tp : Nat → Nat} {len pos : Nat} (h : TPm M tp len) (h3 : gI M 90 3 = nI pos) (hp : pos ≤ len) : ∃ M2, fX12_advance M = some M2 ∧ W90 [3, 4, 5, 6, 7] M M2 ∧ TKm M2 tp len (tkS tp len pos) := by
  have hl := h.2.1
  obtain ⟨M1, ⟨a1, a2⟩, a3⟩ := sk_ref 600 pos M FU h h3 hp (by omega) (by show _ < 5000; omega)
  have hs : tkS tp len pos ≤ len := runE_le _ _ _ _ hp
  have a2 : gI M1 90 3 = nI (tkS tp len pos) := a2
  unfold fX12_advance
  simp only [a3]
  generalize tkS tp len pos = s at *
  have hM1 := TPm_w h a1 (by decide)
  have w2 : W90 [3, 4, 5, 6, 7] M (sI M1 90 4 (nI s)) := (a1.mono (by decide)).pI (by decide)
  have hM2 : TPm (sI M1 90 4 (nI s)) tp len := TPm_w h w2 (by decide)
  have e3 : gI (sI M1 90 4 (nI s)) 90 3 = nI s := by rw [gI_nk _ _ _ _ _ _ (by decide)]; exact a2
  have e4 : gI (sI M1 90 4 (nI s)) 90 4 = nI s := gI_eq _ _ _ _
  have ht : s < len → tp s < 256 := fun c => (h.2.2 s (by omega)).2
  rw [a2, bnd_r, e3, byte_ref hM2 hs, bd_s, rb_l ht, rb_d ht]
  generalize sI M1 90 4 (nI s) = M3 at *
  by_cases c : s < len
  · rw [if_pos (show (0 : Int32) ≤ rbI tp len s by unfold rbI; rw [if_pos c, nl0]; exact nI_le (by omega) (by have := ht c; omega)), decide_eq_true c, Bool.true_and, Bool.true_and, bI_0, bI_0]
    cases el : isLb (tp s) with
    | true =>
      rw [if_pos rfl]
      obtain ⟨M4, ⟨b1, b2⟩, b3⟩ := lt_ref (s := s) 600 s M3 FU hM2 e3 e4 (Nat.le_refl s) hs (by omega) (by show _ < 5000; omega)
      have b2 : gI M4 90 3 = nI (tkL tp len s) := b2
      have b4 : gI M4 90 4 = nI s := (b1.2 4 (by decide)).trans e4
      have hge : s ≤ tkL tp len s := runE_ge _ _ _ _
      have hle : tkL tp len s ≤ len := runE_le _ _ _ _ hs
      have b3 := fun kk => b3 kk
      simp only [show min (s - s) 8 = 0 by omega, show whN tp s 0 = 0 from rfl] at b3
      rw [show (0 : Int64) = lN 0 from rfl, b3]
      have hcode : (if (gI M4 90 3 - gI M4 90 4) ≤ 8 then fX12_advance_j162 M4 (fX12_wordOf (lN (whN tp s (min (runE (fun j => isLb (tp j)) len 600 s - s) 8)))) else fX12_advance_j162 M4 99) = fX12_advance_j162 M4 (nI (wcT tp len s)) := by
        rw [b2, b4, pk_sub hge, nl8]
        unfold wcT
        by_cases z : tkL tp len s - s ≤ 8
        · rw [le_t z (by decide), if_pos z]
          show fX12_advance_j162 M4 (fX12_wordOf (lN (whN tp s (min (tkL tp len s - s) 8)))) = _
          rw [show min (tkL tp len s - s) 8 = tkL tp len s - s by omega, word_ref]
          have hb : whN tp s (tkL tp len s - s) < 32 ^ (tkL tp len s - s) := whN_lt _ (fun j hj => by
            have := (runE_all (fun j => isLb (tp j)) len 600 s (s + j) (by omega) (by show s + j < tkL tp len s; omega)).1
            have := of_decide_eq_true this
            omega)
          have : 32 ^ (tkL tp len s - s) ≤ 32 ^ 8 := Nat.pow_le_pow_right (by decide) z
          exact Nat.lt_of_lt_of_le hb (Nat.le_trans this (by decide))
        · rw [le_f (by omega) (by omega), if_neg z]; rfl
      rw [hcode]
      have w4 : W90 [3, 4, 5, 6, 7] M (sI M4 90 7 (nI (wcT tp len s))) := (w2.trans (b1.mono (by decide))).pI (by decide)
      have hwc := wcT_le tp len s
      refine ⟨sI (sI M4 90 7 (nI (wcT tp len s))) 90 5 (nI (if wcT tp len s = 99 then 4 else 3)), ?_, w4.pI (by decide), ?_, ?_, ?_, fun z => ?_, fun _ => ?_⟩
      · unfold fX12_advance_j162 fX12_advance_j180
        rw [bnd_r, gI_eq, bnd_r, bnd_r, nl99]
        by_cases z : wcT tp len s = 99
        · rw [eqn_t z, if_pos z]; rfl
        · rw [eqn_f z (by omega) (by decide), if_neg z]; rfl
      · rw [gI_nk _ _ _ _ _ _ (by decide), gI_nk _ _ _ _ _ _ (by decide), b2]
        unfold tkE; rw [if_pos c, if_pos el]
      · rw [gI_nk _ _ _ _ _ _ (by decide), gI_nk _ _ _ _ _ _ (by decide), b4]
      · rw [gI_eq]; unfold rkN; rw [if_pos c, if_pos el]
      · unfold rkN at z; rw [if_pos c, if_pos el] at z; split at z <;> omega
      · rw [gI_nk _ _ _ _ _ _ (by decide), gI_eq]
    | false =>
      rw [if_neg Bool.false_ne_true]
      cases ed : isDb (tp s) with
      | true =>
        rw [if_pos rfl, bnd_r]
        obtain ⟨M4, ⟨b1, b2, b6⟩, b3⟩ := dg_ref (s := s) 600 s (sI M3 90 6 0) FU (TPm_w hM2 (W90.rfl.pI (by decide : (6 : Nat) ∈ [6])) (by decide)) (by rw [gI_nk _ _ _ _ _ _ (by decide)]; exact e3) (by rw [gI_nk _ _ _ _ _ _ (by decide)]; exact e4) (Nat.le_refl s) (by rw [gI_eq, show min (s - s) 2 = 0 by omega]; rfl) hs (by omega) (by show _ < 5000; omega)
        have b2 : gI M4 90 3 = nI (tkD tp len s) := b2
        have b6 : gI M4 90 6 = nI (dvN tp s (min (tkD tp len s - s) 2)) := b6
        have b4 : gI M4 90 4 = nI s := (b1.2 4 (by decide)).trans (by rw [gI_nk _ _ _ _ _ _ (by decide)]; exact e4)
        have hge : s ≤ tkD tp len s := runE_ge _ _ _ _
        have hle : tkD tp len s ≤ len := runE_le _ _ _ _ hs
        have w4 : W90 [3, 4, 5, 6, 7] M M4 := (w2.pI (by decide)).trans (b1.mono (by decide))
        rw [b3, b2, b4, pk_sub hge, nl2]
        refine ⟨sI M4 90 5 (nI (if tkD tp len s - s ≤ 2 then 1 else 4)), ?_, w4.pI (by decide), ?_, ?_, ?_, fun z => ?_, fun z => ?_⟩
        · unfold fX12_advance_j280
          rw [bnd_r, bnd_r]
          by_cases z : tkD tp len s - s ≤ 2
          · rw [le_t z (by decide), if_pos z]; rfl
          · rw [le_f (by omega) (by omega), if_neg z]; rfl
        · rw [gI_nk _ _ _ _ _ _ (by decide), b2]
          unfold tkE; rw [if_pos c, el, if_neg Bool.false_ne_true, if_pos ed]
        · rw [gI_nk _ _ _ _ _ _ (by decide), b4]
        · rw [gI_eq]; unfold rkN; rw [if_pos c, el, if_neg Bool.false_ne_true, if_pos ed]
        · unfold rkN at z; rw [if_pos c, el, if_neg Bool.false_ne_true, if_pos ed] at z
          split at z
          · rename_i z2
            rw [gI_nk _ _ _ _ _ _ (by decide), b6, show min (tkD tp len s - s) 2 = tkD tp len s - s by omega]
          · omega
        · unfold rkN at z; rw [if_pos c, el, if_neg Bool.false_ne_true, if_pos ed] at z; split at z <;> omega
      | false =>
        rw [if_neg Bool.false_ne_true, nI_1, bnd_r, show (59 : Int32) = nI 59 from rfl, rb_e ht (by decide)]
        refine ⟨sI (sI M3 90 3 (nI (s + 1))) 90 5 (nI (if tp s = 59 then 2 else 4)), ?_, (w2.pI (by decide)).pI (by decide), ?_, ?_, ?_, fun z => ?_, fun z => ?_⟩
        · unfold fX12_advance_j308
          rw [bnd_r, bnd_r]
          by_cases z : tp s = 59
          · rw [if_pos ⟨c, z⟩, if_pos z]; rfl
          · rw [if_neg (fun q => z q.2), if_neg z]; rfl
        · rw [gI_nk _ _ _ _ _ _ (by decide), gI_eq]
          unfold tkE; rw [if_pos c, el, if_neg Bool.false_ne_true, ed, if_neg Bool.false_ne_true]
        · rw [gI_nk _ _ _ _ _ _ (by decide), gI_nk _ _ _ _ _ _ (by decide), e4]
        · rw [gI_eq]; unfold rkN; rw [if_pos c, el, if_neg Bool.false_ne_true, ed, if_neg Bool.false_ne_true]
        · unfold rkN at z; rw [if_pos c, el, if_neg Bool.false_ne_true, ed, if_neg Bool.false_ne_true] at z; split at z <;> omega
        · unfold rkN at z; rw [if_pos c, el, if_neg Bool.false_ne_true, ed, if_neg Bool.false_ne_true] at z; split at z <;> omega
  · have r0 : rkN tp len s = 0 := by unfold rkN; rw [if_neg c]
    rw [if_neg (show ¬ (0 : Int32) ≤ rbI tp len s by unfold rbI; rw [if_neg c]; decide)]
    refine ⟨sI M3 90 5 0, by rw [bnd_r], w2.pI (by decide), ?_, ?_, ?_, fun z => by omega, fun z => by omega⟩
    · rw [gI_nk _ _ _ _ _ _ (by decide), e3]; unfold tkE; rw [if_neg c]
    · rw [gI_nk _ _ _ _ _ _ (by decide), e4]
    · rw [gI_eq, r0]; rfl
