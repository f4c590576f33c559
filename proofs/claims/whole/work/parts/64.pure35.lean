/-! ===== feed ===== -/
def bytN (x : Int32) (s : Nat) : Nat := x.toBitVec.toNat / 2 ^ s % 256
theorem bytN_lt (x : Int32) (s : Nat) : bytN x s < 256 := Nat.mod_lt _ (by decide)
theorem tb_byt (x : Int32) (s i : Nat) : (bytN x s).testBit i = (decide (i < 8) && x.toBitVec.getLsbD (s + i)) := by
  unfold bytN
  rw [show (256 : Nat) = 2 ^ 8 from rfl, Nat.testBit_mod_two_pow, Nat.testBit_div_two_pow]
  rw [show i + s = s + i by omega]
  rfl
theorem byt_ref (x : Int32) {s : Nat} (hs : s ≤ 24) : jshr x (nI s) &&& 255 = nI (bytN x s) := by
  apply Int32.toBitVec_inj.mp
  apply BitVec.eq_of_getLsbD_eq
  intro i hi
  have e1 : (jshr x (nI s)).toBitVec = x.toBitVec.sshiftRight s := by
    unfold jshr
    rw [Int32.toBitVec_shiftRight, BitVec.sshiftRight_eq', sh_l s (by omega)]
  have e2 : (255 : Int32).toBitVec.getLsbD i = decide (i < 8) := by
    have : ∀ i, i < 32 → (255 : Int32).toBitVec.getLsbD i = decide (i < 8) := by decide +kernel
    exact this i hi
  rw [Int32.toBitVec_and, BitVec.getLsbD_and, e1, e2, BitVec.getLsbD_sshiftRight]
  show _ = (BitVec.ofNat 32 (bytN x s)).getLsbD i
  rw [BitVec.getLsbD_ofNat, tb_byt, decide_eq_true hi, Bool.true_and]
  by_cases c : i < 8
  · rw [decide_eq_true c, if_pos (by omega), decide_eq_false (by omega)]
    simp
  · rw [decide_eq_false c]
    simp
theorem i8_mod (m : Nat) : (nI m).toInt8.toInt32 = (nI (m % 256)).toInt8.toInt32 := by
  apply Int32.toInt_inj.mp
  rw [lg_i2b_toInt, lg_i2b_toInt, nI_toInt (show m % 256 < 2 ^ 31 by omega)]
  show ((Int32.ofNat m).toInt).bmod (2 ^ 8) = _
  rw [Int32.toInt_ofNat', Int.bmod_bmod_of_dvd (by decide)]
  have := Int.emod_bmod (m : Int) 256
  rw [show ((m % 256 : Nat) : Int) = (m : Int) % 256 from rfl]
  exact this.symm
theorem byt_cls (x : Int32) {s : Nat} (hs : s < 32) : vp_nar .byte ((Int32.toInt8 (jushr x (nI s))).toInt32) = (nI (bytN x s)).toInt8.toInt32 := by
  have e : jushr x (nI s) = nI (x.toBitVec.toNat / 2 ^ s) := by
    have hx : x = nI x.toBitVec.toNat := Int32.toBitVec_inj.mp (by show _ = BitVec.ofNat 32 _; simp)
    have := pk_ushrN (n := x.toBitVec.toNat) x.toBitVec.isLt (nI s) s (sh_u s hs)
    rw [← hx] at this
    exact this
  rw [vp_nar_byte, e, i8_mod]
  apply Int32.toInt_inj.mp
  rw [lg_i2b_toInt, lg_i2b_toInt, lg_i2b_toInt, Int.bmod_bmod]
  rfl
/-- bytes that are fed: a tape with one more -/
def fdT (T : TOLD) (b : Nat) : TOLD := (T.1, tLen T + 1, tFlt T, tPlc T, fun i => if i = tLen T then b else tTap T i, T.2.2.2.2.2)
theorem fd_cls {M : MM} {T : TOLD} (hW : TW T) (hC : CT M 1 T) (hl : tLen T < 600) {b : Nat} (hb : b < 256) : CT (sI (sI M 39 (tLen T) ((nI b).toInt8.toInt32)) 1 6 (nI (tLen T + 1))) 1 (fdT T b) ∧ TW (fdT T b) := by
  obtain ⟨a1, a2, a3, a4, a5, a6, a7, a8, a9, a10⟩ := hC
  have n0 := hW.1 0 (by decide)
  have n1 := hW.1 1 (by decide)
  have n2 := hW.1 2 (by decide)
  have n3 := hW.1 3 (by decide)
  have g : ∀ c k, c ≠ 1 → c ≠ 39 → gI (sI (sI M 39 (tLen T) ((nI b).toInt8.toInt32)) 1 6 (nI (tLen T + 1))) c k = gI M c k := fun c k h1 h2 => by rw [gI_ne _ _ _ _ _ _ h1, gI_ne _ _ _ _ _ _ h2]
  have g1 : ∀ k, k ≠ 6 → gI (sI (sI M 39 (tLen T) ((nI b).toInt8.toInt32)) 1 6 (nI (tLen T + 1))) 1 k = gI M 1 k := fun k h => by rw [gI_nk _ _ _ _ _ _ h, gI_ne _ _ _ _ _ _ (by decide)]
  have cg : ∀ c, c ≠ 1 → c ≠ 39 → (sI (sI M 39 (tLen T) ((nI b).toInt8.toInt32)) 1 6 (nI (tLen T + 1))).1 c = M.1 c := fun c h1 h2 => by rw [sI_ne h1, sI_ne h2]
  refine ⟨⟨fun s hs => by rw [g _ _ (by omega) (by omega)]; exact a1 s hs, gI_eq _ _ _ _, by rw [g1 _ (by decide)]; exact a3, by rw [g1 _ (by decide)]; exact a4, fun i hi => ?_, fun k hk => ?_, fun k hk j hj => ?_, fun k hk => ⟨?_, fun i hi j hj => ?_⟩, fun k hk => ⟨?_, fun i hi => ?_⟩, fun k hk => ?_⟩, hW.1, by show tLen T + 1 ≤ 600; omega, fun i hi => ?_, hW.2.2.2⟩
  · show gI (sI (sI M 39 (tLen T) ((nI b).toInt8.toInt32)) 1 6 (nI (tLen T + 1))) 39 i = (nI (if i = tLen T then b else tTap T i)).toInt8.toInt32
    rw [gI_ne _ _ _ _ _ _ (by decide)]
    by_cases e : i = tLen T
    · rw [e, gI_eq, if_pos rfl]
    · rw [gI_nk _ _ _ _ _ _ e, if_neg e]; exact a5 i hi
  · have hk : k < tNum T 0 := hk
    exact CP_congr (a6 k hk) (fun c h1 h2 => cg c (by omega) (by omega))
  · have hk : k < tNum T 1 := hk
    rw [g _ _ (by omega) (by omega)]; exact a7 k hk j hj
  · have hk : k < tNum T 2 := hk
    rw [g _ _ (by omega) (by omega)]; exact (a8 k hk).1
  · have hk : k < tNum T 2 := hk
    rw [g _ _ (by omega) (by omega)]; exact (a8 k hk).2 i hi j hj
  · have hk : k < tNum T 3 := hk
    rw [g _ _ (by omega) (by omega)]; exact (a9 k hk).1
  · have hk : k < tNum T 3 := hk
    rw [g _ _ (by omega) (by omega)]; exact (a9 k hk).2 i hi
  · rw [g _ _ (by omega) (by omega)]; exact a10 k hk
  · show (if i = tLen T then b else tTap T i) < 256
    split
    · exact hb
    · exact hW.2.2.1 i hi
/-- the class adds a byte; what else is there stays -/
theorem add1_cls {M : MM} {T : TOLD} (hW : TW T) (hC : CT M 1 T) {x : Int32} {s : Nat} (hs : s < 32) (hl : tLen T < 600) : ∃ M2, CT M2 1 (fdT T (bytN x s)) ∧ TW (fdT T (bytN x s)) ∧ Fr [1, 39] M M2 ∧ ∀ f, fX9_addBytes_l3 (f + 1) M x (nI s) = fX9_addBytes_l3 f M2 x (nI s + (-8)) := by
  obtain ⟨h1, h2⟩ := fd_cls hW hC hl (bytN_lt x s)
  refine ⟨_, h1, h2, (Fr.rfl.pI (by decide)).pI (by decide), fun f => ?_⟩
  have e6 : gI M 1 6 = nI (tLen T) := hC.2.1
  have e7 : gI (sI M 39 (tLen T) ((nI (bytN x s)).toInt8.toInt32)) 1 6 = nI (tLen T) := by rw [gI_ne _ _ _ _ _ _ (by decide)]; exact e6
  rw [fX9_addBytes_l3.eq_2, if_neg (nI_pos (by omega)), e6, show (600 : Int32) = nI 600 from rfl, le_f hl (by decide), gd_inb hl (by decide), ix_nI (by omega), bnd_r, byt_cls x hs, bnd_r, e7, nI_1]
/-- four bytes of an int -/
def fd4 (T : TOLD) (x : Int32) : TOLD := fdT (fdT (fdT (fdT T (bytN x 24)) (bytN x 16)) (bytN x 8)) (bytN x 0)
theorem fd4_len (T : TOLD) (x : Int32) : tLen (fd4 T x) = tLen T + 4 := rfl
theorem add4_cls {M : MM} {T : TOLD} (hW : TW T) (hC : CT M 1 T) (x : Int32) (hl : tLen T + 4 ≤ 600) : ∃ M2, fX9_addBytes M x = some M2 ∧ CT M2 1 (fd4 T x) ∧ TW (fd4 T x) ∧ Fr [1, 39] M M2 := by
  obtain ⟨M1, a1, a2, a3, a4⟩ := add1_cls hW hC (x := x) (s := 24) (by decide) (by omega)
  obtain ⟨M2, b1, b2, b3, b4⟩ := add1_cls a2 a1 (x := x) (s := 16) (by decide) (by show tLen T + 1 < 600; omega)
  obtain ⟨M3, c1, c2, c3, c4⟩ := add1_cls b2 b1 (x := x) (s := 8) (by decide) (by show tLen T + 1 + 1 < 600; omega)
  obtain ⟨M4, d1, d2, d3, d4⟩ := add1_cls c2 c1 (x := x) (s := 0) (by decide) (by show tLen T + 1 + 1 + 1 < 600; omega)
  refine ⟨M4, ?_, d1, d2, ((a3.trans b3).trans c3).trans d3⟩
  unfold fX9_addBytes
  show fX9_addBytes_l3 (4995 + 1 + 1 + 1 + 1 + 1) M x (nI 24) = some M4
  rw [a4, show nI 24 + (-8) = nI 16 by decide, b4, show nI 16 + (-8) = nI 8 by decide, c4, show nI 8 + (-8) = nI 0 by decide, d4, fX9_addBytes_l3.eq_2, if_pos (by decide)]
/-! the reference -/
theorem fd_ref {M : MM} {T : TOLD} (hW : TW T) (hM : MT M 0 T) (hl : tLen T < 600) {b : Nat} : MT (sI (sI M 91 (10 + tLen T) (nI b)) 91 4 (nI (tLen T + 1))) 0 (fdT T b) := by
  obtain ⟨a1, a2, a3, a4, a5, a6, a7, a8, a9⟩ := hM
  have n0 := hW.1 0 (by decide)
  have n1 := hW.1 1 (by decide)
  have n2 := hW.1 2 (by decide)
  have n3 := hW.1 3 (by decide)
  have g : ∀ i, i ≠ 4 → i ≠ 10 + tLen T → gI (sI (sI M 91 (10 + tLen T) (nI b)) 91 4 (nI (tLen T + 1))) 91 i = gI M 91 i := fun i h1 h2 => by rw [gI_nk _ _ _ _ _ _ h1, gI_nk _ _ _ _ _ _ h2]
  refine ⟨fun s hs => by rw [g _ (by omega) (by omega)]; exact a1 s hs, gI_eq _ _ _ _, by rw [g _ (by decide) (by omega)]; exact a3, by rw [g _ (by decide) (by omega)]; exact a4, fun i hi => ?_, fun k hk => ?_, fun k hk j hj => ?_, fun k hk => ⟨?_, fun i hi j hj => ?_⟩, fun k hk i hi => ?_⟩
  · show gI (sI (sI M 91 (10 + tLen T) (nI b)) 91 4 (nI (tLen T + 1))) 91 (0 + 10 + i) = nI (if i = tLen T then b else tTap T i)
    rw [gI_nk _ _ _ _ _ _ (by omega)]
    by_cases e : i = tLen T
    · rw [e, if_pos rfl, show 0 + 10 + tLen T = 10 + tLen T by omega, gI_eq]
    · rw [if_neg e, gI_nk _ _ _ _ _ _ (by omega)]; exact a5 i hi
  · have hk : k < tNum T 0 := hk
    exact MP_congr (hW.2.2.2.1 k hk) (a6 k hk) (fun i hi => g _ (by omega) (by omega))
  · have hk : k < tNum T 1 := hk
    rw [g _ (by omega) (by omega)]; exact a7 k hk j hj
  · have hk : k < tNum T 2 := hk
    rw [g _ (by omega) (by omega)]; exact (a8 k hk).1
  · have hk : k < tNum T 2 := hk
    have hi : i < (tEve T k).1 := hi
    rw [g _ (by omega) (by omega)]; exact (a8 k hk).2 i hi j hj
  · have hk : k < tNum T 3 := hk
    rw [g _ (by omega) (by omega)]; exact a9 k hk i hi
/-- the i-th byte of five ints -/
def fvI (x1 x2 x3 x4 x5 : Int32) (i : Nat) : Int32 := if i < 4 then x1 else if i < 8 then x2 else if i < 12 then x3 else if i < 16 then x4 else x5
def fdN (x1 x2 x3 x4 x5 : Int32) (T : TOLD) : Nat → TOLD
  | 0 => T
  | i + 1 => fdT (fdN x1 x2 x3 x4 x5 T i) (bytN (fvI x1 x2 x3 x4 x5 i) (24 - 8 * (i % 4)))
theorem fdN_len (x1 x2 x3 x4 x5 : Int32) (T : TOLD) : ∀ i, tLen (fdN x1 x2 x3 x4 x5 T i) = tLen T + i
  | 0 => rfl
  | i + 1 => by
    have := fdN_len x1 x2 x3 x4 x5 T i
    show tLen (fdN x1 x2 x3 x4 x5 T i) + 1 = _
    omega
theorem fdN_TW {x1 x2 x3 x4 x5 : Int32} {T : TOLD} (hW : TW T) : ∀ i, tLen T + i ≤ 600 → TW (fdN x1 x2 x3 x4 x5 T i)
  | 0, _ => hW
  | i + 1, h => by
    have ih := fdN_TW (x1 := x1) (x2 := x2) (x3 := x3) (x4 := x4) (x5 := x5) hW i (by omega)
    have hl := fdN_len x1 x2 x3 x4 x5 T i
    refine ⟨ih.1, by show tLen (fdN x1 x2 x3 x4 x5 T i) + 1 ≤ 600; omega, fun k hk => ?_, ih.2.2.2⟩
    show (if k = tLen (fdN x1 x2 x3 x4 x5 T i) then bytN _ _ else tTap (fdN x1 x2 x3 x4 x5 T i) k) < 256
    split
    · exact bytN_lt _ _
    · exact ih.2.2.1 k hk
theorem fdN_20 (x1 x2 x3 x4 x5 : Int32) (T : TOLD) : fdN x1 x2 x3 x4 x5 T 20 = fd4 (fd4 (fd4 (fd4 (fd4 T x1) x2) x3) x4) x5 := rfl
theorem feed_ref {M : MM} {T : TOLD} (hW : TW T) (hM : MT M 0 T) (hl : tLen T + 20 ≤ 600) (x1 x2 x3 x4 x5 : Int32) : ∃ M2, (MT M2 0 (fdN x1 x2 x3 x4 x5 T 20) ∧ Fr [91] M M2 ∧ ∀ i, 1130 ≤ i → gI M2 91 i = gI M 91 i) ∧ ∀ k : MM → Option (Int32 × MM), fX12_feed_l20 k FU M x1 x2 x3 x4 x5 (nI 0) = k M2 := by
  refine lpk (κ := MM → Option (Int32 × MM)) (σ := MM × Nat) (fun k f st => fX12_feed_l20 k f st.1 x1 x2 x3 x4 x5 (nI st.2)) (fun k M2 => k M2) 20
    (fun i st => i = st.2 ∧ MT st.1 0 (fdN x1 x2 x3 x4 x5 T i) ∧ Fr [91] M st.1 ∧ ∀ x, 1130 ≤ x → gI st.1 91 x = gI M 91 x) _ ?_ ?_ FU 0 (M, 0) (by omega) (by decide) ⟨rfl, hM, Fr.rfl, fun _ _ => rfl⟩
  · rintro i ⟨M1, i2⟩ hi ⟨rfl, b1, b2, b3⟩
    left
    simp only [] at b1 b2 b3
    have hlen := fdN_len x1 x2 x3 x4 x5 T i
    have hW1 := fdN_TW (x1 := x1) (x2 := x2) (x3 := x3) (x4 := x4) (x5 := x5) hW i (by omega)
    have e4 : gI M1 91 4 = nI (tLen T + i) := by rw [← hlen]; exact b1.2.1
    have em : nI i - nI i / 4 * 4 = nI (i % 4) := pk_rem (d := 4) (by omega) (by decide) (by decide)
    have j73 : ∀ (k20 : MM → Int32 → Int32 → Int32 → Int32 → Int32 → Int32 → Option (Int32 × MM)) (w : Int32), fX12_feed_j73 k20 M1 x1 x2 x3 x4 x5 (nI i) w = k20 (sI (sI M1 91 (10 + (tLen T + i)) (nI (bytN w (24 - 8 * (i % 4))))) 91 4 (nI (tLen T + i + 1))) x1 x2 x3 x4 x5 (nI (i + 1)) := fun k20 w => by
      unfold fX12_feed_j73
      rw [show ix 4 = 4 by decide, e4, nl10, nI_add, gd_inb (by omega) (by decide), ix_nI (by omega), bnd_r, em, show (24 : Int32) = nI 24 from rfl, nl8, pk_mul, pk_sub (by omega), byt_ref w (by omega), bnd_r, gI_nk _ _ _ _ _ _ (by omega), e4, nI_1, nI_1]
    have hmt := fd_ref hW1 b1 (by omega) (b := bytN (fvI x1 x2 x3 x4 x5 i) (24 - 8 * (i % 4)))
    rw [hlen] at hmt
    refine ⟨(sI (sI M1 91 (10 + (tLen T + i)) (nI (bytN (fvI x1 x2 x3 x4 x5 i) (24 - 8 * (i % 4))))) 91 4 (nI (tLen T + i + 1)), i + 1), ⟨rfl, hmt, (b2.pI (by decide)).pI (by decide), fun x hx => ?_⟩, fun k f => ?_⟩
    · show gI (sI (sI M1 91 _ _) 91 4 _) 91 x = _
      rw [gI_nk _ _ _ _ _ _ (by omega), gI_nk _ _ _ _ _ _ (by omega)]; exact b3 x hx
    · show fX12_feed_l20 k (f + 1) M1 x1 x2 x3 x4 x5 (nI i) = _
      rw [fX12_feed_l20.eq_2, nl20, le_f hi (by decide), nl4, nl8, show (12 : Int32) = nI 12 from rfl, show (16 : Int32) = nI 16 from rfl]
      unfold fvI
      by_cases c1 : i < 4
      · rw [le_f c1 (by decide), j73, if_pos c1]
      · rw [le_t (by omega) (by omega), if_neg c1]
        by_cases c2 : i < 8
        · rw [le_f c2 (by decide), j73, if_pos c2]
        · rw [le_t (by omega) (by omega), if_neg c2]
          by_cases c3 : i < 12
          · rw [le_f c3 (by decide), j73, if_pos c3]
          · rw [le_t (by omega) (by omega), if_neg c3]
            by_cases c4 : i < 16
            · rw [le_f c4 (by decide), j73, if_pos c4]
            · rw [le_t (by omega) (by omega), if_neg c4, j73]
  · rintro ⟨M1, i2⟩ ⟨rfl, b1, b2, b3⟩
    refine ⟨M1, ⟨b1, b2, b3⟩, fun k f => ?_⟩
    show fX12_feed_l20 k (f + 1) M1 x1 x2 x3 x4 x5 (nI 20) = _
    rw [fX12_feed_l20.eq_2, nl20, le_t (Nat.le_refl _) (by decide)]
theorem e0 : E0 Inv := by
  intro K M x1 x2 x3 x4 x5 hI
  obtain ⟨hK, T, I, hW, hC, hM, hB, hIm⟩ := id hI
  have e6 : gI M 1 6 = nI (tLen T) := hC.2.1
  have e4 : gI M 91 4 = nI (tLen T) := hM.2.1
  have h600 := hW.2.1
  by_cases hl : tLen T + 20 ≤ 600
  · obtain ⟨M1, a1, a2, a3, a4⟩ := add4_cls hW hC x1 (by omega)
    obtain ⟨M2, b1, b2, b3, b4⟩ := add4_cls a3 a2 x2 (by rw [fd4_len]; omega)
    obtain ⟨M3, c1, c2, c3, c4⟩ := add4_cls b3 b2 x3 (by rw [fd4_len, fd4_len]; omega)
    obtain ⟨M4, d1, d2, d3, d4⟩ := add4_cls c3 c2 x4 (by rw [fd4_len, fd4_len, fd4_len]; omega)
    obtain ⟨M5, f1, f2, f3, f4⟩ := add4_cls d3 d2 x5 (by rw [fd4_len, fd4_len, fd4_len, fd4_len]; omega)
    have hF : Fr [1, 39] M M5 := (((a4.trans b4).trans c4).trans d4).trans f4
    obtain ⟨M6, ⟨g1, g2, g3⟩, g4⟩ := feed_ref hW (fr_MT hW hM hF (by decide)) hl x1 x2 x3 x4 x5
    rw [fdN_20] at g1
    have k : ∀ c, c ≠ 1 → c ≠ 39 → c ≠ 91 → M6.1 c = M.1 c := fun c h1 h2 h3 => by rw [(g2 c (by simp [h3])).1, (hF c (by simp [h1, h2])).1]
    refine ⟨nI (tLen T + 20), M5, M6, ?_, ?_, ⟨hK.1, RD_congr hK.2 (k 47 (by decide) (by decide) (by decide))⟩, _, I, f3, CT_congr f3 f2 (fun c h1 h2 => (g2 c (by simp; omega)).1), g1, BN_congr hB (k 60 (by decide) (by decide) (by decide)) (k 73 (by decide) (by decide) (by decide)), IM_congr hIm (fun i hi => by rw [g3 i hi, hF.gi (by decide)]) (k 92 (by decide) (by decide) (by decide)) (fun c hc => k c (by omega) (by omega) (by omega))⟩
    · unfold fX11_feed
      rw [e6, nl20, nI_add, show (600 : Int32) = nI 600 from rfl, le_t hl (by decide), a1, bd_s, b1, bd_s, c1, bd_s, d1, bd_s, f1, bd_s, f2.2.1]
      rfl
    · unfold fX12_feed
      have e4' : gI M5 91 (ix 4) = nI (tLen T) := by rw [show ix 4 = 4 by decide, hF.gi (by decide)]; exact e4
      rw [e4', nl20, nI_add, show (600 : Int32) = nI 600 from rfl, le_t hl (by decide)]
      refine (g4 _).trans ?_
      rw [show ix 4 = 4 by decide, show gI M6 91 4 = nI (tLen T + 20) from g1.2.1]
  · refine ⟨-1, M, M, ?_, ?_, hI⟩
    · unfold fX11_feed
      rw [e6, nl20, nI_add, show (600 : Int32) = nI 600 from rfl, le_f (by omega) (by omega)]
    · unfold fX12_feed
      rw [show ix 4 = 4 by decide, e4, nl20, nI_add, show (600 : Int32) = nI 600 from rfl, le_f (by omega) (by omega)]
