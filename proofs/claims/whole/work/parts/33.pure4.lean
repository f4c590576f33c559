/-! ===== longs' bits (kit/laws/BITS.to-paste) ===== -/
theorem wb_tb (n : Nat) : (lN n).toBitVec = BitVec.ofNat 64 n := rfl
theorem wb_inj {a b : Int64} (h : a.toBitVec = b.toBitVec) : a = b := Int64.toBitVec_inj.mp h
theorem wb_tn {n : Nat} (h : n < 2 ^ 64) : (lN n).toBitVec.toNat = n := by rw [wb_tb, BitVec.toNat_ofNat, Nat.mod_eq_of_lt h]
theorem wb_of (x : Int64) : ∃ n, n < 2 ^ 64 ∧ x = lN n := ⟨x.toBitVec.toNat, x.toBitVec.isLt, wb_inj (by rw [wb_tb]; simp)⟩
theorem wb_of32 (x : Int32) : ∃ n, n < 2 ^ 32 ∧ x = nI n := ⟨x.toBitVec.toNat, x.toBitVec.isLt, Int32.toBitVec_inj.mp (by show _ = BitVec.ofNat 32 _; simp)⟩
theorem wb_c : ∀ k, k < 64 → ((nI k).toInt64 &&& 63) = lN k := by decide +kernel
theorem wb_cu : ∀ k, k < 64 → ((nI k).toInt64.toUInt64 &&& Int64.toUInt64 63) = UInt64.ofNat k := by decide +kernel
theorem wb_sm : ∀ k, k < 64 → (BitVec.ofNat 64 k).smod 64 = BitVec.ofNat 64 k := by decide +kernel
theorem wb_pw {a b : Nat} (h : a ≤ b) : 2 ^ b = 2 ^ a * 2 ^ (b - a) := by rw [← Nat.pow_add]; congr 1; omega
theorem wb_lt2 {a b : Nat} (h : a < b) : 2 ^ a < 2 ^ b := Nat.pow_lt_pow_right (by decide) h
theorem wb_mod (n : Nat) : lN n = lN (n % 2 ^ 64) := wb_inj (by rw [wb_tb, wb_tb]; apply BitVec.eq_of_toNat_eq; rw [BitVec.toNat_ofNat, BitVec.toNat_ofNat, Nat.mod_mod])
theorem wb_shr {n k : Nat} (hn : n < 2 ^ 64) (hk : k < 64) : ((lN n).toUInt64 >>> ((nI k).toInt64.toUInt64 &&& Int64.toUInt64 63)).toInt64 = lN (n / 2 ^ k) := by
  rw [wb_cu k hk]
  apply wb_inj
  apply BitVec.eq_of_toNat_eq
  show ((lN n).toUInt64 >>> UInt64.ofNat k).toNat = (BitVec.ofNat 64 _).toNat
  have h1 : (UInt64.ofNat k).toNat = k := by
    show (BitVec.ofNat 64 k).toNat = k
    rw [BitVec.toNat_ofNat, Nat.mod_eq_of_lt (by omega)]
  have h2 : (lN n).toUInt64.toNat = n := wb_tn hn
  rw [UInt64.toNat_shiftRight, h1, h2, Nat.mod_eq_of_lt hk, Nat.shiftRight_eq_div_pow, BitVec.toNat_ofNat, Nat.mod_eq_of_lt (Nat.lt_of_le_of_lt (Nat.div_le_self _ _) hn)]
theorem wb_shl (n : Nat) {k : Nat} (hk : k < 64) : lN n <<< ((nI k).toInt64 &&& 63) = lN (n * 2 ^ k) := by
  rw [wb_c k hk]
  apply wb_inj
  rw [Int64.toBitVec_shiftLeft, wb_tb, wb_tb, wb_tb, wb_sm k hk]
  apply BitVec.eq_of_toNat_eq
  rw [BitVec.shiftLeft_eq', BitVec.toNat_shiftLeft, BitVec.toNat_ofNat, BitVec.toNat_ofNat, BitVec.toNat_ofNat, Nat.mod_eq_of_lt (show k < 2 ^ 64 by omega), Nat.shiftLeft_eq, Nat.mul_mod, Nat.mod_mod, ← Nat.mul_mod]
theorem wb_and {a b : Nat} (ha : a < 2 ^ 64) (hb : b < 2 ^ 64) : lN a &&& lN b = lN (a &&& b) := by
  apply wb_inj
  rw [Int64.toBitVec_and, wb_tb, wb_tb, wb_tb]
  apply BitVec.eq_of_toNat_eq
  rw [BitVec.toNat_and, BitVec.toNat_ofNat, BitVec.toNat_ofNat, BitVec.toNat_ofNat, Nat.mod_eq_of_lt ha, Nat.mod_eq_of_lt hb, Nat.mod_eq_of_lt (Nat.and_lt_two_pow _ hb)]
theorem wb_or {a b : Nat} (ha : a < 2 ^ 64) (hb : b < 2 ^ 64) : lN a ||| lN b = lN (a ||| b) := by
  apply wb_inj
  rw [Int64.toBitVec_or, wb_tb, wb_tb, wb_tb]
  apply BitVec.eq_of_toNat_eq
  rw [BitVec.toNat_or, BitVec.toNat_ofNat, BitVec.toNat_ofNat, BitVec.toNat_ofNat, Nat.mod_eq_of_lt ha, Nat.mod_eq_of_lt hb, Nat.mod_eq_of_lt (Nat.or_lt_two_pow ha hb)]
theorem wb_mask {n k : Nat} (hn : n < 2 ^ 64) (hk : k < 64) : lN n &&& lN (2 ^ k - 1) = lN (n % 2 ^ k) := by
  rw [wb_and hn (by have := wb_lt2 hk; omega), Nat.and_two_pow_sub_one_eq_mod]
theorem wb_a1 {n : Nat} (hn : n < 2 ^ 64) : lN n &&& 1 = lN (n % 2) := wb_mask (k := 1) hn (by decide)
theorem wb_bit {n k : Nat} (hn : n < 2 ^ 64) (hk : k < 64) : ((lN n).toUInt64 >>> ((nI k).toInt64.toUInt64 &&& Int64.toUInt64 63)).toInt64 &&& 1 = lN (n / 2 ^ k % 2) := by
  rw [wb_shr hn hk, wb_a1 (Nat.lt_of_le_of_lt (Nat.div_le_self _ _) hn)]
/-! ===== the class's board: copying, steps ===== -/
theorem gI_cp_ne (M : MM) {a d sp dp n b j : Nat} (h : b ≠ d) : gI (cpI M a d sp dp n) b j = gI M b j := by rw [gI_cp, if_neg (fun q => h q.1)]
theorem gI_cp_eq (M : MM) {a d n j : Nat} (h : j < n) : gI (cpI M a d 0 0 n) d j = gI M a j := by rw [gI_cp, if_pos ⟨rfl, Nat.zero_le _, by omega⟩]; congr 1; omega
theorem ix8 : ix 8 = 8 := by decide
theorem ix64 : ix 64 = 64 := by decide
theorem ix40 : ix 40 = 40 := by decide
theorem copy_spec {M : MM} {a0 a1 : Nat} (h : a0 + 8 < a1 ∨ a1 + 8 < a0) : ∃ M2, fX5_copyFrom M a0 a1 = some M2 ∧ Fr [a0, a0 + 1, a0 + 2, a0 + 3, a0 + 4, a0 + 5, a0 + 6, a0 + 7, a0 + 8] M M2 ∧
    (∀ k, k < 4 → gI M2 a0 k = gI M a1 k) ∧ (∀ i, 1 ≤ i → i ≤ 7 → ∀ k, k < 8 → gI M2 (a0 + i) k = gI M (a1 + i) k) ∧ (∀ k, k < 64 → gI M2 (a0 + 8) k = gI M (a1 + 8) k) ∧ gL M2 a0 12 = gL M a1 12 := by
  unfold fX5_copyFrom
  simp only [bnd_r, ix8, ix64]
  refine ⟨_, rfl, ?_, ?_, ?_, ?_, ?_⟩
  · exact (((((((((((((Fr.rfl.pI (by simp)).pI (by simp)).pI (by simp)).pI (by simp)).pL (by simp)).pC (by simp)).pC (by simp)).pC (by simp)).pC (by simp)).pC (by simp)).pC (by simp)).pC (by simp)).pC (by simp))
  · intro k hk
    rcases (show k = 0 ∨ k = 1 ∨ k = 2 ∨ k = 3 by omega) with rfl | rfl | rfl | rfl <;> simp (disch := omega) only [gI_cp_ne, gI_sL, gI_eq, gI_nk, gI_ne]
  · intro i h1 h7 k hk
    rcases (show i = 1 ∨ i = 2 ∨ i = 3 ∨ i = 4 ∨ i = 5 ∨ i = 6 ∨ i = 7 by omega) with rfl | rfl | rfl | rfl | rfl | rfl | rfl <;> simp (disch := omega) only [gI_cp_ne, gI_cp_eq, gI_sL, gI_ne]
  · intro k hk
    simp (disch := omega) only [gI_cp_ne, gI_cp_eq, gI_sL, gI_ne]
  · simp only [gL_cp, gL_sL, gL_sI]
    simp
/-- a step's value in the class's table -/
def stI (w h q d : Nat) : Int32 := match stepP w h q d with
  | some q2 => nI (sqC w q2)
  | none => -1
def NX (M : MM) (w h : Nat) : Prop := gI M 60 5 = nI w ∧ gI M 60 6 = nI h ∧ ∀ d, d < 8 → ∀ q, inP w h q → gI M 73 (64 * d + sqC w q) = stI w h q d
theorem st3 : ∀ d, d < 8 → (st_val 3 d).toInt = dX d := by decide +kernel
theorem st4 : ∀ d, d < 8 → (st_val 4 d).toInt = dY d := by decide +kernel
theorem dX_b (d : Nat) : -1 ≤ dX d ∧ dX d ≤ 1 := by
  unfold dX
  split
  · omega
  · split <;> omega
theorem dY_b (d : Nat) : -1 ≤ dY d ∧ dY d ≤ 1 := by
  unfold dY
  split
  · omega
  · split <;> omega
theorem add_toInt_s {n : Nat} {v : Int32} {z : Int} (hn : n < 2 ^ 30) (hv : v.toInt = z) (hz : -1 ≤ z ∧ z ≤ 1) : (nI n + v).toInt = (n : Int) + z := by
  rw [Int32.toInt_add, nI_toInt (by omega), hv]
  apply Int.bmod_eq_of_le <;> omega
theorem drawFrom_one {M1 : MM} {w h c r d f : Nat} (hw : 2 ≤ w ∧ w ≤ 8) (hh : 2 ≤ h ∧ h ≤ 8) (e5 : gI M1 60 5 = nI w) (e6 : gI M1 60 6 = nI h) (hc : c < w) (hr : r < h) (hd : d < 8) :
    fX0_drawStepsFrom_l2 (f + 1) M1 (nI c) (nI r) (nI d) = fX0_drawStepsFrom_l2 f (sI M1 73 (64 * d + (w * r + c)) (stI w h (8 * r + c) d)) (nI c) (nI r) (nI (d + 1)) := by
  have hwr : w * r + c < 64 := by
    have : w * r ≤ 8 * r := Nat.mul_le_mul_right r hw.2
    omega
  have q8 : (8 * r + c) / 8 = r := by omega
  have q9 : (8 * r + c) % 8 = c := by omega
  have tx : (nI c + st_val 3 d).toInt = (c : Int) + dX d := add_toInt_s (by omega) (st3 d hd) (dX_b d)
  have ty : (nI r + st_val 4 d).toInt = (r : Int) + dY d := add_toInt_s (by omega) (st4 d hd) (dY_b d)
  have bx := dX_b d
  have by_ := dY_b d
  have j97 : ∀ (k2 : MM → Int32 → Int32 → Int32 → Option MM) (v : Int32), fX0_drawStepsFrom_j97 k2 M1 (nI c) (nI r) (nI d) (64 * nI d + gI M1 60 5 * nI r + nI c) v = k2 (sI M1 73 (64 * d + (w * r + c)) v) (nI c) (nI r) (nI (d + 1)) := fun k2 v => by
    unfold fX0_drawStepsFrom_j97
    rw [e5, nl64, pk_mul, pk_mul, nI_add, nI_add, gd_inb (by omega) (by decide), ix_nI (by omega), bnd_r, nI_1, Nat.add_assoc]
  have out : ∀ (k2 : MM → Int32 → Int32 → Int32 → Option MM) (a b : Int32), fX0_drawStepsFrom_j58 k2 M1 (nI c) (nI r) (nI d) a b = k2 (sI M1 73 (64 * d + (w * r + c)) (-1)) (nI c) (nI r) (nI (d + 1)) := fun k2 a b => by
    unfold fX0_drawStepsFrom_j58 fX0_drawStepsFrom_j59
    rw [if_pos rfl, j97]
  rw [fX0_drawStepsFrom_l2.eq_2, nl8, le_f hd (by decide)]
  simp (disch := omega) only [gd_inb, ix_nI, bnd_r]
  unfold stI stepP
  rw [q8, q9, e5, e6]
  have l1 : nI c + st_val 3 d < 0 ↔ (c : Int) + dX d < 0 := by rw [lt0_toInt, tx]
  have l2 : nI w ≤ nI c + st_val 3 d ↔ (w : Int) ≤ (c : Int) + dX d := by rw [le_toInt (by omega), tx]
  have l3 : nI r + st_val 4 d < 0 ↔ (r : Int) + dY d < 0 := by rw [lt0_toInt, ty]
  have l4 : nI h ≤ nI r + st_val 4 d ↔ (h : Int) ≤ (r : Int) + dY d := by rw [le_toInt (by omega), ty]
  by_cases a1 : (c : Int) + dX d < 0
  · rw [if_pos (l1.mpr a1), if_neg (by omega), out]
  · rw [if_neg (fun z => a1 (l1.mp z))]
    by_cases a2 : (w : Int) ≤ (c : Int) + dX d
    · rw [if_pos (l2.mpr a2), if_neg (by omega), out]
    · rw [if_neg (fun z => a2 (l2.mp z))]
      by_cases a3 : (r : Int) + dY d < 0
      · rw [if_pos (l3.mpr a3), if_neg (by omega), out]
      · rw [if_neg (fun z => a3 (l3.mp z))]
        by_cases a4 : (h : Int) ≤ (r : Int) + dY d
        · rw [if_pos (l4.mpr a4), if_neg (by omega), out]
        · rw [if_neg (fun z => a4 (l4.mp z)), if_pos (by omega)]
          unfold fX0_drawStepsFrom_j59
          rw [if_neg i10, j97, e5]
          have ex : nI c + st_val 3 d = nI ((c : Int) + dX d).toNat := (eq_toInt (by omega)).mpr (by omega)
          have ey : nI r + st_val 4 d = nI ((r : Int) + dY d).toNat := (eq_toInt (by omega)).mpr (by omega)
          rw [ex, ey, pk_mul, nI_add]
          simp only []
          unfold sqC
          rw [show (8 * ((r : Int) + dY d).toNat + ((c : Int) + dX d).toNat) / 8 = ((r : Int) + dY d).toNat by omega, show (8 * ((r : Int) + dY d).toNat + ((c : Int) + dX d).toNat) % 8 = ((c : Int) + dX d).toNat by omega]
theorem drawFrom_spec {M : MM} {w h c r : Nat} (hw : 2 ≤ w ∧ w ≤ 8) (hh : 2 ≤ h ∧ h ≤ 8) (e5 : gI M 60 5 = nI w) (e6 : gI M 60 6 = nI h) (hc : c < w) (hr : r < h) :
    ∃ M2, fX0_drawStepsFrom M (nI c) (nI r) = some M2 ∧ Fr [73] M M2 ∧ (∀ d, d < 8 → gI M2 73 (64 * d + (w * r + c)) = stI w h (8 * r + c) d) ∧ ∀ i, (∀ d, d < 8 → i ≠ 64 * d + (w * r + c)) → gI M2 73 i = gI M 73 i := by
  have key := lpk (κ := Unit) (σ := MM × Nat) (fun _ f st => fX0_drawStepsFrom_l2 f st.1 (nI c) (nI r) (nI st.2)) (fun _ M2 => some M2) 8
    (fun d st => d = st.2 ∧ Fr [73] M st.1 ∧ (∀ d2, d2 < d → gI st.1 73 (64 * d2 + (w * r + c)) = stI w h (8 * r + c) d2) ∧ ∀ i, (∀ d2, d2 < d → i ≠ 64 * d2 + (w * r + c)) → gI st.1 73 i = gI M 73 i) (fun M2 => Fr [73] M M2 ∧ (∀ d, d < 8 → gI M2 73 (64 * d + (w * r + c)) = stI w h (8 * r + c) d) ∧ ∀ i, (∀ d, d < 8 → i ≠ 64 * d + (w * r + c)) → gI M2 73 i = gI M 73 i) ?_ ?_ FU 0 (M, 0) (by omega) (by decide) ⟨rfl, Fr.rfl, fun d hd => absurd hd (Nat.not_lt_zero d), fun i _ => rfl⟩
  · obtain ⟨M2, h1, h2⟩ := key
    exact ⟨M2, h2 (), h1⟩
  · rintro d ⟨M1, j⟩ hd ⟨rfl, hF, a1, a2⟩
    refine Or.inl ⟨(sI M1 73 (64 * d + (w * r + c)) (stI w h (8 * r + c) d), d + 1), ⟨rfl, hF.pI (by decide), fun d2 hd2 => ?_, fun i hi => ?_⟩, fun _ f => ?_⟩
    · show gI (sI M1 73 _ _) 73 _ = _
      rcases Nat.lt_or_ge d2 d with q | q
      · rw [gI_nk _ _ _ _ _ _ (by omega)]; exact a1 d2 q
      · rw [show d2 = d by omega, gI_eq]
    · show gI (sI M1 73 _ _) 73 _ = _
      rw [gI_nk _ _ _ _ _ _ (hi d (by omega))]
      exact a2 i (fun d2 hd2 => hi d2 (by omega))
    · exact drawFrom_one hw hh (by rw [hF.gi (by decide)]; exact e5) (by rw [hF.gi (by decide)]; exact e6) hc hr hd
  · rintro ⟨M1, j⟩ ⟨rfl, hF, a1, a2⟩
    refine ⟨M1, ⟨hF, a1, a2⟩, fun _ f => ?_⟩
    show fX0_drawStepsFrom_l2 (f + 1) M1 (nI c) (nI r) (nI 8) = _
    rw [fX0_drawStepsFrom_l2.eq_2, nl8, le_t (Nat.le_refl _) (by decide)]
/-- what is drawn already: all of the rows above, and of this row what is left of c -/
def DN (M : MM) (w h r c : Nat) : Prop := ∀ r2 c2, c2 < w → (r2 < r ∨ (r2 = r ∧ c2 < c)) → ∀ d, d < 8 → gI M 73 (64 * d + (w * r2 + c2)) = stI w h (8 * r2 + c2) d
theorem sq_lt {w h r c : Nat} (hw : w ≤ 8) (hh : h ≤ 8) (hr : r < h) (hc : c < w) : w * r + c < 64 := by
  have : w * r ≤ 8 * r := Nat.mul_le_mul_right r hw
  omega
theorem sq_inj {w r c r2 c2 : Nat} (hc : c < w) (hc2 : c2 < w) (e : w * r + c = w * r2 + c2) : r = r2 ∧ c = c2 := by
  have h1 : (w * r + c) / w = r := by rw [Nat.mul_add_div (by omega), Nat.div_eq_of_lt hc, Nat.add_zero]
  have h2 : (w * r2 + c2) / w = r2 := by rw [Nat.mul_add_div (by omega), Nat.div_eq_of_lt hc2, Nat.add_zero]
  have h3 : r = r2 := by rw [← h1, ← h2, e]
  subst h3
  exact ⟨rfl, by omega⟩
theorem draw_row {M : MM} {w h r : Nat} (hw : 2 ≤ w ∧ w ≤ 8) (hh : 2 ≤ h ∧ h ≤ 8) (e5 : gI M 60 5 = nI w) (e6 : gI M 60 6 = nI h) (hr : r < h) (hD : DN M w h r 0) :
    ∃ M2, (Fr [73] M M2 ∧ DN M2 w h (r + 1) 0) ∧ ∀ k : MM → Int32 → Option MM, fX0_drawSteps_l34 k FU M (nI r) (nI 0) = k M2 (nI r) := by
  refine lpk (κ := MM → Int32 → Option MM) (σ := MM × Nat) (fun k f st => fX0_drawSteps_l34 k f st.1 (nI r) (nI st.2)) (fun k M2 => k M2 (nI r)) w
    (fun c st => c = st.2 ∧ Fr [73] M st.1 ∧ DN st.1 w h r c) _ ?_ ?_ FU 0 (M, 0) (by omega) (by show _ < 5000; omega) ⟨rfl, Fr.rfl, hD⟩
  · rintro c ⟨M1, j⟩ hc ⟨rfl, hF, a1⟩
    left
    have f5 : gI M1 60 5 = nI w := by rw [hF.gi (by decide)]; exact e5
    have f6 : gI M1 60 6 = nI h := by rw [hF.gi (by decide)]; exact e6
    obtain ⟨M2, b1, b2, b3, b4⟩ := drawFrom_spec hw hh f5 f6 hc hr
    refine ⟨(M2, c + 1), ⟨rfl, hF.trans b2, ?_⟩, fun k f => ?_⟩
    · intro r2 c2 hc2 hd2 d hd
      by_cases e : r2 = r ∧ c2 = c
      · obtain ⟨rfl, rfl⟩ := e
        exact b3 d hd
      · have hl1 := sq_lt hw.2 hh.2 hr hc
        have hl2 : w * r2 + c2 < 64 := sq_lt hw.2 hh.2 (show r2 < h by omega) hc2
        show gI M2 73 _ = _
        rw [b4 _ (fun d3 hd3 q => ?_)]
        · exact a1 r2 c2 hc2 (by omega) d hd
        · have := sq_inj hc2 hc (show w * r2 + c2 = w * r + c by omega)
          exact e this
    · show fX0_drawSteps_l34 k (f + 1) M1 (nI r) (nI c) = fX0_drawSteps_l34 k f M2 (nI r) (nI (c + 1))
      rw [fX0_drawSteps_l34.eq_2, f5, le_f hc (by omega), b1, bd_s, nI_1]
  · rintro ⟨M1, j⟩ ⟨rfl, hF, a1⟩
    have f5 : gI M1 60 5 = nI w := by rw [hF.gi (by decide)]; exact e5
    refine ⟨M1, ⟨hF, fun r2 c2 hc2 hd2 d hd => a1 r2 c2 hc2 (by omega) d hd⟩, fun k f => ?_⟩
    show fX0_drawSteps_l34 k (f + 1) M1 (nI r) (nI w) = _
    rw [fX0_drawSteps_l34.eq_2, f5, le_t (Nat.le_refl _) (by omega)]
theorem draw_spec {M : MM} {w h : Nat} (hw : 2 ≤ w ∧ w ≤ 8) (hh : 2 ≤ h ∧ h ≤ 8) (e0 : gI M 61 0 = nI w) (e1 : gI M 61 1 = nI h) : ∃ M2, fX0_drawSteps M = some M2 ∧ Fr [60, 73] M M2 ∧ NX M2 w h := by
  have g5 : gI (sI (sI M 60 5 (nI w)) 60 6 (nI h)) 60 5 = nI w := by rw [gI_nk _ _ _ _ _ _ (by decide), gI_eq]
  have g6 : gI (sI (sI M 60 5 (nI w)) 60 6 (nI h)) 60 6 = nI h := gI_eq _ _ _ _
  have key := lpk (κ := Unit) (σ := MM × Nat) (fun _ f st => fX0_drawSteps_l24 f st.1 (nI st.2)) (fun _ M2 => some M2) h
    (fun r st => r = st.2 ∧ Fr [73] (sI (sI M 60 5 (nI w)) 60 6 (nI h)) st.1 ∧ DN st.1 w h r 0) (fun M2 => Fr [73] (sI (sI M 60 5 (nI w)) 60 6 (nI h)) M2 ∧ DN M2 w h h 0) ?_ ?_ FU 0 (sI (sI M 60 5 (nI w)) 60 6 (nI h), 0) (by omega) (by show _ < 5000; omega) ⟨rfl, Fr.rfl, fun r2 c2 _ q => by omega⟩
  · obtain ⟨M2, ⟨h1, h2⟩, h3⟩ := key
    refine ⟨M2, ?_, ((Fr.rfl.pI (by decide)).pI (by decide)).trans (h1.mono (by decide)), ?_, ?_, ?_⟩
    · unfold fX0_drawSteps
      rw [e0, bnd_r, bnd_r, gI_ne _ _ _ _ _ _ (by decide), e1]
      exact h3 ()
    · rw [h1.gi (by decide)]; exact g5
    · rw [h1.gi (by decide)]; exact g6
    · intro d hd q hq
      have := h2 (q / 8) (q % 8) hq.1 (Or.inl hq.2) d hd
      rw [show 8 * (q / 8) + q % 8 = q by omega] at this
      exact this
  · rintro r ⟨M1, j⟩ hr ⟨rfl, hF, a1⟩
    left
    have f5 : gI M1 60 5 = nI w := by rw [hF.gi (by decide)]; exact g5
    have f6 : gI M1 60 6 = nI h := by rw [hF.gi (by decide)]; exact g6
    obtain ⟨M2, ⟨b1, b2⟩, b3⟩ := draw_row hw hh f5 f6 hr a1
    refine ⟨(M2, r + 1), ⟨rfl, hF.trans b1, b2⟩, fun k f => ?_⟩
    show fX0_drawSteps_l24 (f + 1) M1 (nI r) = fX0_drawSteps_l24 f M2 (nI (r + 1))
    rw [fX0_drawSteps_l24.eq_2, f6, le_f hr (by omega), nl0, b3, nI_1]
  · rintro ⟨M1, j⟩ ⟨rfl, hF, a1⟩
    have f6 : gI M1 60 6 = nI h := by rw [hF.gi (by decide)]; exact g6
    refine ⟨M1, ⟨hF, a1⟩, fun _ f => ?_⟩
    show fX0_drawSteps_l24 (f + 1) M1 (nI h) = _
    rw [fX0_drawSteps_l24.eq_2, f6, le_t (Nat.le_refl _) (by omega)]
