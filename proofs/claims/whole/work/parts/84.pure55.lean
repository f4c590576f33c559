/-! ===== text: the state of reading ===== -/
/-- where the token begins; fault; place -/
abbrev RST : Type := Nat × Nat × Int32
def nxT (tp : Nat → Nat) (len s : Nat) : Nat := tkS tp len (tkE tp len s)
theorem tkE_le {tp : Nat → Nat} {len s : Nat} (h : s ≤ len) : tkE tp len s ≤ len := by
  unfold tkE
  split
  · split
    · exact runE_le _ _ _ _ h
    · split
      · exact runE_le _ _ _ _ h
      · omega
  · exact h
theorem tkE_gt {tp : Nat → Nat} {len s : Nat} (h : s < len) : s < tkE tp len s := by
  unfold tkE
  rw [if_pos h]
  split
  · rename_i c; exact runE_first (n := 599) h c
  · split
    · rename_i c; exact runE_first (n := 599) h c
    · omega
theorem nxT_le {tp : Nat → Nat} {len s : Nat} (h : s ≤ len) : nxT tp len s ≤ len := runE_le _ _ _ _ (tkE_le h)
theorem nxT_gt {tp : Nat → Nat} {len s : Nat} (h : s < len) : s < nxT tp len s := Nat.lt_of_lt_of_le (tkE_gt h) (runE_ge _ _ _ _)
theorem nxT_ge {tp : Nat → Nat} {len s : Nat} : s ≤ nxT tp len s := by
  by_cases c : s < len
  · exact Nat.le_of_lt (nxT_gt c)
  · have : tkE tp len s = s := by unfold tkE; rw [if_neg c]
    unfold nxT; rw [this]; exact runE_ge _ _ _ _
theorem tkK_5 (tp : Nat → Nat) (len s : Nat) : tkK tp len s < 5 := by unfold tkK; split <;> (try split) <;> (try split) <;> (try split) <;> omega
theorem tkK_0 {tp : Nat → Nat} {len s : Nat} : tkK tp len s = 0 ↔ ¬ s < len := by
  unfold tkK
  by_cases c : s < len
  · rw [if_pos c]
    constructor
    · intro h; split at h <;> (try split at h) <;> (try split at h) <;> omega
    · intro h; exact absurd c h
  · rw [if_neg c]; exact ⟨fun _ => c, fun _ => rfl⟩
def mkF (k q : Nat) (σ : RST) : RST := if σ.2.1 = 0 then (σ.1, k, nI q) else σ
def rfF (σ : RST) : RST := (σ.1, 1, nI σ.1)
def mvF (tp : Nat → Nat) (len : Nat) (σ : RST) : RST := (nxT tp len σ.1, σ.2)
theorem mkF_1 (k q : Nat) (σ : RST) : (mkF k q σ).1 = σ.1 := by unfold mkF; split <;> rfl
/-- a number told -/
def dvT (tp : Nat → Nat) (len s : Nat) : Nat := dvN tp s (tkD tp len s - s)
def rdV (tp : Nat → Nat) (len lo hi : Nat) (σ : RST) : Nat := if σ.2.1 = 1 then lo else if tkK tp len σ.1 = 2 then (if lo ≤ dvT tp len σ.1 ∧ dvT tp len σ.1 ≤ hi then dvT tp len σ.1 else lo) else lo
def rdS (tp : Nat → Nat) (len lo hi : Nat) (σ : RST) : RST := if σ.2.1 = 1 then σ else if tkK tp len σ.1 = 2 then (if lo ≤ dvT tp len σ.1 ∧ dvT tp len σ.1 ≤ hi then mvF tp len σ else mvF tp len (mkF 2 σ.1 σ)) else rfF σ
theorem rdV_in {tp : Nat → Nat} {len lo hi : Nat} {σ : RST} (h : lo ≤ hi) : lo ≤ rdV tp len lo hi σ ∧ rdV tp len lo hi σ ≤ hi := by
  unfold rdV
  split
  · omega
  · split
    · split
      · assumption
      · omega
    · omega
theorem rdS_0 {tp : Nat → Nat} {len lo hi : Nat} {σ : RST} (h : (rdS tp len lo hi σ).2.1 = 0) : σ.2.1 = 0 ∧ tkK tp len σ.1 = 2 ∧ (lo ≤ dvT tp len σ.1 ∧ dvT tp len σ.1 ≤ hi) ∧ rdV tp len lo hi σ = dvT tp len σ.1 := by
  unfold rdS at h
  by_cases c : σ.2.1 = 1
  · rw [if_pos c] at h; omega
  · rw [if_neg c] at h
    by_cases d : tkK tp len σ.1 = 2
    · rw [if_pos d] at h
      by_cases e : lo ≤ dvT tp len σ.1 ∧ dvT tp len σ.1 ≤ hi
      · rw [if_pos e] at h
        refine ⟨h, d, e, ?_⟩
        unfold rdV; rw [if_neg c, if_pos d, if_pos e]
      · rw [if_neg e] at h
        have h : (mkF 2 σ.1 σ).2.1 = 0 := h
        unfold mkF at h
        by_cases z : σ.2.1 = 0
        · rw [if_pos z] at h; exact absurd (show (2 : Nat) = 0 from h) (by decide)
        · rw [if_neg z] at h; exact absurd h z
    · rw [if_neg d] at h
      exact absurd h (by decide : ¬ (1 : Nat) = 0)
theorem rdS_1 {tp : Nat → Nat} {len lo hi : Nat} {σ : RST} (h : σ.2.1 = 1) : rdS tp len lo hi σ = σ := by unfold rdS; rw [if_pos h]
theorem rdS_ge {tp : Nat → Nat} {len lo hi : Nat} {σ : RST} : σ.1 ≤ (rdS tp len lo hi σ).1 := by
  unfold rdS
  split
  · exact Nat.le_refl _
  · split
    · split
      · exact nxT_ge
      · show σ.1 ≤ nxT tp len (mkF 2 σ.1 σ).1
        rw [mkF_1]; exact nxT_ge
    · exact Nat.le_refl _
theorem rdS_le {tp : Nat → Nat} {len lo hi : Nat} {σ : RST} (h : σ.1 ≤ len) : (rdS tp len lo hi σ).1 ≤ len := by
  unfold rdS
  split
  · exact h
  · split
    · split
      · exact nxT_le h
      · show nxT tp len (mkF 2 σ.1 σ).1 ≤ len
        rw [mkF_1]; exact nxT_le h
    · exact h
/-- the numbers of a line, what is least and greatest -/
def nmN (w : Nat) : Nat := [2, 2, 3, 5, 5, 5, 5, 1, 1, 1, 1, 0, 0, 2, 2, 1, 1, 0, 2, 1].getD w 0
def bnG (w k : Nat) : Nat := [8, 8, 0, 0, 0, 7, 7, 0, 0, 0, 7, 7, 9, 0, 0, 7, 7, 7, 9, 3, 7, 7, 7, 9, 3, 7, 7, 7, 9, 3, 7, 7, 7, 9, 3, 9, 0, 0, 0, 0, 20, 0, 0, 0, 0, 2, 0, 0, 0, 0, 9, 0, 0, 0, 0, 0, 0, 0, 0, 0, 0, 0, 0, 0, 0, 7, 7, 0, 0, 0, 7, 7, 0, 0, 0, 7, 0, 0, 0, 0, 7, 0, 0, 0, 0, 0, 0, 0, 0, 0, 7, 9, 0, 0, 0, 9, 0, 0, 0, 0].getD (5 * w + k) 0
def bnL (w k : Nat) : Nat := if w = 0 then 2 else if w = 8 then 1 else if 3 ≤ w ∧ w ≤ 6 ∧ k = 3 then 1 else 0
theorem nm_v : ∀ w, w < 20 → st_val 1 w = nI (nmN w) := by decide +kernel
theorem nm_5 : ∀ w, w < 20 → nmN w ≤ 5 := by decide +kernel
theorem bg_v : ∀ w, w < 20 → ∀ k, k < 5 → st_val 2 (5 * w + k) = nI (bnG w k) := by decide +kernel
theorem bl_v : ∀ w, w < 20 → ∀ k, k < 5 → fX7_least (nI w) (nI k) = nI (bnL w k) := by decide +kernel
theorem bn_20 : ∀ w, w < 20 → ∀ k, k < 5 → bnG w k ≤ 20 ∧ bnL w k ≤ 2 := by decide +kernel
theorem bn_le : ∀ w, w < 20 → ∀ k, k < nmN w → bnL w k ≤ bnG w k := by decide +kernel
def stK (tp : Nat → Nat) (len w : Nat) : Nat → RST → RST
  | 0, σ => σ
  | k + 1, σ => rdS tp len (bnL w k) (bnG w k) (stK tp len w k σ)
def vlK (tp : Nat → Nat) (len w k : Nat) (σ : RST) : Nat := rdV tp len (bnL w k) (bnG w k) (stK tp len w k σ)
theorem stK_1 {tp : Nat → Nat} {len w k : Nat} {σ : RST} (h : (stK tp len w k σ).2.1 = 1) : ∀ j, stK tp len w (k + j) σ = stK tp len w k σ
  | 0 => rfl
  | j + 1 => by
    show rdS tp len _ _ (stK tp len w (k + j) σ) = _
    rw [stK_1 h j, rdS_1 h]
theorem stK_ge {tp : Nat → Nat} {len w : Nat} {σ : RST} : ∀ k, σ.1 ≤ (stK tp len w k σ).1
  | 0 => Nat.le_refl _
  | k + 1 => Nat.le_trans (stK_ge k) rdS_ge
theorem stK_le {tp : Nat → Nat} {len w : Nat} {σ : RST} (h : σ.1 ≤ len) : ∀ k, (stK tp len w k σ).1 ≤ len
  | 0 => h
  | k + 1 => rdS_le (stK_le h k)
theorem stK_0 {tp : Nat → Nat} {len w : Nat} {σ : RST} : ∀ k, (stK tp len w k σ).2.1 = 0 → σ.2.1 = 0 ∧ ∀ j, j < k → bnL w j ≤ vlK tp len w j σ ∧ vlK tp len w j σ ≤ bnG w j
  | 0, h => ⟨h, fun j hj => absurd hj (Nat.not_lt_zero j)⟩
  | k + 1, h => by
    obtain ⟨h1, h2, h3, h4⟩ := rdS_0 (show (rdS tp len (bnL w k) (bnG w k) (stK tp len w k σ)).2.1 = 0 from h)
    obtain ⟨i1, i2⟩ := stK_0 k h1
    refine ⟨i1, fun j hj => ?_⟩
    by_cases e : j = k
    · subst e
      unfold vlK; rw [h4]; exact h3
    · exact i2 j (by omega)
/-! ===== text: the class's state ===== -/
def CS (M : MM) (tp : Nat → Nat) (len : Nat) (σ : RST) : Prop := TPc M tp ∧ len ≤ 600 ∧ gI M 41 7 = nI len ∧ σ.1 ≤ len ∧ gI M 41 8 = nI (tkK tp len σ.1) ∧ gI M 41 9 = nI σ.1 ∧ gI M 41 10 = nI (tkE tp len σ.1) ∧ gI M 41 4 = nI σ.2.1 ∧ gI M 41 5 = σ.2.2 ∧ σ.2.1 < 6
def W41 (M M2 : MM) : Prop := Fr [41] M M2 ∧ gI M2 41 11 = gI M 41 11
theorem W41.trans {M M1 M2 : MM} (h : W41 M M1) (h2 : W41 M1 M2) : W41 M M2 := ⟨h.1.trans h2.1, h2.2.trans h.2⟩
theorem CS_fr {M M2 : MM} {tp : Nat → Nat} {len : Nat} {σ : RST} {L : List Nat} (h : CS M tp len σ) (hF : Fr L M M2) (h39 : 39 ∉ L) (h41 : 41 ∉ L) : CS M2 tp len σ := by
  obtain ⟨a1, a2, a3, a4, a5, a6, a7, a8, a9, a10⟩ := h
  exact ⟨fun i hi => by rw [hF.gi h39]; exact a1 i hi, a2, by rw [hF.gi h41]; exact a3, a4, by rw [hF.gi h41]; exact a5, by rw [hF.gi h41]; exact a6, by rw [hF.gi h41]; exact a7, by rw [hF.gi h41]; exact a8, by rw [hF.gi h41]; exact a9, a10⟩
theorem CS_11 {M : MM} {tp : Nat → Nat} {len : Nat} {σ : RST} {v : Int32} (h : CS M tp len σ) : CS (sI M 41 11 v) tp len σ := by
  obtain ⟨a1, a2, a3, a4, a5, a6, a7, a8, a9, a10⟩ := h
  exact ⟨fun i hi => by rw [gI_ne _ _ _ _ _ _ (by decide)]; exact a1 i hi, a2, by rw [gI_nk _ _ _ _ _ _ (by decide)]; exact a3, a4, by rw [gI_nk _ _ _ _ _ _ (by decide)]; exact a5, by rw [gI_nk _ _ _ _ _ _ (by decide)]; exact a6, by rw [gI_nk _ _ _ _ _ _ (by decide)]; exact a7, by rw [gI_nk _ _ _ _ _ _ (by decide)]; exact a8, by rw [gI_nk _ _ _ _ _ _ (by decide)]; exact a9, a10⟩
theorem tok_CS {M : MM} {tp : Nat → Nat} {len : Nat} {σ : RST} (h : CS M tp len σ) : ∃ M2, fX7_nextToken M = some M2 ∧ W41 M M2 ∧ CS M2 tp len (mvF tp len σ) := by
  obtain ⟨a1, a2, a3, a4, a5, a6, a7, a8, a9, a10⟩ := h
  refine ⟨_, tok_cls a1 a2 a3 a7 (tkE_le a4), ⟨((Fr.rfl.pI (by decide)).pI (by decide)).pI (by decide), ?_⟩, fun i hi => ?_, a2, ?_, nxT_le a4, ?_, ?_, ?_, ?_, ?_, a10⟩
  · unfold nxTc; simp (disch := decide) only [gI_nk]
  · unfold nxTc; simp (disch := decide) only [gI_ne]; exact a1 i hi
  · unfold nxTc; simp (disch := decide) only [gI_nk]; exact a3
  · unfold nxTc; simp (disch := decide) only [gI_nk, gI_eq]; rfl
  · unfold nxTc; simp (disch := decide) only [gI_nk, gI_eq]; rfl
  · unfold nxTc; simp (disch := decide) only [gI_nk, gI_eq]; rfl
  · unfold nxTc; simp (disch := decide) only [gI_nk]; exact a8
  · unfold nxTc; simp (disch := decide) only [gI_nk]; exact a9
theorem mark_CS {M : MM} {tp : Nat → Nat} {len k q : Nat} {σ : RST} (h : CS M tp len σ) (hk : 0 < k ∧ k < 6) : ∃ M2, fX7_mark M (nI k) (nI q) = some M2 ∧ W41 M M2 ∧ CS M2 tp len (mkF k q σ) := by
  obtain ⟨a1, a2, a3, a4, a5, a6, a7, a8, a9, a10⟩ := id h
  unfold fX7_mark mkF
  rw [a8]
  by_cases c : σ.2.1 = 0
  · rw [eqz_t c, if_pos c, eqz_f hk.1 (by omega)]
    refine ⟨_, rfl, ⟨(Fr.rfl.pI (by decide)).pI (by decide), by simp (disch := decide) only [gI_nk]⟩, fun i hi => ?_, a2, ?_, a4, ?_, ?_, ?_, ?_, ?_, hk.2⟩
    · simp (disch := decide) only [gI_ne]; exact a1 i hi
    · simp (disch := decide) only [gI_nk]; exact a3
    · simp (disch := decide) only [gI_nk]; exact a5
    · simp (disch := decide) only [gI_nk]; exact a6
    · simp (disch := decide) only [gI_nk]; exact a7
    · simp (disch := decide) only [gI_nk, gI_eq]
    · simp (disch := decide) only [gI_eq]
  · rw [eqz_f (by omega) (by omega), if_neg c]
    exact ⟨M, rfl, ⟨Fr.rfl, rfl⟩, h⟩
theorem ref_CS {M : MM} {tp : Nat → Nat} {len : Nat} {σ : RST} (h : CS M tp len σ) : ∃ M2, fX7_refuse M = some M2 ∧ W41 M M2 ∧ CS M2 tp len (rfF σ) := by
  obtain ⟨a1, a2, a3, a4, a5, a6, a7, a8, a9, a10⟩ := id h
  unfold fX7_refuse
  refine ⟨_, rfl, ⟨(Fr.rfl.pI (by decide)).pI (by decide), by simp (disch := decide) only [gI_nk]⟩, fun i hi => ?_, a2, ?_, a4, ?_, ?_, ?_, ?_, ?_, (by decide : 1 < 6)⟩
  · simp (disch := decide) only [gI_ne]; exact a1 i hi
  · simp (disch := decide) only [gI_nk]; exact a3
  · simp (disch := decide) only [gI_nk]; exact a5
  · simp (disch := decide) only [gI_nk]; exact a6
  · simp (disch := decide) only [gI_nk]; exact a7
  · simp (disch := decide) only [gI_nk, gI_eq]; rfl
  · simp (disch := decide) only [gI_nk, gI_eq]; exact a6
