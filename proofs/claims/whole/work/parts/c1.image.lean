/-! ===== an image's block is made: what was there before stays ===== -/
theorem bnd_p {α β : Type} {P : β → Prop} {v : α} {f : α → β} (h : ∀ x, x = v → P (f x)) : P (bnd v f) := h v rfl
theorem mf_X5 {n : Nat} {K : SK} {M : MM} {a0 : Nat} (hK : n ≤ K.1) (ha : n ≤ a0) : n ≤ (kX5_init K M a0).1.1 ∧ ∀ c, c < n → (kX5_init K M a0).2.1 c = M.1 c := by
  unfold kX5_init
  have hM : ∀ c, c < n → M.1 c = M.1 c := fun _ _ => rfl
  refine bnd_p (P := fun q : SK × MM => n ≤ q.1.1 ∧ ∀ c, c < n → q.2.1 c = M.1 c) (fun K1 eK1 => ?_)
  have hK1 : n ≤ K1.1 := by rw [eK1]; exact Nat.le_succ_of_le hK
  refine bnd_p (P := fun q : SK × MM => n ≤ q.1.1 ∧ ∀ c, c < n → q.2.1 c = M.1 c) (fun M6 eM6 => ?_)
  have hM6 : ∀ c, c < n → M6.1 c = M.1 c := fun c hc => by
    rw [eM6]
    show (if c = K.1 then _ else M.1 c) = _
    exact (if_neg (by omega)).trans (hM c hc)
  refine bnd_p (P := fun q : SK × MM => n ≤ q.1.1 ∧ ∀ c, c < n → q.2.1 c = M.1 c) (fun K8 eK8 => ?_)
  have hK8 : n ≤ K8.1 := by rw [eK8]; exact hK1
  refine bnd_p (P := fun q : SK × MM => n ≤ q.1.1 ∧ ∀ c, c < n → q.2.1 c = M.1 c) (fun K13 eK13 => ?_)
  have hK13 : n ≤ K13.1 := by rw [eK13]; exact Nat.le_succ_of_le hK8
  refine bnd_p (P := fun q : SK × MM => n ≤ q.1.1 ∧ ∀ c, c < n → q.2.1 c = M.1 c) (fun M19 eM19 => ?_)
  have hM19 : ∀ c, c < n → M19.1 c = M.1 c := fun c hc => by
    rw [eM19]
    show (if c = K8.1 then _ else M6.1 c) = _
    exact (if_neg (by omega)).trans (hM6 c hc)
  refine bnd_p (P := fun q : SK × MM => n ≤ q.1.1 ∧ ∀ c, c < n → q.2.1 c = M.1 c) (fun K21 eK21 => ?_)
  have hK21 : n ≤ K21.1 := by rw [eK21]; exact hK13
  refine bnd_p (P := fun q : SK × MM => n ≤ q.1.1 ∧ ∀ c, c < n → q.2.1 c = M.1 c) (fun K27 eK27 => ?_)
  have hK27 : n ≤ K27.1 := by rw [eK27]; exact Nat.le_succ_of_le hK21
  refine bnd_p (P := fun q : SK × MM => n ≤ q.1.1 ∧ ∀ c, c < n → q.2.1 c = M.1 c) (fun M34 eM34 => ?_)
  have hM34 : ∀ c, c < n → M34.1 c = M.1 c := fun c hc => by
    rw [eM34]
    show (if c = K21.1 then _ else M19.1 c) = _
    exact (if_neg (by omega)).trans (hM19 c hc)
  refine bnd_p (P := fun q : SK × MM => n ≤ q.1.1 ∧ ∀ c, c < n → q.2.1 c = M.1 c) (fun K36 eK36 => ?_)
  have hK36 : n ≤ K36.1 := by rw [eK36]; exact hK27
  refine bnd_p (P := fun q : SK × MM => n ≤ q.1.1 ∧ ∀ c, c < n → q.2.1 c = M.1 c) (fun K43 eK43 => ?_)
  have hK43 : n ≤ K43.1 := by rw [eK43]; exact Nat.le_succ_of_le hK36
  refine bnd_p (P := fun q : SK × MM => n ≤ q.1.1 ∧ ∀ c, c < n → q.2.1 c = M.1 c) (fun M51 eM51 => ?_)
  have hM51 : ∀ c, c < n → M51.1 c = M.1 c := fun c hc => by
    rw [eM51]
    show (if c = K36.1 then _ else M34.1 c) = _
    exact (if_neg (by omega)).trans (hM34 c hc)
  refine bnd_p (P := fun q : SK × MM => n ≤ q.1.1 ∧ ∀ c, c < n → q.2.1 c = M.1 c) (fun K53 eK53 => ?_)
  have hK53 : n ≤ K53.1 := by rw [eK53]; exact hK43
  refine bnd_p (P := fun q : SK × MM => n ≤ q.1.1 ∧ ∀ c, c < n → q.2.1 c = M.1 c) (fun K61 eK61 => ?_)
  have hK61 : n ≤ K61.1 := by rw [eK61]; exact Nat.le_succ_of_le hK53
  refine bnd_p (P := fun q : SK × MM => n ≤ q.1.1 ∧ ∀ c, c < n → q.2.1 c = M.1 c) (fun M70 eM70 => ?_)
  have hM70 : ∀ c, c < n → M70.1 c = M.1 c := fun c hc => by
    rw [eM70]
    show (if c = K53.1 then _ else M51.1 c) = _
    exact (if_neg (by omega)).trans (hM51 c hc)
  refine bnd_p (P := fun q : SK × MM => n ≤ q.1.1 ∧ ∀ c, c < n → q.2.1 c = M.1 c) (fun K72 eK72 => ?_)
  have hK72 : n ≤ K72.1 := by rw [eK72]; exact hK61
  refine bnd_p (P := fun q : SK × MM => n ≤ q.1.1 ∧ ∀ c, c < n → q.2.1 c = M.1 c) (fun K81 eK81 => ?_)
  have hK81 : n ≤ K81.1 := by rw [eK81]; exact Nat.le_succ_of_le hK72
  refine bnd_p (P := fun q : SK × MM => n ≤ q.1.1 ∧ ∀ c, c < n → q.2.1 c = M.1 c) (fun M91 eM91 => ?_)
  have hM91 : ∀ c, c < n → M91.1 c = M.1 c := fun c hc => by
    rw [eM91]
    show (if c = K72.1 then _ else M70.1 c) = _
    exact (if_neg (by omega)).trans (hM70 c hc)
  refine bnd_p (P := fun q : SK × MM => n ≤ q.1.1 ∧ ∀ c, c < n → q.2.1 c = M.1 c) (fun K93 eK93 => ?_)
  have hK93 : n ≤ K93.1 := by rw [eK93]; exact hK81
  refine bnd_p (P := fun q : SK × MM => n ≤ q.1.1 ∧ ∀ c, c < n → q.2.1 c = M.1 c) (fun K103 eK103 => ?_)
  have hK103 : n ≤ K103.1 := by rw [eK103]; exact Nat.le_succ_of_le hK93
  refine bnd_p (P := fun q : SK × MM => n ≤ q.1.1 ∧ ∀ c, c < n → q.2.1 c = M.1 c) (fun M114 eM114 => ?_)
  have hM114 : ∀ c, c < n → M114.1 c = M.1 c := fun c hc => by
    rw [eM114]
    show (if c = K93.1 then _ else M91.1 c) = _
    exact (if_neg (by omega)).trans (hM91 c hc)
  refine bnd_p (P := fun q : SK × MM => n ≤ q.1.1 ∧ ∀ c, c < n → q.2.1 c = M.1 c) (fun K116 eK116 => ?_)
  have hK116 : n ≤ K116.1 := by rw [eK116]; exact hK103
  refine bnd_p (P := fun q : SK × MM => n ≤ q.1.1 ∧ ∀ c, c < n → q.2.1 c = M.1 c) (fun K127 eK127 => ?_)
  have hK127 : n ≤ K127.1 := by rw [eK127]; exact Nat.le_succ_of_le hK116
  refine bnd_p (P := fun q : SK × MM => n ≤ q.1.1 ∧ ∀ c, c < n → q.2.1 c = M.1 c) (fun M139 eM139 => ?_)
  have hM139 : ∀ c, c < n → M139.1 c = M.1 c := fun c hc => by
    rw [eM139]
    show (if c = K116.1 then _ else M114.1 c) = _
    exact (if_neg (by omega)).trans (hM114 c hc)
  refine bnd_p (P := fun q : SK × MM => n ≤ q.1.1 ∧ ∀ c, c < n → q.2.1 c = M.1 c) (fun K141 eK141 => ?_)
  have hK141 : n ≤ K141.1 := by rw [eK141]; exact hK127
  refine bnd_p (P := fun q : SK × MM => n ≤ q.1.1 ∧ ∀ c, c < n → q.2.1 c = M.1 c) (fun M153 eM153 => ?_)
  have hM153 : ∀ c, c < n → M153.1 c = M.1 c := fun c hc => by
    rw [eM153]; exact (sI_ne (by omega)).trans (hM139 c hc)
  refine bnd_p (P := fun q : SK × MM => n ≤ q.1.1 ∧ ∀ c, c < n → q.2.1 c = M.1 c) (fun M155 eM155 => ?_)
  have hM155 : ∀ c, c < n → M155.1 c = M.1 c := fun c hc => by
    rw [eM155]; exact (sI_ne (by omega)).trans (hM153 c hc)
  exact ⟨hK141, hM155⟩
theorem mf_X4 {n : Nat} {K : SK} {M : MM} {a0 : Nat} (hK : n ≤ K.1) (ha : n ≤ a0) : n ≤ (kX4_init K M a0).1.1 ∧ ∀ c, c < n → (kX4_init K M a0).2.1 c = M.1 c := by
  unfold kX4_init
  have hM : ∀ c, c < n → M.1 c = M.1 c := fun _ _ => rfl
  refine bnd_p (P := fun q : SK × MM => n ≤ q.1.1 ∧ ∀ c, c < n → q.2.1 c = M.1 c) (fun M1 eM1 => ?_)
  have hM1 : ∀ c, c < n → M1.1 c = M.1 c := fun c hc => by
    rw [eM1]; exact (sI_ne (by omega)).trans (hM c hc)
  refine bnd_p (P := fun q : SK × MM => n ≤ q.1.1 ∧ ∀ c, c < n → q.2.1 c = M.1 c) (fun M3 eM3 => ?_)
  have hM3 : ∀ c, c < n → M3.1 c = M.1 c := fun c hc => by
    rw [eM3]; exact (sI_ne (by omega)).trans (hM1 c hc)
  refine bnd_p (P := fun q : SK × MM => n ≤ q.1.1 ∧ ∀ c, c < n → q.2.1 c = M.1 c) (fun M5 eM5 => ?_)
  have hM5 : ∀ c, c < n → M5.1 c = M.1 c := fun c hc => by
    rw [eM5]; exact (sI_ne (by omega)).trans (hM3 c hc)
  exact ⟨hK, hM5⟩
theorem mf_X2 {n : Nat} {K : SK} {M : MM} {a0 : Nat} (hK : n ≤ K.1) (ha : n ≤ a0) : n ≤ (kX2_init K M a0).1.1 ∧ ∀ c, c < n → (kX2_init K M a0).2.1 c = M.1 c := by
  unfold kX2_init
  have hM : ∀ c, c < n → M.1 c = M.1 c := fun _ _ => rfl
  refine bnd_p (P := fun q : SK × MM => n ≤ q.1.1 ∧ ∀ c, c < n → q.2.1 c = M.1 c) (fun K1 eK1 => ?_)
  have hK1 : n ≤ K1.1 := by rw [eK1]; exact Nat.le_succ_of_le hK
  refine bnd_p (P := fun q : SK × MM => n ≤ q.1.1 ∧ ∀ c, c < n → q.2.1 c = M.1 c) (fun M6 eM6 => ?_)
  have hM6 : ∀ c, c < n → M6.1 c = M.1 c := fun c hc => by
    rw [eM6]
    show (if c = K.1 then _ else M.1 c) = _
    exact (if_neg (by omega)).trans (hM c hc)
  refine bnd_p (P := fun q : SK × MM => n ≤ q.1.1 ∧ ∀ c, c < n → q.2.1 c = M.1 c) (fun K8 eK8 => ?_)
  have hK8 : n ≤ K8.1 := by rw [eK8]; exact hK1
  refine bnd_p (P := fun q : SK × MM => n ≤ q.1.1 ∧ ∀ c, c < n → q.2.1 c = M.1 c) (fun K13 eK13 => ?_)
  have hK13 : n ≤ K13.1 := by rw [eK13]; exact Nat.le_succ_of_le hK8
  refine bnd_p (P := fun q : SK × MM => n ≤ q.1.1 ∧ ∀ c, c < n → q.2.1 c = M.1 c) (fun M19 eM19 => ?_)
  have hM19 : ∀ c, c < n → M19.1 c = M.1 c := fun c hc => by
    rw [eM19]
    show (if c = K8.1 then _ else M6.1 c) = _
    exact (if_neg (by omega)).trans (hM6 c hc)
  refine bnd_p (P := fun q : SK × MM => n ≤ q.1.1 ∧ ∀ c, c < n → q.2.1 c = M.1 c) (fun K21 eK21 => ?_)
  have hK21 : n ≤ K21.1 := by rw [eK21]; exact hK13
  refine bnd_p (P := fun q : SK × MM => n ≤ q.1.1 ∧ ∀ c, c < n → q.2.1 c = M.1 c) (fun K27 eK27 => ?_)
  have hK27 : n ≤ K27.1 := by rw [eK27]; exact Nat.le_succ_of_le hK21
  refine bnd_p (P := fun q : SK × MM => n ≤ q.1.1 ∧ ∀ c, c < n → q.2.1 c = M.1 c) (fun M34 eM34 => ?_)
  have hM34 : ∀ c, c < n → M34.1 c = M.1 c := fun c hc => by
    rw [eM34]
    show (if c = K21.1 then _ else M19.1 c) = _
    exact (if_neg (by omega)).trans (hM19 c hc)
  refine bnd_p (P := fun q : SK × MM => n ≤ q.1.1 ∧ ∀ c, c < n → q.2.1 c = M.1 c) (fun K36 eK36 => ?_)
  have hK36 : n ≤ K36.1 := by rw [eK36]; exact hK27
  exact ⟨hK36, hM34⟩
theorem mf_X8 {n : Nat} {K : SK} {M : MM} {a0 : Nat} (hK : n ≤ K.1) (ha : n ≤ a0) : n ≤ (kX8_init K M a0).1.1 ∧ ∀ c, c < n → (kX8_init K M a0).2.1 c = M.1 c := by
  unfold kX8_init
  have hM : ∀ c, c < n → M.1 c = M.1 c := fun _ _ => rfl
  refine bnd_p (P := fun q : SK × MM => n ≤ q.1.1 ∧ ∀ c, c < n → q.2.1 c = M.1 c) (fun K1 eK1 => ?_)
  have hK1 : n ≤ K1.1 := by rw [eK1]; exact Nat.le_succ_of_le hK
  refine bnd_p (P := fun q : SK × MM => n ≤ q.1.1 ∧ ∀ c, c < n → q.2.1 c = M.1 c) (fun M6 eM6 => ?_)
  have hM6 : ∀ c, c < n → M6.1 c = M.1 c := fun c hc => by
    rw [eM6]
    show (if c = K.1 then _ else M.1 c) = _
    exact (if_neg (by omega)).trans (hM c hc)
  refine bnd_p (P := fun q : SK × MM => n ≤ q.1.1 ∧ ∀ c, c < n → q.2.1 c = M.1 c) (fun K8 eK8 => ?_)
  have hK8 : n ≤ K8.1 := by rw [eK8]; exact hK1
  refine bnd_p (P := fun q : SK × MM => n ≤ q.1.1 ∧ ∀ c, c < n → q.2.1 c = M.1 c) (fun M14 eM14 => ?_)
  have hM14 : ∀ c, c < n → M14.1 c = M.1 c := fun c hc => by
    rw [eM14]
    show (if c = K.1 then _ else M6.1 c) = _
    exact (if_neg (by omega)).trans (hM6 c hc)
  exact ⟨hK8, hM14⟩
theorem mf_X9 {n : Nat} {K : SK} {M : MM} {a0 : Nat} (hK : n ≤ K.1) (ha : n ≤ a0) : n ≤ (kX9_init K M a0).1.1 ∧ ∀ c, c < n → (kX9_init K M a0).2.1 c = M.1 c := by
  unfold kX9_init
  have hM : ∀ c, c < n → M.1 c = M.1 c := fun _ _ => rfl
  refine bnd_p (P := fun q : SK × MM => n ≤ q.1.1 ∧ ∀ c, c < n → q.2.1 c = M.1 c) (fun K1 eK1 => ?_)
  have hK1 : n ≤ K1.1 := by rw [eK1]; exact Nat.le_succ_of_le hK
  refine bnd_p (P := fun q : SK × MM => n ≤ q.1.1 ∧ ∀ c, c < n → q.2.1 c = M.1 c) (fun M6 eM6 => ?_)
  have hM6 : ∀ c, c < n → M6.1 c = M.1 c := fun c hc => by
    rw [eM6]
    show (if c = K.1 then _ else M.1 c) = _
    exact (if_neg (by omega)).trans (hM c hc)
  refine bnd_p (P := fun q : SK × MM => n ≤ q.1.1 ∧ ∀ c, c < n → q.2.1 c = M.1 c) (fun K8 eK8 => ?_)
  have hK8 : n ≤ K8.1 := by rw [eK8]; exact hK1
  refine bnd_p (P := fun q : SK × MM => n ≤ q.1.1 ∧ ∀ c, c < n → q.2.1 c = M.1 c) (fun K13 eK13 => ?_)
  have hK13 : n ≤ K13.1 := by rw [eK13]; exact Nat.le_succ_of_le hK8
  refine bnd_p (P := fun q : SK × MM => n ≤ q.1.1 ∧ ∀ c, c < n → q.2.1 c = M.1 c) (fun M19 eM19 => ?_)
  have hM19 : ∀ c, c < n → M19.1 c = M.1 c := fun c hc => by
    rw [eM19]
    show (if c = K8.1 then _ else M6.1 c) = _
    exact (if_neg (by omega)).trans (hM6 c hc)
  refine bnd_p (P := fun q : SK × MM => n ≤ q.1.1 ∧ ∀ c, c < n → q.2.1 c = M.1 c) (fun K21 eK21 => ?_)
  have hK21 : n ≤ K21.1 := by rw [eK21]; exact hK13
  refine bnd_p (P := fun q : SK × MM => n ≤ q.1.1 ∧ ∀ c, c < n → q.2.1 c = M.1 c) (fun K28 eK28 => ?_)
  have hK28 : n ≤ K28.1 := by rw [eK28]; exact Nat.le_succ_of_le hK21
  refine bnd_p (P := fun q : SK × MM => n ≤ q.1.1 ∧ ∀ c, c < n → q.2.1 c = M.1 c) (fun M36 eM36 => ?_)
  have hM36 : ∀ c, c < n → M36.1 c = M.1 c := fun c hc => by
    rw [eM36]
    show (if c = K21.1 then _ else M19.1 c) = _
    exact (if_neg (by omega)).trans (hM19 c hc)
  refine bnd_p (P := fun q : SK × MM => n ≤ q.1.1 ∧ ∀ c, c < n → q.2.1 c = M.1 c) (fun K38 eK38 => ?_)
  have hK38 : n ≤ K38.1 := by rw [eK38]; exact hK28
  refine bnd_p (P := fun q : SK × MM => n ≤ q.1.1 ∧ ∀ c, c < n → q.2.1 c = M.1 c) (fun K47 eK47 => ?_)
  have hK47 : n ≤ K47.1 := by rw [eK47]; exact Nat.le_succ_of_le hK38
  refine bnd_p (P := fun q : SK × MM => n ≤ q.1.1 ∧ ∀ c, c < n → q.2.1 c = M.1 c) (fun M57 eM57 => ?_)
  have hM57 : ∀ c, c < n → M57.1 c = M.1 c := fun c hc => by
    rw [eM57]
    show (if c = K38.1 then _ else M36.1 c) = _
    exact (if_neg (by omega)).trans (hM36 c hc)
  refine bnd_p (P := fun q : SK × MM => n ≤ q.1.1 ∧ ∀ c, c < n → q.2.1 c = M.1 c) (fun K59 eK59 => ?_)
  have hK59 : n ≤ K59.1 := by rw [eK59]; exact hK47
  refine bnd_p (P := fun q : SK × MM => n ≤ q.1.1 ∧ ∀ c, c < n → q.2.1 c = M.1 c) (fun K70 eK70 => ?_)
  have hK70 : n ≤ K70.1 := by rw [eK70]; exact Nat.le_succ_of_le hK59
  refine bnd_p (P := fun q : SK × MM => n ≤ q.1.1 ∧ ∀ c, c < n → q.2.1 c = M.1 c) (fun M82 eM82 => ?_)
  have hM82 : ∀ c, c < n → M82.1 c = M.1 c := fun c hc => by
    rw [eM82]
    show (if c = K59.1 then _ else M57.1 c) = _
    exact (if_neg (by omega)).trans (hM57 c hc)
  refine bnd_p (P := fun q : SK × MM => n ≤ q.1.1 ∧ ∀ c, c < n → q.2.1 c = M.1 c) (fun K84 eK84 => ?_)
  have hK84 : n ≤ K84.1 := by rw [eK84]; exact hK70
  refine bnd_p (P := fun q : SK × MM => n ≤ q.1.1 ∧ ∀ c, c < n → q.2.1 c = M.1 c) (fun K97 eK97 => ?_)
  have hK97 : n ≤ K97.1 := by rw [eK97]; exact Nat.le_succ_of_le hK84
  refine bnd_p (P := fun q : SK × MM => n ≤ q.1.1 ∧ ∀ c, c < n → q.2.1 c = M.1 c) (fun M111 eM111 => ?_)
  have hM111 : ∀ c, c < n → M111.1 c = M.1 c := fun c hc => by
    rw [eM111]
    show (if c = K84.1 then _ else M82.1 c) = _
    exact (if_neg (by omega)).trans (hM82 c hc)
  refine bnd_p (P := fun q : SK × MM => n ≤ q.1.1 ∧ ∀ c, c < n → q.2.1 c = M.1 c) (fun K113 eK113 => ?_)
  have hK113 : n ≤ K113.1 := by rw [eK113]; exact (mf_X5 hK97 hK84).1
  refine bnd_p (P := fun q : SK × MM => n ≤ q.1.1 ∧ ∀ c, c < n → q.2.1 c = M.1 c) (fun M127 eM127 => ?_)
  have hM127 : ∀ c, c < n → M127.1 c = M.1 c := fun c hc => by rw [eM127]; exact ((mf_X5 hK97 hK84).2 c hc).trans (hM111 c hc)
  refine bnd_p (P := fun q : SK × MM => n ≤ q.1.1 ∧ ∀ c, c < n → q.2.1 c = M.1 c) (fun K129 eK129 => ?_)
  have hK129 : n ≤ K129.1 := by rw [eK129]; exact hK113
  refine bnd_p (P := fun q : SK × MM => n ≤ q.1.1 ∧ ∀ c, c < n → q.2.1 c = M.1 c) (fun K143 eK143 => ?_)
  have hK143 : n ≤ K143.1 := by rw [eK143]; exact Nat.le_succ_of_le hK129
  refine bnd_p (P := fun q : SK × MM => n ≤ q.1.1 ∧ ∀ c, c < n → q.2.1 c = M.1 c) (fun M158 eM158 => ?_)
  have hM158 : ∀ c, c < n → M158.1 c = M.1 c := fun c hc => by
    rw [eM158]
    show (if c = K129.1 then _ else M127.1 c) = _
    exact (if_neg (by omega)).trans (hM127 c hc)
  refine bnd_p (P := fun q : SK × MM => n ≤ q.1.1 ∧ ∀ c, c < n → q.2.1 c = M.1 c) (fun K160 eK160 => ?_)
  have hK160 : n ≤ K160.1 := by rw [eK160]; exact (mf_X4 hK143 hK129).1
  refine bnd_p (P := fun q : SK × MM => n ≤ q.1.1 ∧ ∀ c, c < n → q.2.1 c = M.1 c) (fun M175 eM175 => ?_)
  have hM175 : ∀ c, c < n → M175.1 c = M.1 c := fun c hc => by rw [eM175]; exact ((mf_X4 hK143 hK129).2 c hc).trans (hM158 c hc)
  refine bnd_p (P := fun q : SK × MM => n ≤ q.1.1 ∧ ∀ c, c < n → q.2.1 c = M.1 c) (fun K177 eK177 => ?_)
  have hK177 : n ≤ K177.1 := by rw [eK177]; exact hK160
  refine bnd_p (P := fun q : SK × MM => n ≤ q.1.1 ∧ ∀ c, c < n → q.2.1 c = M.1 c) (fun K192 eK192 => ?_)
  have hK192 : n ≤ K192.1 := by rw [eK192]; exact Nat.le_succ_of_le hK177
  refine bnd_p (P := fun q : SK × MM => n ≤ q.1.1 ∧ ∀ c, c < n → q.2.1 c = M.1 c) (fun M208 eM208 => ?_)
  have hM208 : ∀ c, c < n → M208.1 c = M.1 c := fun c hc => by
    rw [eM208]
    show (if c = K177.1 then _ else M175.1 c) = _
    exact (if_neg (by omega)).trans (hM175 c hc)
  refine bnd_p (P := fun q : SK × MM => n ≤ q.1.1 ∧ ∀ c, c < n → q.2.1 c = M.1 c) (fun K210 eK210 => ?_)
  have hK210 : n ≤ K210.1 := by rw [eK210]; exact (mf_X2 hK192 hK177).1
  refine bnd_p (P := fun q : SK × MM => n ≤ q.1.1 ∧ ∀ c, c < n → q.2.1 c = M.1 c) (fun M226 eM226 => ?_)
  have hM226 : ∀ c, c < n → M226.1 c = M.1 c := fun c hc => by rw [eM226]; exact ((mf_X2 hK192 hK177).2 c hc).trans (hM208 c hc)
  refine bnd_p (P := fun q : SK × MM => n ≤ q.1.1 ∧ ∀ c, c < n → q.2.1 c = M.1 c) (fun K228 eK228 => ?_)
  have hK228 : n ≤ K228.1 := by rw [eK228]; exact hK210
  refine bnd_p (P := fun q : SK × MM => n ≤ q.1.1 ∧ ∀ c, c < n → q.2.1 c = M.1 c) (fun K244 eK244 => ?_)
  have hK244 : n ≤ K244.1 := by rw [eK244]; exact Nat.le_succ_of_le hK228
  refine bnd_p (P := fun q : SK × MM => n ≤ q.1.1 ∧ ∀ c, c < n → q.2.1 c = M.1 c) (fun M261 eM261 => ?_)
  have hM261 : ∀ c, c < n → M261.1 c = M.1 c := fun c hc => by
    rw [eM261]
    show (if c = K228.1 then _ else M226.1 c) = _
    exact (if_neg (by omega)).trans (hM226 c hc)
  refine bnd_p (P := fun q : SK × MM => n ≤ q.1.1 ∧ ∀ c, c < n → q.2.1 c = M.1 c) (fun K263 eK263 => ?_)
  have hK263 : n ≤ K263.1 := by rw [eK263]; exact (mf_X8 hK244 hK228).1
  refine bnd_p (P := fun q : SK × MM => n ≤ q.1.1 ∧ ∀ c, c < n → q.2.1 c = M.1 c) (fun M280 eM280 => ?_)
  have hM280 : ∀ c, c < n → M280.1 c = M.1 c := fun c hc => by rw [eM280]; exact ((mf_X8 hK244 hK228).2 c hc).trans (hM261 c hc)
  refine bnd_p (P := fun q : SK × MM => n ≤ q.1.1 ∧ ∀ c, c < n → q.2.1 c = M.1 c) (fun K282 eK282 => ?_)
  have hK282 : n ≤ K282.1 := by rw [eK282]; exact hK263
  refine bnd_p (P := fun q : SK × MM => n ≤ q.1.1 ∧ ∀ c, c < n → q.2.1 c = M.1 c) (fun K299 eK299 => ?_)
  have hK299 : n ≤ K299.1 := by rw [eK299]; exact Nat.le_succ_of_le hK282
  refine bnd_p (P := fun q : SK × MM => n ≤ q.1.1 ∧ ∀ c, c < n → q.2.1 c = M.1 c) (fun M317 eM317 => ?_)
  have hM317 : ∀ c, c < n → M317.1 c = M.1 c := fun c hc => by
    rw [eM317]
    show (if c = K282.1 then _ else M280.1 c) = _
    exact (if_neg (by omega)).trans (hM280 c hc)
  refine bnd_p (P := fun q : SK × MM => n ≤ q.1.1 ∧ ∀ c, c < n → q.2.1 c = M.1 c) (fun K319 eK319 => ?_)
  have hK319 : n ≤ K319.1 := by rw [eK319]; exact (mf_X5 hK299 hK282).1
  refine bnd_p (P := fun q : SK × MM => n ≤ q.1.1 ∧ ∀ c, c < n → q.2.1 c = M.1 c) (fun M337 eM337 => ?_)
  have hM337 : ∀ c, c < n → M337.1 c = M.1 c := fun c hc => by rw [eM337]; exact ((mf_X5 hK299 hK282).2 c hc).trans (hM317 c hc)
  refine bnd_p (P := fun q : SK × MM => n ≤ q.1.1 ∧ ∀ c, c < n → q.2.1 c = M.1 c) (fun K339 eK339 => ?_)
  have hK339 : n ≤ K339.1 := by rw [eK339]; exact hK319
  refine bnd_p (P := fun q : SK × MM => n ≤ q.1.1 ∧ ∀ c, c < n → q.2.1 c = M.1 c) (fun K357 eK357 => ?_)
  have hK357 : n ≤ K357.1 := by rw [eK357]; exact Nat.le_succ_of_le hK339
  refine bnd_p (P := fun q : SK × MM => n ≤ q.1.1 ∧ ∀ c, c < n → q.2.1 c = M.1 c) (fun M376 eM376 => ?_)
  have hM376 : ∀ c, c < n → M376.1 c = M.1 c := fun c hc => by
    rw [eM376]
    show (if c = K339.1 then _ else M337.1 c) = _
    exact (if_neg (by omega)).trans (hM337 c hc)
  refine bnd_p (P := fun q : SK × MM => n ≤ q.1.1 ∧ ∀ c, c < n → q.2.1 c = M.1 c) (fun K378 eK378 => ?_)
  have hK378 : n ≤ K378.1 := by rw [eK378]; exact (mf_X4 hK357 hK339).1
  refine bnd_p (P := fun q : SK × MM => n ≤ q.1.1 ∧ ∀ c, c < n → q.2.1 c = M.1 c) (fun M397 eM397 => ?_)
  have hM397 : ∀ c, c < n → M397.1 c = M.1 c := fun c hc => by rw [eM397]; exact ((mf_X4 hK357 hK339).2 c hc).trans (hM376 c hc)
  refine bnd_p (P := fun q : SK × MM => n ≤ q.1.1 ∧ ∀ c, c < n → q.2.1 c = M.1 c) (fun K399 eK399 => ?_)
  have hK399 : n ≤ K399.1 := by rw [eK399]; exact hK378
  refine bnd_p (P := fun q : SK × MM => n ≤ q.1.1 ∧ ∀ c, c < n → q.2.1 c = M.1 c) (fun K418 eK418 => ?_)
  have hK418 : n ≤ K418.1 := by rw [eK418]; exact Nat.le_succ_of_le hK399
  refine bnd_p (P := fun q : SK × MM => n ≤ q.1.1 ∧ ∀ c, c < n → q.2.1 c = M.1 c) (fun M438 eM438 => ?_)
  have hM438 : ∀ c, c < n → M438.1 c = M.1 c := fun c hc => by
    rw [eM438]
    show (if c = K399.1 then _ else M397.1 c) = _
    exact (if_neg (by omega)).trans (hM397 c hc)
  refine bnd_p (P := fun q : SK × MM => n ≤ q.1.1 ∧ ∀ c, c < n → q.2.1 c = M.1 c) (fun K440 eK440 => ?_)
  have hK440 : n ≤ K440.1 := by rw [eK440]; exact (mf_X2 hK418 hK399).1
  refine bnd_p (P := fun q : SK × MM => n ≤ q.1.1 ∧ ∀ c, c < n → q.2.1 c = M.1 c) (fun M460 eM460 => ?_)
  have hM460 : ∀ c, c < n → M460.1 c = M.1 c := fun c hc => by rw [eM460]; exact ((mf_X2 hK418 hK399).2 c hc).trans (hM438 c hc)
  refine bnd_p (P := fun q : SK × MM => n ≤ q.1.1 ∧ ∀ c, c < n → q.2.1 c = M.1 c) (fun K462 eK462 => ?_)
  have hK462 : n ≤ K462.1 := by rw [eK462]; exact hK440
  refine bnd_p (P := fun q : SK × MM => n ≤ q.1.1 ∧ ∀ c, c < n → q.2.1 c = M.1 c) (fun K482 eK482 => ?_)
  have hK482 : n ≤ K482.1 := by rw [eK482]; exact Nat.le_succ_of_le hK462
  refine bnd_p (P := fun q : SK × MM => n ≤ q.1.1 ∧ ∀ c, c < n → q.2.1 c = M.1 c) (fun M503 eM503 => ?_)
  have hM503 : ∀ c, c < n → M503.1 c = M.1 c := fun c hc => by
    rw [eM503]
    show (if c = K462.1 then _ else M460.1 c) = _
    exact (if_neg (by omega)).trans (hM460 c hc)
  refine bnd_p (P := fun q : SK × MM => n ≤ q.1.1 ∧ ∀ c, c < n → q.2.1 c = M.1 c) (fun K505 eK505 => ?_)
  have hK505 : n ≤ K505.1 := by rw [eK505]; exact (mf_X8 hK482 hK462).1
  refine bnd_p (P := fun q : SK × MM => n ≤ q.1.1 ∧ ∀ c, c < n → q.2.1 c = M.1 c) (fun M526 eM526 => ?_)
  have hM526 : ∀ c, c < n → M526.1 c = M.1 c := fun c hc => by rw [eM526]; exact ((mf_X8 hK482 hK462).2 c hc).trans (hM503 c hc)
  refine bnd_p (P := fun q : SK × MM => n ≤ q.1.1 ∧ ∀ c, c < n → q.2.1 c = M.1 c) (fun K528 eK528 => ?_)
  have hK528 : n ≤ K528.1 := by rw [eK528]; exact hK505
  refine bnd_p (P := fun q : SK × MM => n ≤ q.1.1 ∧ ∀ c, c < n → q.2.1 c = M.1 c) (fun K549 eK549 => ?_)
  have hK549 : n ≤ K549.1 := by rw [eK549]; exact Nat.le_succ_of_le hK528
  refine bnd_p (P := fun q : SK × MM => n ≤ q.1.1 ∧ ∀ c, c < n → q.2.1 c = M.1 c) (fun M571 eM571 => ?_)
  have hM571 : ∀ c, c < n → M571.1 c = M.1 c := fun c hc => by
    rw [eM571]
    show (if c = K528.1 then _ else M526.1 c) = _
    exact (if_neg (by omega)).trans (hM526 c hc)
  refine bnd_p (P := fun q : SK × MM => n ≤ q.1.1 ∧ ∀ c, c < n → q.2.1 c = M.1 c) (fun K573 eK573 => ?_)
  have hK573 : n ≤ K573.1 := by rw [eK573]; exact hK549
  refine bnd_p (P := fun q : SK × MM => n ≤ q.1.1 ∧ ∀ c, c < n → q.2.1 c = M.1 c) (fun M595 eM595 => ?_)
  have hM595 : ∀ c, c < n → M595.1 c = M.1 c := fun c hc => by
    rw [eM595]; exact (sI_ne (by omega)).trans (hM571 c hc)
  exact ⟨hK573, hM595⟩
/-! ===== image ===== -/
theorem img_ref {M : MM} {j : Nat} (hj : j < 3) : ∃ M2, (Fr [91] M M2 ∧ (∀ i, i < 1130 → gI M2 91 (1130 * (j + 1) + i) = gI M 91 i) ∧ ∀ i, (i < 1130 * (j + 1) ∨ 1130 * (j + 1) + 1130 ≤ i) → gI M2 91 i = gI M 91 i) ∧ ∀ _k : Unit, fX12_image_l20 FU M (nI j) (nI 0) = some (1, M2) := by
  refine lpk (κ := Unit) (σ := MM × Nat) (fun _ f st => fX12_image_l20 f st.1 (nI j) (nI st.2)) (fun _ M2 => some (1, M2)) 1130
    (fun i st => i = st.2 ∧ Fr [91] M st.1 ∧ (∀ x, x < i → gI st.1 91 (1130 * (j + 1) + x) = gI M 91 x) ∧ ∀ x, (x < 1130 * (j + 1) ∨ 1130 * (j + 1) + i ≤ x) → gI st.1 91 x = gI M 91 x) _ ?_ ?_ FU 0 (M, 0) (by omega) (by decide) ⟨rfl, Fr.rfl, fun x hx => absurd hx (Nat.not_lt_zero x), fun _ _ => rfl⟩
  · rintro i ⟨M1, i2⟩ hi ⟨rfl, hF, b1, b2⟩
    left
    simp only [] at hF b1 b2
    refine ⟨(sI M1 91 (1130 * (j + 1) + i) (gI M1 91 i), i + 1), ⟨rfl, hF.pI (by decide), fun x hx => ?_, fun x hx => ?_⟩, fun _ f => ?_⟩
    · show gI (sI M1 91 (1130 * (j + 1) + i) _) 91 (1130 * (j + 1) + x) = _
      by_cases e : x = i
      · rw [e, gI_eq]; exact b2 _ (by omega)
      · rw [gI_nk _ _ _ _ _ _ (by omega)]; exact b1 x (by omega)
    · show gI (sI M1 91 (1130 * (j + 1) + i) _) 91 x = _
      rw [gI_nk _ _ _ _ _ _ (by omega)]; exact b2 x (by omega)
    · show fX12_image_l20 (f + 1) M1 (nI j) (nI i) = _
      rw [fX12_image_l20.eq_2, show (1130 : Int32) = nI 1130 from rfl, le_f hi (by decide), nI_1, pk_mul, nI_add, gd_inb (by omega) (by decide), gd_inb (by omega) (by decide), ix_nI (by omega), ix_nI (by omega), bnd_r, nI_1]
  · rintro ⟨M1, i2⟩ ⟨rfl, hF, b1, b2⟩
    refine ⟨M1, ⟨hF, b1, b2⟩, fun _ f => ?_⟩
    show fX12_image_l20 (f + 1) M1 (nI j) (nI 1130) = _
    rw [fX12_image_l20.eq_2, if_pos (by decide)]
theorem img_fin {K K1 : SK} {M M0 : MM} {T : TOLD} {I : Nat → Option TOLD} {j a : Nat} (hj : j < 3) (hK1 : KI K1) (h115 : 115 ≤ K.1) (hR : RD M) (hW : TW T) (hC : CT M 1 T) (hM : MT M 0 T) (hB : BN M) (hIm : IM K M I) (hM0 : ∀ c, c < K.1 → M0.1 c = M.1 c)
    (e1 : K1.2.2 40 j = some a) (e2 : ∀ i, i ≠ j → K1.2.2 40 i = K.2.2 40 i) (e3 : K.1 ≤ K1.1) (e4 : 115 ≤ a) (e5 : a + 39 ≤ K1.1) (e6 : ∀ i b, i < 3 → i ≠ j → K.2.2 40 i = some b → a + 39 ≤ b ∨ b + 39 ≤ a) :
    ∃ M1 M2, fX9_copyFrom M0 a 1 = some M1 ∧ fX12_image M1 (nI j) = some (1, M2) ∧ Inv K1 M2 := by
  have hC0 : CT M0 1 T := CT_congr hW hC (fun c h1 h2 => hM0 c (by omega))
  obtain ⟨M1, d1, d2, d3⟩ := told_cp (a0 := a) hW hC0 (by omega)
  obtain ⟨M2, ⟨f1, f2, f3⟩, f4⟩ := img_ref (M := sI M1 92 j (vp_nar .boolean 1)) hj
  have r1 : fX12_isIn (nI j) 0 2 = 1 := isIn3_yes (n := 2) (by decide) (by omega)
  have k : ∀ c, c < K.1 → (c < a ∨ a + 38 < c) → c ≠ 91 → c ≠ 92 → M2.1 c = M.1 c := fun c h0 h1 h2 h3 => by
    rw [(f1 c (by simp [h2])).1, sI_ne h3, d2 c h1, hM0 c h0]
  have g91 : ∀ i, gI (sI M1 92 j (vp_nar .boolean 1)) 91 i = gI M 91 i := fun i => by
    rw [gI_ne _ _ _ _ _ _ (by decide), d2.gi (by omega), gI_of (hM0 91 (by omega))]
  have hCa : CT M2 a T := CT_congr hW d3 (fun c h1 h2 => by rw [(f1 c (by simp; omega)).1, sI_ne (by omega)])
  have g92 : ∀ i, gI M2 92 i = if i = j then 1 else gI M 92 i := fun i => by
    rw [f1.gi (by decide)]
    by_cases c : i = j
    · rw [if_pos c, c, gI_eq]; rfl
    · rw [if_neg c, gI_nk _ _ _ _ _ _ c, d2.gi (by omega), gI_of (hM0 92 (by omega))]
  refine ⟨M1, M2, d1, ?_, ⟨hK1, RD_congr hR (k 47 (by omega) (by omega) (by decide) (by decide))⟩, T, fun i => if i = j then some T else I i, hW, CT_congr hW hC (fun c h1 h2 => k c (by omega) (by omega) (by omega) (by omega)), MT_congr hW hM (fun i hi => by rw [Nat.zero_add, f3 i (by omega), g91]), BN_congr hB (k 60 (by omega) (by omega) (by decide) (by decide)) (k 73 (by omega) (by omega) (by decide) (by decide)), fun i hi => ?_⟩
  · unfold fX12_image
    rw [r1, if_neg i10, gd_inb hj (by decide), bnd_r, ix_nI (by omega)]
    exact f4 ()
  · by_cases c : i = j
    · subst c
      simp only [if_true]
      refine ⟨by rw [g92, if_pos rfl], hW, MT_shift hW hM (fun x hx => by rw [f2 x hx, g91, Nat.zero_add]), a, e1, e4, e5, hCa, fun x b hx hxj hb => ?_⟩
      rw [e2 x hxj] at hb
      exact e6 x b hx hxj hb
    · simp only [if_neg c]
      have hh := hIm i hi
      cases hU : I i with
      | none =>
        rw [hU] at hh
        exact ⟨by rw [g92, if_neg c]; exact hh.1, by rw [e2 i c]; exact hh.2⟩
      | some U =>
        rw [hU] at hh
        obtain ⟨b1, b2, b3, b, b4, b5, b6, b7, b8⟩ := hh
        have hab := e6 i b hi c b4
        refine ⟨by rw [g92, if_neg c]; exact b1, b2, MT_congr b2 b3 (fun x hx => by rw [f3 _ (by omega), g91]), b, by rw [e2 i c]; exact b4, b5, by omega, CT_congr b2 b7 (fun q h1 h2 => k q (by omega) (by omega) (by omega) (by omega)), fun x d hx hxi hd => ?_⟩
        by_cases cx : x = j
        · rw [cx, e1] at hd
          have := Option.some.inj hd
          omega
        · rw [e2 x cx] at hd
          exact b8 x d hx hxi hd
theorem Td_img {K : SK} {M : MM} {j a : Nat} (hL : Lay K) (h : Td K a) : Td (imgK K M j) a := by
  have hk := keep_X9_init (kNew K 9 0) (zM M K.1) K.1
  have hn1 : (kNew K 9 0).1 = K.1 + 1 := rfl
  have hq : ∀ q ∈ tdR, q.1 < 39 ∧ (tdT.getD q.1 (0, 0)).1 ≠ 28 := by decide +kernel
  obtain ⟨t1, t2⟩ := h
  have hcell : ∀ c, c < 39 → a + c < K.1 := fun c hc => (t1 c hc).1
  refine ⟨fun c hc => ⟨?_, ?_⟩, fun q hq2 => ?_⟩
  · have h1 := hk.1
    have h2 := hcell c hc
    show a + c < (kX9_init (kNew K 9 0) (zM M K.1) K.1).1.1
    omega
  · have h2 := hcell c hc
    show (kX9_init (kNew K 9 0) (zM M K.1) K.1).1.2.1 (a + c) = _
    rw [(hk.2 (a + c) (by omega)).1]
    show (if a + c = K.1 then (9, 0) else K.2.1 (a + c)) = _
    rw [if_neg (by omega)]
    exact (t1 c hc).2
  · obtain ⟨z1, z2⟩ := hq q hq2
    have h2 := hcell q.1 z1
    have hne : a + q.1 ≠ 40 := fun e => z2 (by
      have h3 := (t1 q.1 z1).2
      rw [e, hL.2.1 40 (by decide)] at h3
      have h4 : (28, 3) = ((tdT.getD q.1 (0, 0)).1, (tdT.getD q.1 (0, 0)).2) := h3
      exact (congrArg Prod.fst h4).symm)
    show (if a + q.1 = 40 then _ else (kX9_init (kNew K 9 0) (zM M K.1) K.1).1.2.2 (a + q.1)) q.2.1 = _
    rw [if_neg hne, (hk.2 (a + q.1) (by omega)).2 (by omega)]
    show (if a + q.1 = K.1 then fun _ => none else K.2.2 (a + q.1)) q.2.1 = _
    rw [if_neg (by omega)]
    exact t2 q hq2
theorem e32 : E32 Inv := by
  intro K M x1 hI
  obtain ⟨hK, T, I, hW, hC, hM, hB, hIm⟩ := id hI
  have h115 := hK.1.1.1
  unfold fX11_image
  rcases rng x1 (n := 3) (by decide) with h | ⟨j, hj, rfl⟩
  · refine ⟨0, K, M, M, ?_, by unfold fX12_image; rw [nl2, isIn3_no (by decide) h, if_pos rfl], hI⟩
    rcases h with h | h
    · rw [if_pos h]
    · by_cases c : x1 < 0
      · rw [if_pos c]
      · rw [if_neg c, if_neg (show ¬ x1 < 3 from fun q => by
          have h1 := (le_toInt (n := 3) (by decide)).mp h
          have h2 := (lt_toInt (n := 3) (by decide)).mp q
          omega)]
  · rw [if_neg (nI_pos (by omega)), if_pos (show nI j < 3 from nI_lt (b := 3) hj (by decide)), gd_inb hj (by decide), ix_nI (by omega)]
    have hh := hIm j hj
    cases hU : I j with
    | none =>
      rw [hU] at hh
      obtain ⟨-, b2⟩ := hh
      obtain ⟨hL2, hT2⟩ := img_ok hK.1.1 M j
      have ho := img_ov K M
      have hk := keep_X9_init (kNew K 9 0) (zM M K.1) K.1
      have hn1 : (kNew K 9 0).1 = K.1 + 1 := rfl
      have eK : (imgK K M j).1 = K.1 + 39 := by
        show (kX9_init (kNew K 9 0) (zM M K.1) K.1).1.1 = _
        rw [ho.1, tdB_n]
      have e1 : (imgK K M j).2.2 40 j = some K.1 := by unfold imgK; exact ref_set_eq
      have e2 : ∀ i, i ≠ j → (imgK K M j).2.2 40 i = K.2.2 40 i := fun i hi => by
        have h1 : (imgK K M j).2.2 40 i = (kX9_init (kNew K 9 0) (zM M K.1) K.1).1.2.2 40 i := by
          unfold imgK kSet
          simp only [if_true]
          rw [if_neg hi]
        rw [h1, (hk.2 40 (by omega)).2 (by omega)]
        show (if 40 = K.1 then fun _ => none else K.2.2 40) i = _
        rw [if_neg (by omega)]
      have hblk : ∀ i b, i < 3 → i ≠ j → K.2.2 40 i = some b → b + 39 ≤ K.1 := fun i b hi hij hb => by
        have h2 := hIm i hi
        cases hV : I i with
        | none => rw [hV] at h2; rw [h2.2] at hb; cases hb
        | some V =>
          rw [hV] at h2
          obtain ⟨-, -, -, b', c4, -, c6, -⟩ := h2
          rw [c4] at hb
          have := Option.some.inj hb
          omega
      have hKI : KI (imgK K M j) := ⟨hL2, fun i a ha => by
        by_cases c : i = j
        · rw [c, e1] at ha
          rw [← Option.some.inj ha]; exact hT2
        · rw [e2 i c] at ha
          exact Td_img hK.1.1 (hK.1.2 i a ha)⟩
      have hz : ∀ c, c < K.1 → (kX9_init (kNew K 9 0) (zM M K.1) K.1).2.1 c = M.1 c := fun c hc => by
        rw [(mf_X9 (n := K.1) (K := kNew K 9 0) (M := zM M K.1) (a0 := K.1) (by omega) (Nat.le_refl _)).2 c hc]
        show (if c = K.1 then _ else M.1 c) = _
        rw [if_neg (by omega)]
      obtain ⟨M1, M2, a1, a2, a3⟩ := img_fin (M0 := (kX9_init (kNew K 9 0) (zM M K.1) K.1).2) hj hKI h115 hK.2 hW hC hM hB hIm hz e1 e2 (by omega) h115 (by omega) (fun i b hi hij hb => Or.inr (hblk i b hi hij hb))
      refine ⟨1, imgK K M j, M1, M2, ?_, a2, a3⟩
      rw [b2]
      show (fX9_copyFrom _ K.1 1).bind _ = _
      rw [a1]; rfl
    | some U =>
      rw [hU] at hh
      obtain ⟨b1, b2, b3, a, b4, b5, b6, b7, b8⟩ := hh
      obtain ⟨M1, M2, a1, a2, a3⟩ := img_fin (M0 := M) hj hK.1 h115 hK.2 hW hC hM hB hIm (fun _ _ => rfl) b4 (fun _ _ => rfl) (Nat.le_refl _) b5 b6 b8
      refine ⟨1, K, M1, M2, ?_, a2, a3⟩
      rw [b4]
      show (fX9_copyFrom M a 1).bind _ = _
      rw [a1]; rfl
/-! ===== the beginning ===== -/
def T00 : TOLD := (fun _ => 0, 0, 0, -1, fun _ => 0, fun _ => P00, fun _ => L00, fun _ => (0, fun _ _ => 0), fun _ _ => 0)
set_option maxHeartbeats 4000000 in
set_option maxRecDepth 100000 in
theorem kb_40 : ∀ j, KB.1.2.2 40 j = none := fun _ => rfl
theorem kb_47 : ∀ k, k < 8 → gI KB.2 47 k = 0 := by decide +kernel
theorem kb_2 : ∀ k, k < 4 → gI KB.2 2 k = 0 := by decide +kernel
theorem kb_1 : gI KB.2 1 6 = 0 ∧ gI KB.2 1 7 = 0 ∧ gI KB.2 1 8 = -1 := by decide +kernel
theorem kb_39 : ∀ k, k < 600 → gI KB.2 39 k = 0 := by decide +kernel
theorem kb_16 : isb (gI KB.2 16 1) = true ∧ isb (gI KB.2 32 1) = true := by decide +kernel
theorem kb_91 : ∀ k, k < 610 → gI KB.2 91 k = if k = 6 then -1 else 0 := by decide +kernel
theorem kb_60 : gI KB.2 60 5 = 0 ∧ gI KB.2 60 6 = 0 := by decide +kernel
theorem kb_92 : ∀ k, k < 3 → gI KB.2 92 k = 0 := by decide +kernel
theorem inv_init : Inv KB.1 KB.2 := by
  refine ⟨⟨⟨KB_lay, fun j a h => by rw [kb_40 j] at h; cases h⟩, fun k hk => ⟨0, by decide, by rw [kb_47 k hk]; rfl⟩⟩, T00, fun _ => none, ⟨fun _ _ => Nat.zero_le _, Nat.zero_le _, fun _ _ => (by decide : 0 < 256), fun k h => absurd h (Nat.not_lt_zero k), fun k h => absurd h (Nat.not_lt_zero k), fun k h => absurd h (Nat.not_lt_zero k), fun k h => absurd h (Nat.not_lt_zero k)⟩, ⟨fun s hs => kb_2 s hs, kb_1.1, kb_1.2.1, kb_1.2.2, fun i hi => by rw [kb_39 i hi]; rfl, fun k h => absurd h (Nat.not_lt_zero k), fun k h => absurd h (Nat.not_lt_zero k), fun k h => absurd h (Nat.not_lt_zero k), fun k h => absurd h (Nat.not_lt_zero k), fun k hk => ?_⟩, ⟨fun s hs => ?_, ?_, ?_, ?_, fun i hi => ?_, fun k h => absurd h (Nat.not_lt_zero k), fun k h => absurd h (Nat.not_lt_zero k), fun k h => absurd h (Nat.not_lt_zero k), fun k h => absurd h (Nat.not_lt_zero k)⟩, Or.inl kb_60, fun j hj => ⟨kb_92 j hj, kb_40 j⟩⟩
  · rcases (show k = 0 ∨ k = 1 by omega) with rfl | rfl
    · exact kb_16.1
    · exact kb_16.2
  · rw [kb_91 _ (by omega), if_neg (by omega)]; rfl
  · rw [kb_91 _ (by omega), if_neg (by omega)]; rfl
  · rw [kb_91 _ (by omega), if_neg (by omega)]; rfl
  · rw [kb_91 _ (by omega), if_pos (by omega)]; rfl
  · rw [kb_91 _ (by omega), if_neg (by omega)]; rfl
