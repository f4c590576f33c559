section
variable {p : Program} {l : Launch} {e : Env} {R : Room} {s : State} {m : MethodId} {args : Array Value} {below : List Frame} {meth : Method} {c : Code} {nL : Nat} {G : GG} {Q : State → Prop} {K : SK} {cells slots : Nat} {M : MM} {pc : Nat} {lv : List (Nat × Value)} {st : List Value}
theorem z_K {K2 : SK} (k : ∀ K3 : SK, K3 = K2 → Z p l e R s m args below meth c nL G Q K3 cells slots M pc lv st) : Z p l e R s m args below meth c nL G Q K2 cells slots M pc lv st := k K2 rfl
end
theorem bnd_ind {α β : Type} {P : β → Prop} {v : α} {f : α → β} (h : ∀ x, x = v → P (f x)) : P (bnd v f) := h v rfl
theorem isC_new0 {K : SK} {kd ln : Nat} : isC (kNew K kd ln) K.1 kd ln := ⟨Nat.lt_succ_self _, by simp [kNew]⟩
theorem isC_new {K : SK} {kd ln a k l : Nat} (h : isC K a k l) : isC (kNew K kd ln) a k l := ⟨Nat.lt_succ_of_lt h.1, by have := h.1; simp only [kNew]; rw [if_neg (by omega)]; exact h.2⟩
theorem isC_set {K : SK} {a k l x y z : Nat} (h : isC K a k l) : isC (kSet K x y z) a k l := h
theorem ref_new {K : SK} {kd ln a k l j b : Nat} (h : isC K a k l) (hr : K.2.2 a j = some b) : (kNew K kd ln).2.2 a j = some b := by have := h.1; simp only [kNew]; rw [if_neg (by omega)]; exact hr
theorem ref_set_eq {K : SK} {a k b : Nat} : (kSet K a k b).2.2 a k = some b := by simp [kSet]
theorem ref_set_ne {K : SK} {a k b a2 k2 b2 : Nat} (h : k2 ≠ k) (hr : K.2.2 a2 k2 = some b2) : (kSet K a k b).2.2 a2 k2 = some b2 := by
  simp only [kSet]
  by_cases e : a2 = a
  · subst e; simp [h, hr]
  · simp [e, hr]
theorem ref_set_nc {K : SK} {a k b a2 k2 b2 : Nat} (h : a2 ≠ a) (hr : K.2.2 a2 k2 = some b2) : (kSet K a k b).2.2 a2 k2 = some b2 := by simp [kSet, h, hr]
theorem isC_ne {K : SK} {a k l a2 k2 l2 : Nat} (h : isC K a k l) (h2 : isC K a2 k2 l2) (hne : k ≠ k2) : a ≠ a2 := fun e => hne (by have := h.2; rw [e, h2.2] at this; exact (Prod.mk.inj this).1.symm)
/-- what was there is kept, but for what a refers to -/
def Keep (K K2 : SK) (a : Nat) : Prop := K.1 ≤ K2.1 ∧ ∀ c, c < K.1 → K2.2.1 c = K.2.1 c ∧ (c ≠ a → K2.2.2 c = K.2.2 c)
theorem Keep.rfl {K : SK} {a : Nat} : Keep K K a := ⟨Nat.le_refl _, fun _ _ => ⟨Eq.refl _, fun _ => Eq.refl _⟩⟩
theorem Keep.new {K K1 : SK} {a kd ln : Nat} (h : Keep K K1 a) : Keep K (kNew K1 kd ln) a := ⟨Nat.le_succ_of_le h.1, fun c hc => by
  have := h.1
  simp only [kNew]
  rw [if_neg (by omega), if_neg (by omega)]
  exact h.2 c hc⟩
theorem Keep.set {K K1 : SK} {a x k b : Nat} (h : Keep K K1 a) (hx : x = a ∨ K.1 ≤ x) : Keep K (kSet K1 x k b) a := ⟨h.1, fun c hc => ⟨(h.2 c hc).1, fun hne => by
  have hcx : c ≠ x := by rcases hx with rfl | hx; exact hne; omega
  simp only [kSet]
  rw [if_neg hcx]
  exact (h.2 c hc).2 hne⟩⟩
theorem Keep.sub {K K1 K2 : SK} {a x : Nat} (h : Keep K K1 a) (h2 : Keep K1 K2 x) (hx : x = a ∨ K.1 ≤ x) : Keep K K2 a := ⟨Nat.le_trans h.1 h2.1, fun c hc => by
  have hc1 : c < K1.1 := Nat.lt_of_lt_of_le hc h.1
  refine ⟨(h2.2 c hc1).1.trans (h.2 c hc).1, fun hne => ?_⟩
  have hcx : c ≠ x := by rcases hx with rfl | hx; exact hne; omega
  exact ((h2.2 c hc1).2 hcx).trans ((h.2 c hc).2 hne)⟩
theorem Keep.cell {K K2 : SK} {a c kd ln : Nat} (h : Keep K K2 a) (hc : isC K c kd ln) : isC K2 c kd ln := ⟨Nat.lt_of_lt_of_le hc.1 h.1, (h.2 c hc.1).1.trans hc.2⟩
theorem Keep.rf {K K2 : SK} {a c kd ln k b : Nat} (h : Keep K K2 a) (hc : isC K c kd ln) (hne : c ≠ a) (hr : K.2.2 c k = some b) : K2.2.2 c k = some b := by rw [(h.2 c hc.1).2 hne]; exact hr
theorem bnd_ind2 {α β α2 β2 : Type} {P : β → β2 → Prop} {v : α} {f : α → β} {v2 : α2} {f2 : α2 → β2} (h : ∀ x x2, x = v → x2 = v2 → P (f x) (f2 x2)) : P (bnd v f) (bnd v2 f2) := h v v2 rfl rfl
/-- K2 is, from its cell n on, what B is from 0 on -/
def Ov (n : Nat) (B K2 : SK) : Prop := K2.1 = n + B.1 ∧ ∀ c, c < B.1 → K2.2.1 (n + c) = B.2.1 c ∧ ∀ j, K2.2.2 (n + c) j = (B.2.2 c j).map (n + ·)
theorem Ov.new {n kd ln : Nat} {B K2 : SK} (h : Ov n B K2) : Ov n (kNew B kd ln) (kNew K2 kd ln) := by
  refine ⟨by simp only [kNew]; rw [h.1]; omega, fun c hc => ?_⟩
  have hc1 : c < B.1 + 1 := hc
  simp only [kNew]
  by_cases e : c = B.1
  · rw [if_pos (by rw [h.1, e]), if_pos e, if_pos (by rw [h.1, e]), if_pos e]
    exact ⟨rfl, fun _ => rfl⟩
  · rw [if_neg (by rw [h.1]; omega), if_neg e, if_neg (by rw [h.1]; omega), if_neg e]
    exact h.2 c (by omega)
theorem Ov.set {n a a2 k b b2 : Nat} {B K2 : SK} (h : Ov n B K2) (ha : a2 = n + a) (hb : b2 = n + b) : Ov n (kSet B a k b) (kSet K2 a2 k b2) := by
  refine ⟨h.1, fun c hc => ⟨(h.2 c hc).1, fun j => ?_⟩⟩
  subst ha; subst hb
  simp only [kSet]
  by_cases e : c = a
  · subst e
    rw [if_pos rfl, if_pos rfl]
    by_cases e2 : j = k
    · simp [e2]
    · simp only [e2, if_false]; exact (h.2 c hc).2 j
  · rw [if_neg (by omega), if_neg e]
    exact (h.2 c hc).2 j
theorem flI_0 (M : MM) (a : Nat) (v : Int32) : flI M a 0 v = M := by
  refine Prod.ext (funext fun c => ?_) (Eq.refl _)
  by_cases h : c = a
  · subst h; simp [flI]
  · simp [flI, h]
theorem flI_s (M : MM) (a i : Nat) (v : Int32) : sI (flI M a i v) a i v = flI M a (i + 1) v := by
  refine Prod.ext (funext fun c => ?_) (Eq.refl _)
  by_cases h : c = a
  · subst h
    funext j
    simp only [sI, flI, if_true, upd]
    by_cases hj : j = i
    · subst hj; simp
    · by_cases h2 : j < i
      · simp [hj, h2, Nat.lt_succ_of_lt h2]
      · simp [hj, h2, show ¬ j < i + 1 by omega]
  · simp [sI, flI, h]
theorem fill_loop (M : MM) (a n : Nat) (v : Int32) (hn : n < 2 ^ 31) : ∀ (k i : Nat), i ≤ n → n - i < k → fJ7_fill_53178_l5 a n k (flI M a i v) v (nI i) (nI n) = some (flI M a n v) := by
  intro k
  induction k with
  | zero => intro i _ h; omega
  | succ k ih =>
    intro i hi h
    rw [fJ7_fill_53178_l5.eq_2]
    rcases Nat.lt_or_ge i n with q | q
    · rw [if_neg (nI_ge q hn)]
      have hin : inb (nI i) n = true := decide_eq_true (vp_in_nI q hn)
      simp only [gd, hin, if_true, bnd]
      rw [show ix (nI i) = i from nI_clamp (by omega), flI_s, nI_1]
      exact ih (i + 1) q (by omega)
    · rw [if_pos (nI_le q (by omega)), show i = n by omega]
theorem fill_eq (M : MM) (a n : Nat) (hn : n < 5000) (v : Int32) : fJ7_fill_53178 M a n v = some (flI M a n v) := by
  unfold fJ7_fill_53178
  rw [show ∀ (v : Int32) (f : Int32 → Option MM), bnd v f = f v from fun _ _ => Eq.refl _, show (0 : Int32) = nI 0 from Eq.refl _]
  have h := fill_loop M a n v (by omega) FU 0 (Nat.zero_le _) (by show n - 0 < 5000; omega)
  rw [flI_0] at h
  exact h
theorem tfill (l : Launch) (G : GG) {K : SK} (M : MM) (a n : Nat) (h : isC K a 20 n) (hn : n < 5000) (v : Int32) : Ct l yJ7_fill_53178 cJ7_fill_53178 4 none 0 0 0 G K M [.ref (G.1 + a), .int v] none K (flI M a n v) := tJ7_fill_53178 l G M a n h v _ (fill_eq M a n hn v)

theorem df_X0 : ∀ k, k < nfl 0 → defaultValue (fty 0 k) = dfl (fty 0 k) := by decide +kernel
theorem df_X1 : ∀ k, k < nfl 1 → defaultValue (fty 1 k) = dfl (fty 1 k) := by decide +kernel
theorem df_X2 : ∀ k, k < nfl 2 → defaultValue (fty 2 k) = dfl (fty 2 k) := by decide +kernel
theorem df_X3 : ∀ k, k < nfl 3 → defaultValue (fty 3 k) = dfl (fty 3 k) := by decide +kernel
theorem df_X4 : ∀ k, k < nfl 4 → defaultValue (fty 4 k) = dfl (fty 4 k) := by decide +kernel
theorem df_X5 : ∀ k, k < nfl 5 → defaultValue (fty 5 k) = dfl (fty 5 k) := by decide +kernel
theorem df_X6 : ∀ k, k < nfl 6 → defaultValue (fty 6 k) = dfl (fty 6 k) := by decide +kernel
theorem df_X7 : ∀ k, k < nfl 7 → defaultValue (fty 7 k) = dfl (fty 7 k) := by decide +kernel
theorem df_X8 : ∀ k, k < nfl 8 → defaultValue (fty 8 k) = dfl (fty 8 k) := by decide +kernel
theorem df_X9 : ∀ k, k < nfl 9 → defaultValue (fty 9 k) = dfl (fty 9 k) := by decide +kernel
theorem df_X10 : ∀ k, k < nfl 10 → defaultValue (fty 10 k) = dfl (fty 10 k) := by decide +kernel
theorem df_X11 : ∀ k, k < nfl 11 → defaultValue (fty 11 k) = dfl (fty 11 k) := by decide +kernel
theorem df_X12 : ∀ k, k < nfl 12 → defaultValue (fty 12 k) = dfl (fty 12 k) := by decide +kernel
theorem q_oi : Cond.instanceMethod objectInit ∈ GW := gw_of 138 (by decide +kernel) (by decide +kernel)
set_option maxRecDepth 100000 in
theorem q_oc : Cond.code objectInit ⟨#[0xb1]⟩ 1 none ∈ GW := gw_of 139 rfl (by decide +kernel)
theorem q_ac_b : Cond.arrayClass .byte ∈ GW := gw_of 356 (by decide +kernel) (by decide +kernel)
theorem q_ac_i : Cond.arrayClass .int ∈ GW := gw_of 233 (by decide +kernel) (by decide +kernel)
theorem q_ac_l : Cond.arrayClass .long ∈ GW := gw_of 471 (by decide +kernel) (by decide +kernel)
theorem q_ac_z : Cond.arrayClass .boolean ∈ GW := gw_of 1486 (by decide +kernel) (by decide +kernel)
theorem q_cl_X0_9 : Cond.classLink RX0 9 RX5 ∈ GW := gw_of 424 (by decide +kernel) (by decide +kernel)
theorem q_cl_X11_20 : Cond.classLink RX11 20 RX7 ∈ GW := gw_of 358 (by decide +kernel) (by decide +kernel)
theorem q_cl_X11_27 : Cond.classLink RX11 27 RX0 ∈ GW := gw_of 418 (by decide +kernel) (by decide +kernel)
theorem q_cl_X11_34 : Cond.classLink RX11 34 RX6 ∈ GW := gw_of 472 (by decide +kernel) (by decide +kernel)
theorem q_cl_X11_43 : Cond.classLink RX11 43 RX1 ∈ GW := gw_of 494 (by decide +kernel) (by decide +kernel)
theorem q_cl_X11_50 : Cond.classLink RX11 50 RX10 ∈ GW := gw_of 515 (by decide +kernel) (by decide +kernel)
theorem q_cl_X11_57 : Cond.classLink RX11 57 RX3 ∈ GW := gw_of 538 (by decide +kernel) (by decide +kernel)
theorem q_cl_X11_7 : Cond.classLink RX11 7 RX9 ∈ GW := gw_of 140 (by decide +kernel) (by decide +kernel)
theorem q_cl_X7_18 : Cond.classLink RX7 18 RX4 ∈ GW := gw_of 366 (by decide +kernel) (by decide +kernel)
theorem q_cl_X7_25 : Cond.classLink RX7 25 RX2 ∈ GW := gw_of 368 (by decide +kernel) (by decide +kernel)
theorem q_cl_X7_32 : Cond.classLink RX7 32 RX8 ∈ GW := gw_of 370 (by decide +kernel) (by decide +kernel)
theorem q_cl_X7_9 : Cond.classLink RX7 9 RX5 ∈ GW := gw_of 364 (by decide +kernel) (by decide +kernel)
theorem q_cl_X9_15 : Cond.classLink RX9 15 RX5 ∈ GW := gw_of 146 (by decide +kernel) (by decide +kernel)
theorem q_cl_X9_21 : Cond.classLink RX9 21 RX4 ∈ GW := gw_of 148 (by decide +kernel) (by decide +kernel)
theorem q_cl_X9_27 : Cond.classLink RX9 27 RX2 ∈ GW := gw_of 150 (by decide +kernel) (by decide +kernel)
theorem q_cl_X9_33 : Cond.classLink RX9 33 RX8 ∈ GW := gw_of 152 (by decide +kernel) (by decide +kernel)
theorem q_in2_X0 : Cond.initialized RX0 ∈ GW := gw_of 119 (by decide +kernel) (by decide +kernel)
theorem q_in2_X1 : Cond.initialized RX1 ∈ GW := gw_of 121 (by decide +kernel) (by decide +kernel)
theorem q_in2_X10 : Cond.initialized RX10 ∈ GW := gw_of 122 (by decide +kernel) (by decide +kernel)
theorem q_in2_X11 : Cond.initialized RX11 ∈ GW := gw_of 111 (by decide +kernel) (by decide +kernel)
theorem q_in2_X12 : Cond.initialized RX12 ∈ GW := gw_of 124 (by decide +kernel) (by decide +kernel)
theorem q_in2_X2 : Cond.initialized RX2 ∈ GW := gw_of 115 (by decide +kernel) (by decide +kernel)
theorem q_in2_X3 : Cond.initialized RX3 ∈ GW := gw_of 123 (by decide +kernel) (by decide +kernel)
theorem q_in2_X4 : Cond.initialized RX4 ∈ GW := gw_of 114 (by decide +kernel) (by decide +kernel)
theorem q_in2_X5 : Cond.initialized RX5 ∈ GW := gw_of 113 (by decide +kernel) (by decide +kernel)
theorem q_in2_X6 : Cond.initialized RX6 ∈ GW := gw_of 120 (by decide +kernel) (by decide +kernel)
theorem q_in2_X7 : Cond.initialized RX7 ∈ GW := gw_of 118 (by decide +kernel) (by decide +kernel)
theorem q_in2_X8 : Cond.initialized RX8 ∈ GW := gw_of 116 (by decide +kernel) (by decide +kernel)
theorem q_in2_X9 : Cond.initialized RX9 ∈ GW := gw_of 112 (by decide +kernel) (by decide +kernel)
theorem q_is_X0 : Cond.instantiable RX0 12 ∈ GW := gw_of 419 (by decide +kernel) (by decide +kernel)
theorem q_is_X1 : Cond.instantiable RX1 4 ∈ GW := gw_of 495 (by decide +kernel) (by decide +kernel)
theorem q_is_X10 : Cond.instantiable RX10 5 ∈ GW := gw_of 516 (by decide +kernel) (by decide +kernel)
theorem q_is_X2 : Cond.instantiable RX2 4 ∈ GW := gw_of 271 (by decide +kernel) (by decide +kernel)
theorem q_is_X3 : Cond.instantiable RX3 7 ∈ GW := gw_of 539 (by decide +kernel) (by decide +kernel)
theorem q_is_X4 : Cond.instantiable RX4 6 ∈ GW := gw_of 234 (by decide +kernel) (by decide +kernel)
theorem q_is_X5 : Cond.instantiable RX5 13 ∈ GW := gw_of 154 (by decide +kernel) (by decide +kernel)
theorem q_is_X6 : Cond.instantiable RX6 5 ∈ GW := gw_of 473 (by decide +kernel) (by decide +kernel)
theorem q_is_X7 : Cond.instantiable RX7 13 ∈ GW := gw_of 359 (by decide +kernel) (by decide +kernel)
theorem q_is_X8 : Cond.instantiable RX8 2 ∈ GW := gw_of 298 (by decide +kernel) (by decide +kernel)
theorem q_is_X9 : Cond.instantiable RX9 9 ∈ GW := gw_of 141 (by decide +kernel) (by decide +kernel)
theorem q_ml_X0_11 : Cond.methodLink RX0 11 yX5_init ∈ GW := gw_of 425 (by decide +kernel) (by decide +kernel)
theorem q_ml_X0_3 : Cond.methodLink RX0 3 objectInit ∈ GW := gw_of 423 (by decide +kernel) (by decide +kernel)
theorem q_ml_X10_3 : Cond.methodLink RX10 3 objectInit ∈ GW := gw_of 520 (by decide +kernel) (by decide +kernel)
theorem q_ml_X11_1 : Cond.methodLink RX11 1 objectInit ∈ GW := gw_of 137 (by decide +kernel) (by decide +kernel)
theorem q_ml_X11_22 : Cond.methodLink RX11 22 yX7_init ∈ GW := gw_of 360 (by decide +kernel) (by decide +kernel)
theorem q_ml_X11_29 : Cond.methodLink RX11 29 yX0_init ∈ GW := gw_of 420 (by decide +kernel) (by decide +kernel)
theorem q_ml_X11_36 : Cond.methodLink RX11 36 yX6_init ∈ GW := gw_of 474 (by decide +kernel) (by decide +kernel)
theorem q_ml_X11_45 : Cond.methodLink RX11 45 yX1_init ∈ GW := gw_of 496 (by decide +kernel) (by decide +kernel)
theorem q_ml_X11_52 : Cond.methodLink RX11 52 yX10_init ∈ GW := gw_of 517 (by decide +kernel) (by decide +kernel)
theorem q_ml_X11_59 : Cond.methodLink RX11 59 yX3_init ∈ GW := gw_of 540 (by decide +kernel) (by decide +kernel)
theorem q_ml_X11_9 : Cond.methodLink RX11 9 yX9_init ∈ GW := gw_of 142 (by decide +kernel) (by decide +kernel)
theorem q_ml_X12_1 : Cond.methodLink RX12 1 objectInit ∈ GW := gw_of 1352 (by decide +kernel) (by decide +kernel)
theorem q_ml_X1_3 : Cond.methodLink RX1 3 objectInit ∈ GW := gw_of 499 (by decide +kernel) (by decide +kernel)
theorem q_ml_X2_3 : Cond.methodLink RX2 3 objectInit ∈ GW := gw_of 275 (by decide +kernel) (by decide +kernel)
theorem q_ml_X3_3 : Cond.methodLink RX3 3 objectInit ∈ GW := gw_of 543 (by decide +kernel) (by decide +kernel)
theorem q_ml_X4_3 : Cond.methodLink RX4 3 objectInit ∈ GW := gw_of 238 (by decide +kernel) (by decide +kernel)
theorem q_ml_X5_3 : Cond.methodLink RX5 3 objectInit ∈ GW := gw_of 158 (by decide +kernel) (by decide +kernel)
theorem q_ml_X6_3 : Cond.methodLink RX6 3 objectInit ∈ GW := gw_of 477 (by decide +kernel) (by decide +kernel)
theorem q_ml_X7_11 : Cond.methodLink RX7 11 yX5_init ∈ GW := gw_of 365 (by decide +kernel) (by decide +kernel)
theorem q_ml_X7_20 : Cond.methodLink RX7 20 yX4_init ∈ GW := gw_of 367 (by decide +kernel) (by decide +kernel)
theorem q_ml_X7_27 : Cond.methodLink RX7 27 yX2_init ∈ GW := gw_of 369 (by decide +kernel) (by decide +kernel)
theorem q_ml_X7_3 : Cond.methodLink RX7 3 objectInit ∈ GW := gw_of 363 (by decide +kernel) (by decide +kernel)
theorem q_ml_X7_34 : Cond.methodLink RX7 34 yX8_init ∈ GW := gw_of 371 (by decide +kernel) (by decide +kernel)
theorem q_ml_X8_3 : Cond.methodLink RX8 3 objectInit ∈ GW := gw_of 302 (by decide +kernel) (by decide +kernel)
theorem q_ml_X9_3 : Cond.methodLink RX9 3 objectInit ∈ GW := gw_of 145 (by decide +kernel) (by decide +kernel)
theorem q_ml_X9_39 : Cond.methodLink RX9 39 yX5_init ∈ GW := gw_of 155 (by decide +kernel) (by decide +kernel)
theorem q_ml_X9_40 : Cond.methodLink RX9 40 yX4_init ∈ GW := gw_of 235 (by decide +kernel) (by decide +kernel)
theorem q_ml_X9_41 : Cond.methodLink RX9 41 yX2_init ∈ GW := gw_of 272 (by decide +kernel) (by decide +kernel)
theorem q_ml_X9_42 : Cond.methodLink RX9 42 yX8_init ∈ GW := gw_of 299 (by decide +kernel) (by decide +kernel)
theorem dX5_init_0 : decode cX5_init 0 = .ok (.aload_n 0, 1) := by decide +kernel
theorem dX5_init_1 : decode cX5_init 1 = .ok (.invokespecial 3, 3) := by decide +kernel
theorem dX5_init_4 : decode cX5_init 4 = .ok (.aload_n 0, 1) := by decide +kernel
theorem dX5_init_5 : decode cX5_init 5 = .ok (.bipush 8, 2) := by decide +kernel
theorem dX5_init_7 : decode cX5_init 7 = .ok (.newarray .int, 2) := by decide +kernel
theorem dX5_init_9 : decode cX5_init 9 = .ok (.putfield 9, 3) := by decide +kernel
theorem dX5_init_12 : decode cX5_init 12 = .ok (.aload_n 0, 1) := by decide +kernel
theorem dX5_init_13 : decode cX5_init 13 = .ok (.bipush 8, 2) := by decide +kernel
theorem dX5_init_15 : decode cX5_init 15 = .ok (.newarray .int, 2) := by decide +kernel
theorem dX5_init_17 : decode cX5_init 17 = .ok (.putfield 15, 3) := by decide +kernel
theorem dX5_init_20 : decode cX5_init 20 = .ok (.aload_n 0, 1) := by decide +kernel
theorem dX5_init_21 : decode cX5_init 21 = .ok (.bipush 8, 2) := by decide +kernel
theorem dX5_init_23 : decode cX5_init 23 = .ok (.newarray .int, 2) := by decide +kernel
theorem dX5_init_25 : decode cX5_init 25 = .ok (.putfield 18, 3) := by decide +kernel
theorem dX5_init_28 : decode cX5_init 28 = .ok (.aload_n 0, 1) := by decide +kernel
theorem dX5_init_29 : decode cX5_init 29 = .ok (.bipush 8, 2) := by decide +kernel
theorem dX5_init_31 : decode cX5_init 31 = .ok (.newarray .int, 2) := by decide +kernel
theorem dX5_init_33 : decode cX5_init 33 = .ok (.putfield 21, 3) := by decide +kernel
theorem dX5_init_36 : decode cX5_init 36 = .ok (.aload_n 0, 1) := by decide +kernel
theorem dX5_init_37 : decode cX5_init 37 = .ok (.bipush 8, 2) := by decide +kernel
theorem dX5_init_39 : decode cX5_init 39 = .ok (.newarray .int, 2) := by decide +kernel
theorem dX5_init_41 : decode cX5_init 41 = .ok (.putfield 24, 3) := by decide +kernel
theorem dX5_init_44 : decode cX5_init 44 = .ok (.aload_n 0, 1) := by decide +kernel
theorem dX5_init_45 : decode cX5_init 45 = .ok (.bipush 8, 2) := by decide +kernel
theorem dX5_init_47 : decode cX5_init 47 = .ok (.newarray .int, 2) := by decide +kernel
theorem dX5_init_49 : decode cX5_init 49 = .ok (.putfield 27, 3) := by decide +kernel
theorem dX5_init_52 : decode cX5_init 52 = .ok (.aload_n 0, 1) := by decide +kernel
theorem dX5_init_53 : decode cX5_init 53 = .ok (.bipush 8, 2) := by decide +kernel
theorem dX5_init_55 : decode cX5_init 55 = .ok (.newarray .int, 2) := by decide +kernel
theorem dX5_init_57 : decode cX5_init 57 = .ok (.putfield 30, 3) := by decide +kernel
theorem dX5_init_60 : decode cX5_init 60 = .ok (.aload_n 0, 1) := by decide +kernel
theorem dX5_init_61 : decode cX5_init 61 = .ok (.bipush 64, 2) := by decide +kernel
theorem dX5_init_63 : decode cX5_init 63 = .ok (.newarray .int, 2) := by decide +kernel
theorem dX5_init_65 : decode cX5_init 65 = .ok (.putfield 33, 3) := by decide +kernel
theorem dX5_init_68 : decode cX5_init 68 = .ok (.aload_n 0, 1) := by decide +kernel
theorem dX5_init_69 : decode cX5_init 69 = .ok (.bipush 6, 2) := by decide +kernel
theorem dX5_init_71 : decode cX5_init 71 = .ok (.putfield 36, 3) := by decide +kernel
theorem dX5_init_74 : decode cX5_init 74 = .ok (.aload_n 0, 1) := by decide +kernel
theorem dX5_init_75 : decode cX5_init 75 = .ok (.bipush 6, 2) := by decide +kernel
theorem dX5_init_77 : decode cX5_init 77 = .ok (.putfield 40, 3) := by decide +kernel
theorem dX5_init_80 : decode cX5_init 80 = .ok (.return_, 1) := by decide +kernel
set_option maxHeartbeats 4000000 in
set_option maxRecDepth 100000 in
theorem tX5_init (l : Launch) (G : GG) (K : SK) (M : MM) (a0 : Nat) (h0 : isC K a0 5 0) : Ct l yX5_init cX5_init 1 none 1 8 120 G K M [.ref (G.1 + a0)] none (kX5_init K M a0).1 (kX5_init K M a0).2 := by
  generalize hf : kX5_init K M a0 = pp
  refine z_enter (lv := [(0, .ref (G.1 + a0))]) (by decide +kernel) (Nat.le_of_ble_eq_true rfl) rfl ?_
  intro p e s m args below meth c C hnm hs0
  replace C : CX p s m args meth c cX5_init 1 none RX5 G := C
  unfold kX5_init at hf
  refine z_aload_n C 0 0 dX5_init_0 rfl rfl ?_
  refine z_objInit C q_ml_X5_3 q_oi q_oc dX5_init_1 (Nat.le_of_ble_eq_true rfl) (Nat.le_of_ble_eq_true rfl) ?_
  refine z_aload_n C 0 0 dX5_init_4 rfl rfl ?_
  refine z_bipush C 8 dX5_init_5 (by decide) ?_
  refine z_newai C 8 q_ac_i (by decide) (by decide) (by decide) (by decide) (by decide) dX5_init_7 ?_
  refine z_K (fun K1 e2 => ?_)
  replace hf := bnd_out e2 hf
  have i4 : isC K1 a0 5 0 := by rw [e2]; exact isC_new h0
  have i5 : isC K1 K.1 20 8 := by rw [e2]; exact isC_new0
  refine z_M (fun M6 e7 => ?_)
  replace hf := bnd_out e7 hf
  refine z_putRF C ok_X5 i4 4 (by decide) rfl rfl hnm rfl rfl rfl q_fl_X5_9 dX5_init_9 ?_
  refine z_K (fun K8 e9 => ?_)
  replace hf := bnd_out e9 hf
  have i11 : isC K8 a0 5 0 := by rw [e9]; exact isC_set i4
  have i12 : isC K8 K.1 20 8 := by rw [e9]; exact isC_set i5
  refine z_aload_n C 0 0 dX5_init_12 rfl rfl ?_
  refine z_bipush C 8 dX5_init_13 (by decide) ?_
  refine z_newai C 8 q_ac_i (by decide) (by decide) (by decide) (by decide) (by decide) dX5_init_15 ?_
  refine z_K (fun K13 e14 => ?_)
  replace hf := bnd_out e14 hf
  have i16 : isC K13 a0 5 0 := by rw [e14]; exact isC_new i11
  have i17 : isC K13 K.1 20 8 := by rw [e14]; exact isC_new i12
  have i18 : isC K13 K8.1 20 8 := by rw [e14]; exact isC_new0
  refine z_M (fun M19 e20 => ?_)
  replace hf := bnd_out e20 hf
  refine z_putRF C ok_X5 i16 5 (by decide) rfl rfl hnm rfl rfl rfl q_fl_X5_15 dX5_init_17 ?_
  refine z_K (fun K21 e22 => ?_)
  replace hf := bnd_out e22 hf
  have i24 : isC K21 a0 5 0 := by rw [e22]; exact isC_set i16
  have i25 : isC K21 K.1 20 8 := by rw [e22]; exact isC_set i17
  have i26 : isC K21 K8.1 20 8 := by rw [e22]; exact isC_set i18
  refine z_aload_n C 0 0 dX5_init_20 rfl rfl ?_
  refine z_bipush C 8 dX5_init_21 (by decide) ?_
  refine z_newai C 8 q_ac_i (by decide) (by decide) (by decide) (by decide) (by decide) dX5_init_23 ?_
  refine z_K (fun K27 e28 => ?_)
  replace hf := bnd_out e28 hf
  have i30 : isC K27 a0 5 0 := by rw [e28]; exact isC_new i24
  have i31 : isC K27 K.1 20 8 := by rw [e28]; exact isC_new i25
  have i32 : isC K27 K8.1 20 8 := by rw [e28]; exact isC_new i26
  have i33 : isC K27 K21.1 20 8 := by rw [e28]; exact isC_new0
  refine z_M (fun M34 e35 => ?_)
  replace hf := bnd_out e35 hf
  refine z_putRF C ok_X5 i30 6 (by decide) rfl rfl hnm rfl rfl rfl q_fl_X5_18 dX5_init_25 ?_
  refine z_K (fun K36 e37 => ?_)
  replace hf := bnd_out e37 hf
  have i39 : isC K36 a0 5 0 := by rw [e37]; exact isC_set i30
  have i40 : isC K36 K.1 20 8 := by rw [e37]; exact isC_set i31
  have i41 : isC K36 K8.1 20 8 := by rw [e37]; exact isC_set i32
  have i42 : isC K36 K21.1 20 8 := by rw [e37]; exact isC_set i33
  refine z_aload_n C 0 0 dX5_init_28 rfl rfl ?_
  refine z_bipush C 8 dX5_init_29 (by decide) ?_
  refine z_newai C 8 q_ac_i (by decide) (by decide) (by decide) (by decide) (by decide) dX5_init_31 ?_
  refine z_K (fun K43 e44 => ?_)
  replace hf := bnd_out e44 hf
  have i46 : isC K43 a0 5 0 := by rw [e44]; exact isC_new i39
  have i47 : isC K43 K.1 20 8 := by rw [e44]; exact isC_new i40
  have i48 : isC K43 K8.1 20 8 := by rw [e44]; exact isC_new i41
  have i49 : isC K43 K21.1 20 8 := by rw [e44]; exact isC_new i42
  have i50 : isC K43 K36.1 20 8 := by rw [e44]; exact isC_new0
  refine z_M (fun M51 e52 => ?_)
  replace hf := bnd_out e52 hf
  refine z_putRF C ok_X5 i46 7 (by decide) rfl rfl hnm rfl rfl rfl q_fl_X5_21 dX5_init_33 ?_
  refine z_K (fun K53 e54 => ?_)
  replace hf := bnd_out e54 hf
  have i56 : isC K53 a0 5 0 := by rw [e54]; exact isC_set i46
  have i57 : isC K53 K.1 20 8 := by rw [e54]; exact isC_set i47
  have i58 : isC K53 K8.1 20 8 := by rw [e54]; exact isC_set i48
  have i59 : isC K53 K21.1 20 8 := by rw [e54]; exact isC_set i49
  have i60 : isC K53 K36.1 20 8 := by rw [e54]; exact isC_set i50
  refine z_aload_n C 0 0 dX5_init_36 rfl rfl ?_
  refine z_bipush C 8 dX5_init_37 (by decide) ?_
  refine z_newai C 8 q_ac_i (by decide) (by decide) (by decide) (by decide) (by decide) dX5_init_39 ?_
  refine z_K (fun K61 e62 => ?_)
  replace hf := bnd_out e62 hf
  have i64 : isC K61 a0 5 0 := by rw [e62]; exact isC_new i56
  have i65 : isC K61 K.1 20 8 := by rw [e62]; exact isC_new i57
  have i66 : isC K61 K8.1 20 8 := by rw [e62]; exact isC_new i58
  have i67 : isC K61 K21.1 20 8 := by rw [e62]; exact isC_new i59
  have i68 : isC K61 K36.1 20 8 := by rw [e62]; exact isC_new i60
  have i69 : isC K61 K53.1 20 8 := by rw [e62]; exact isC_new0
  refine z_M (fun M70 e71 => ?_)
  replace hf := bnd_out e71 hf
  refine z_putRF C ok_X5 i64 8 (by decide) rfl rfl hnm rfl rfl rfl q_fl_X5_24 dX5_init_41 ?_
  refine z_K (fun K72 e73 => ?_)
  replace hf := bnd_out e73 hf
  have i75 : isC K72 a0 5 0 := by rw [e73]; exact isC_set i64
  have i76 : isC K72 K.1 20 8 := by rw [e73]; exact isC_set i65
  have i77 : isC K72 K8.1 20 8 := by rw [e73]; exact isC_set i66
  have i78 : isC K72 K21.1 20 8 := by rw [e73]; exact isC_set i67
  have i79 : isC K72 K36.1 20 8 := by rw [e73]; exact isC_set i68
  have i80 : isC K72 K53.1 20 8 := by rw [e73]; exact isC_set i69
  refine z_aload_n C 0 0 dX5_init_44 rfl rfl ?_
  refine z_bipush C 8 dX5_init_45 (by decide) ?_
  refine z_newai C 8 q_ac_i (by decide) (by decide) (by decide) (by decide) (by decide) dX5_init_47 ?_
  refine z_K (fun K81 e82 => ?_)
  replace hf := bnd_out e82 hf
  have i84 : isC K81 a0 5 0 := by rw [e82]; exact isC_new i75
  have i85 : isC K81 K.1 20 8 := by rw [e82]; exact isC_new i76
  have i86 : isC K81 K8.1 20 8 := by rw [e82]; exact isC_new i77
  have i87 : isC K81 K21.1 20 8 := by rw [e82]; exact isC_new i78
  have i88 : isC K81 K36.1 20 8 := by rw [e82]; exact isC_new i79
  have i89 : isC K81 K53.1 20 8 := by rw [e82]; exact isC_new i80
  have i90 : isC K81 K72.1 20 8 := by rw [e82]; exact isC_new0
  refine z_M (fun M91 e92 => ?_)
  replace hf := bnd_out e92 hf
  refine z_putRF C ok_X5 i84 9 (by decide) rfl rfl hnm rfl rfl rfl q_fl_X5_27 dX5_init_49 ?_
  refine z_K (fun K93 e94 => ?_)
  replace hf := bnd_out e94 hf
  have i96 : isC K93 a0 5 0 := by rw [e94]; exact isC_set i84
  have i97 : isC K93 K.1 20 8 := by rw [e94]; exact isC_set i85
  have i98 : isC K93 K8.1 20 8 := by rw [e94]; exact isC_set i86
  have i99 : isC K93 K21.1 20 8 := by rw [e94]; exact isC_set i87
  have i100 : isC K93 K36.1 20 8 := by rw [e94]; exact isC_set i88
  have i101 : isC K93 K53.1 20 8 := by rw [e94]; exact isC_set i89
  have i102 : isC K93 K72.1 20 8 := by rw [e94]; exact isC_set i90
  refine z_aload_n C 0 0 dX5_init_52 rfl rfl ?_
  refine z_bipush C 8 dX5_init_53 (by decide) ?_
  refine z_newai C 8 q_ac_i (by decide) (by decide) (by decide) (by decide) (by decide) dX5_init_55 ?_
  refine z_K (fun K103 e104 => ?_)
  replace hf := bnd_out e104 hf
  have i106 : isC K103 a0 5 0 := by rw [e104]; exact isC_new i96
  have i107 : isC K103 K.1 20 8 := by rw [e104]; exact isC_new i97
  have i108 : isC K103 K8.1 20 8 := by rw [e104]; exact isC_new i98
  have i109 : isC K103 K21.1 20 8 := by rw [e104]; exact isC_new i99
  have i110 : isC K103 K36.1 20 8 := by rw [e104]; exact isC_new i100
  have i111 : isC K103 K53.1 20 8 := by rw [e104]; exact isC_new i101
  have i112 : isC K103 K72.1 20 8 := by rw [e104]; exact isC_new i102
  have i113 : isC K103 K93.1 20 8 := by rw [e104]; exact isC_new0
  refine z_M (fun M114 e115 => ?_)
  replace hf := bnd_out e115 hf
  refine z_putRF C ok_X5 i106 10 (by decide) rfl rfl hnm rfl rfl rfl q_fl_X5_30 dX5_init_57 ?_
  refine z_K (fun K116 e117 => ?_)
  replace hf := bnd_out e117 hf
  have i119 : isC K116 a0 5 0 := by rw [e117]; exact isC_set i106
  have i120 : isC K116 K.1 20 8 := by rw [e117]; exact isC_set i107
  have i121 : isC K116 K8.1 20 8 := by rw [e117]; exact isC_set i108
  have i122 : isC K116 K21.1 20 8 := by rw [e117]; exact isC_set i109
  have i123 : isC K116 K36.1 20 8 := by rw [e117]; exact isC_set i110
  have i124 : isC K116 K53.1 20 8 := by rw [e117]; exact isC_set i111
  have i125 : isC K116 K72.1 20 8 := by rw [e117]; exact isC_set i112
  have i126 : isC K116 K93.1 20 8 := by rw [e117]; exact isC_set i113
  refine z_aload_n C 0 0 dX5_init_60 rfl rfl ?_
  refine z_bipush C 64 dX5_init_61 (by decide) ?_
  refine z_newai C 64 q_ac_i (by decide) (by decide) (by decide) (by decide) (by decide) dX5_init_63 ?_
  refine z_K (fun K127 e128 => ?_)
  replace hf := bnd_out e128 hf
  have i130 : isC K127 a0 5 0 := by rw [e128]; exact isC_new i119
  have i131 : isC K127 K.1 20 8 := by rw [e128]; exact isC_new i120
  have i132 : isC K127 K8.1 20 8 := by rw [e128]; exact isC_new i121
  have i133 : isC K127 K21.1 20 8 := by rw [e128]; exact isC_new i122
  have i134 : isC K127 K36.1 20 8 := by rw [e128]; exact isC_new i123
  have i135 : isC K127 K53.1 20 8 := by rw [e128]; exact isC_new i124
  have i136 : isC K127 K72.1 20 8 := by rw [e128]; exact isC_new i125
  have i137 : isC K127 K93.1 20 8 := by rw [e128]; exact isC_new i126
  have i138 : isC K127 K116.1 20 64 := by rw [e128]; exact isC_new0
  refine z_M (fun M139 e140 => ?_)
  replace hf := bnd_out e140 hf
  refine z_putRF C ok_X5 i130 11 (by decide) rfl rfl hnm rfl rfl rfl q_fl_X5_33 dX5_init_65 ?_
  refine z_K (fun K141 e142 => ?_)
  replace hf := bnd_out e142 hf
  have i144 : isC K141 a0 5 0 := by rw [e142]; exact isC_set i130
  have i145 : isC K141 K.1 20 8 := by rw [e142]; exact isC_set i131
  have i146 : isC K141 K8.1 20 8 := by rw [e142]; exact isC_set i132
  have i147 : isC K141 K21.1 20 8 := by rw [e142]; exact isC_set i133
  have i148 : isC K141 K36.1 20 8 := by rw [e142]; exact isC_set i134
  have i149 : isC K141 K53.1 20 8 := by rw [e142]; exact isC_set i135
  have i150 : isC K141 K72.1 20 8 := by rw [e142]; exact isC_set i136
  have i151 : isC K141 K93.1 20 8 := by rw [e142]; exact isC_set i137
  have i152 : isC K141 K116.1 20 64 := by rw [e142]; exact isC_set i138
  refine z_aload_n C 0 0 dX5_init_68 rfl rfl ?_
  refine z_bipush C 6 dX5_init_69 (by decide) ?_
  refine z_putI C ok_X5 i144 0 (by decide) rfl rfl rfl rfl q_fl_X5_36 dX5_init_71 ?_
  refine z_M (fun M153 e154 => ?_)
  replace hf := bnd_out e154 hf
  refine z_aload_n C 0 0 dX5_init_74 rfl rfl ?_
  refine z_bipush C 6 dX5_init_75 (by decide) ?_
  refine z_putI C ok_X5 i144 1 (by decide) rfl rfl rfl rfl q_fl_X5_40 dX5_init_77 ?_
  refine z_M (fun M155 e156 => ?_)
  replace hf := bnd_out e156 hf
  subst hf
  exact z_vret C rfl dX5_init_80
theorem keep_X5_init (K : SK) (M : MM) (a0 : Nat) : Keep K (kX5_init K M a0).1 a0 := by
  unfold kX5_init
  have k0 : Keep K K a0 := Keep.rfl
  refine bnd_ind (P := fun q : SK × MM => Keep K q.1 a0) (fun K1 e2 => ?_)
  have k3 : Keep K K1 a0 := by rw [e2]; exact k0.new
  refine bnd_ind (P := fun q : SK × MM => Keep K q.1 a0) (fun M6 e7 => ?_)
  refine bnd_ind (P := fun q : SK × MM => Keep K q.1 a0) (fun K8 e9 => ?_)
  have k10 : Keep K K8 a0 := by rw [e9]; exact k3.set (Or.inl rfl)
  refine bnd_ind (P := fun q : SK × MM => Keep K q.1 a0) (fun K13 e14 => ?_)
  have k15 : Keep K K13 a0 := by rw [e14]; exact k10.new
  refine bnd_ind (P := fun q : SK × MM => Keep K q.1 a0) (fun M19 e20 => ?_)
  refine bnd_ind (P := fun q : SK × MM => Keep K q.1 a0) (fun K21 e22 => ?_)
  have k23 : Keep K K21 a0 := by rw [e22]; exact k15.set (Or.inl rfl)
  refine bnd_ind (P := fun q : SK × MM => Keep K q.1 a0) (fun K27 e28 => ?_)
  have k29 : Keep K K27 a0 := by rw [e28]; exact k23.new
  refine bnd_ind (P := fun q : SK × MM => Keep K q.1 a0) (fun M34 e35 => ?_)
  refine bnd_ind (P := fun q : SK × MM => Keep K q.1 a0) (fun K36 e37 => ?_)
  have k38 : Keep K K36 a0 := by rw [e37]; exact k29.set (Or.inl rfl)
  refine bnd_ind (P := fun q : SK × MM => Keep K q.1 a0) (fun K43 e44 => ?_)
  have k45 : Keep K K43 a0 := by rw [e44]; exact k38.new
  refine bnd_ind (P := fun q : SK × MM => Keep K q.1 a0) (fun M51 e52 => ?_)
  refine bnd_ind (P := fun q : SK × MM => Keep K q.1 a0) (fun K53 e54 => ?_)
  have k55 : Keep K K53 a0 := by rw [e54]; exact k45.set (Or.inl rfl)
  refine bnd_ind (P := fun q : SK × MM => Keep K q.1 a0) (fun K61 e62 => ?_)
  have k63 : Keep K K61 a0 := by rw [e62]; exact k55.new
  refine bnd_ind (P := fun q : SK × MM => Keep K q.1 a0) (fun M70 e71 => ?_)
  refine bnd_ind (P := fun q : SK × MM => Keep K q.1 a0) (fun K72 e73 => ?_)
  have k74 : Keep K K72 a0 := by rw [e73]; exact k63.set (Or.inl rfl)
  refine bnd_ind (P := fun q : SK × MM => Keep K q.1 a0) (fun K81 e82 => ?_)
  have k83 : Keep K K81 a0 := by rw [e82]; exact k74.new
  refine bnd_ind (P := fun q : SK × MM => Keep K q.1 a0) (fun M91 e92 => ?_)
  refine bnd_ind (P := fun q : SK × MM => Keep K q.1 a0) (fun K93 e94 => ?_)
  have k95 : Keep K K93 a0 := by rw [e94]; exact k83.set (Or.inl rfl)
  refine bnd_ind (P := fun q : SK × MM => Keep K q.1 a0) (fun K103 e104 => ?_)
  have k105 : Keep K K103 a0 := by rw [e104]; exact k95.new
  refine bnd_ind (P := fun q : SK × MM => Keep K q.1 a0) (fun M114 e115 => ?_)
  refine bnd_ind (P := fun q : SK × MM => Keep K q.1 a0) (fun K116 e117 => ?_)
  have k118 : Keep K K116 a0 := by rw [e117]; exact k105.set (Or.inl rfl)
  refine bnd_ind (P := fun q : SK × MM => Keep K q.1 a0) (fun K127 e128 => ?_)
  have k129 : Keep K K127 a0 := by rw [e128]; exact k118.new
  refine bnd_ind (P := fun q : SK × MM => Keep K q.1 a0) (fun M139 e140 => ?_)
  refine bnd_ind (P := fun q : SK × MM => Keep K q.1 a0) (fun K141 e142 => ?_)
  have k143 : Keep K K141 a0 := by rw [e142]; exact k129.set (Or.inl rfl)
  refine bnd_ind (P := fun q : SK × MM => Keep K q.1 a0) (fun M153 e154 => ?_)
  refine bnd_ind (P := fun q : SK × MM => Keep K q.1 a0) (fun M155 e156 => ?_)
  exact k143
theorem ov_X5_init {n0 : Nat} {K K' : SK} {M M' : MM} {a0 a0' : Nat} (h : Ov n0 K K') (ha0 : a0' = n0 + a0) : Ov n0 (kX5_init K M a0).1 (kX5_init K' M' a0').1 := by
  unfold kX5_init
  refine bnd_ind2 (P := fun q q' : SK × MM => Ov n0 q.1 q'.1) (fun K1 K1' e2 e2' => ?_)
  have oK1 : Ov n0 K1 K1' := by rw [e2, e2']; exact h.new
  refine bnd_ind2 (P := fun q q' : SK × MM => Ov n0 q.1 q'.1) (fun M6 M6' _ _ => ?_)
  refine bnd_ind2 (P := fun q q' : SK × MM => Ov n0 q.1 q'.1) (fun K8 K8' e9 e9' => ?_)
  have oK8 : Ov n0 K8 K8' := by rw [e9, e9']; exact oK1.set ha0 h.1
  refine bnd_ind2 (P := fun q q' : SK × MM => Ov n0 q.1 q'.1) (fun K13 K13' e14 e14' => ?_)
  have oK13 : Ov n0 K13 K13' := by rw [e14, e14']; exact oK8.new
  refine bnd_ind2 (P := fun q q' : SK × MM => Ov n0 q.1 q'.1) (fun M19 M19' _ _ => ?_)
  refine bnd_ind2 (P := fun q q' : SK × MM => Ov n0 q.1 q'.1) (fun K21 K21' e22 e22' => ?_)
  have oK21 : Ov n0 K21 K21' := by rw [e22, e22']; exact oK13.set ha0 oK8.1
  refine bnd_ind2 (P := fun q q' : SK × MM => Ov n0 q.1 q'.1) (fun K27 K27' e28 e28' => ?_)
  have oK27 : Ov n0 K27 K27' := by rw [e28, e28']; exact oK21.new
  refine bnd_ind2 (P := fun q q' : SK × MM => Ov n0 q.1 q'.1) (fun M34 M34' _ _ => ?_)
  refine bnd_ind2 (P := fun q q' : SK × MM => Ov n0 q.1 q'.1) (fun K36 K36' e37 e37' => ?_)
  have oK36 : Ov n0 K36 K36' := by rw [e37, e37']; exact oK27.set ha0 oK21.1
  refine bnd_ind2 (P := fun q q' : SK × MM => Ov n0 q.1 q'.1) (fun K43 K43' e44 e44' => ?_)
  have oK43 : Ov n0 K43 K43' := by rw [e44, e44']; exact oK36.new
  refine bnd_ind2 (P := fun q q' : SK × MM => Ov n0 q.1 q'.1) (fun M51 M51' _ _ => ?_)
  refine bnd_ind2 (P := fun q q' : SK × MM => Ov n0 q.1 q'.1) (fun K53 K53' e54 e54' => ?_)
  have oK53 : Ov n0 K53 K53' := by rw [e54, e54']; exact oK43.set ha0 oK36.1
  refine bnd_ind2 (P := fun q q' : SK × MM => Ov n0 q.1 q'.1) (fun K61 K61' e62 e62' => ?_)
  have oK61 : Ov n0 K61 K61' := by rw [e62, e62']; exact oK53.new
  refine bnd_ind2 (P := fun q q' : SK × MM => Ov n0 q.1 q'.1) (fun M70 M70' _ _ => ?_)
  refine bnd_ind2 (P := fun q q' : SK × MM => Ov n0 q.1 q'.1) (fun K72 K72' e73 e73' => ?_)
  have oK72 : Ov n0 K72 K72' := by rw [e73, e73']; exact oK61.set ha0 oK53.1
  refine bnd_ind2 (P := fun q q' : SK × MM => Ov n0 q.1 q'.1) (fun K81 K81' e82 e82' => ?_)
  have oK81 : Ov n0 K81 K81' := by rw [e82, e82']; exact oK72.new
  refine bnd_ind2 (P := fun q q' : SK × MM => Ov n0 q.1 q'.1) (fun M91 M91' _ _ => ?_)
  refine bnd_ind2 (P := fun q q' : SK × MM => Ov n0 q.1 q'.1) (fun K93 K93' e94 e94' => ?_)
  have oK93 : Ov n0 K93 K93' := by rw [e94, e94']; exact oK81.set ha0 oK72.1
  refine bnd_ind2 (P := fun q q' : SK × MM => Ov n0 q.1 q'.1) (fun K103 K103' e104 e104' => ?_)
  have oK103 : Ov n0 K103 K103' := by rw [e104, e104']; exact oK93.new
  refine bnd_ind2 (P := fun q q' : SK × MM => Ov n0 q.1 q'.1) (fun M114 M114' _ _ => ?_)
  refine bnd_ind2 (P := fun q q' : SK × MM => Ov n0 q.1 q'.1) (fun K116 K116' e117 e117' => ?_)
  have oK116 : Ov n0 K116 K116' := by rw [e117, e117']; exact oK103.set ha0 oK93.1
  refine bnd_ind2 (P := fun q q' : SK × MM => Ov n0 q.1 q'.1) (fun K127 K127' e128 e128' => ?_)
  have oK127 : Ov n0 K127 K127' := by rw [e128, e128']; exact oK116.new
  refine bnd_ind2 (P := fun q q' : SK × MM => Ov n0 q.1 q'.1) (fun M139 M139' _ _ => ?_)
  refine bnd_ind2 (P := fun q q' : SK × MM => Ov n0 q.1 q'.1) (fun K141 K141' e142 e142' => ?_)
  have oK141 : Ov n0 K141 K141' := by rw [e142, e142']; exact oK127.set ha0 oK116.1
  refine bnd_ind2 (P := fun q q' : SK × MM => Ov n0 q.1 q'.1) (fun M153 M153' _ _ => ?_)
  refine bnd_ind2 (P := fun q q' : SK × MM => Ov n0 q.1 q'.1) (fun M155 M155' _ _ => ?_)
  exact oK141
set_option maxRecDepth 100000 in
theorem lkI_X5_init : LkI yX5_init cX5_init 1 0 := ⟨gw_of 157 rfl (by decide +kernel), gw_of 156 (by decide +kernel) (by decide +kernel), q_in2_X5, rfl, by decide +kernel, by decide +kernel, by decide +kernel⟩
theorem dX4_init_0 : decode cX4_init 0 = .ok (.aload_n 0, 1) := by decide +kernel
theorem dX4_init_1 : decode cX4_init 1 = .ok (.invokespecial 3, 3) := by decide +kernel
theorem dX4_init_4 : decode cX4_init 4 = .ok (.aload_n 0, 1) := by decide +kernel
theorem dX4_init_5 : decode cX4_init 5 = .ok (.iconst 1, 1) := by decide +kernel
theorem dX4_init_6 : decode cX4_init 6 = .ok (.putfield 9, 3) := by decide +kernel
theorem dX4_init_9 : decode cX4_init 9 = .ok (.aload_n 0, 1) := by decide +kernel
theorem dX4_init_10 : decode cX4_init 10 = .ok (.iconst 5, 1) := by decide +kernel
theorem dX4_init_11 : decode cX4_init 11 = .ok (.putfield 15, 3) := by decide +kernel
theorem dX4_init_14 : decode cX4_init 14 = .ok (.aload_n 0, 1) := by decide +kernel
theorem dX4_init_15 : decode cX4_init 15 = .ok (.iconst 1, 1) := by decide +kernel
theorem dX4_init_16 : decode cX4_init 16 = .ok (.putfield 19, 3) := by decide +kernel
theorem dX4_init_19 : decode cX4_init 19 = .ok (.return_, 1) := by decide +kernel
set_option maxHeartbeats 4000000 in
set_option maxRecDepth 100000 in
theorem tX4_init (l : Launch) (G : GG) (K : SK) (M : MM) (a0 : Nat) (h0 : isC K a0 4 0) : Ct l yX4_init cX4_init 1 none 1 0 0 G K M [.ref (G.1 + a0)] none (kX4_init K M a0).1 (kX4_init K M a0).2 := by
  generalize hf : kX4_init K M a0 = pp
  refine z_enter (lv := [(0, .ref (G.1 + a0))]) (by decide +kernel) (Nat.le_of_ble_eq_true rfl) rfl ?_
  intro p e s m args below meth c C hnm hs0
  replace C : CX p s m args meth c cX4_init 1 none RX4 G := C
  unfold kX4_init at hf
  refine z_aload_n C 0 0 dX4_init_0 rfl rfl ?_
  refine z_objInit C q_ml_X4_3 q_oi q_oc dX4_init_1 (Nat.le_of_ble_eq_true rfl) (Nat.le_of_ble_eq_true rfl) ?_
  refine z_aload_n C 0 0 dX4_init_4 rfl rfl ?_
  refine z_iconst C 1 dX4_init_5 (by decide) ?_
  refine z_putI C ok_X4 h0 1 (by decide) rfl rfl (by decide) (by decide) q_fl_X4_9 dX4_init_6 ?_
  refine z_M (fun M1 e2 => ?_)
  replace hf := bnd_out e2 hf
  refine z_aload_n C 0 0 dX4_init_9 rfl rfl ?_
  refine z_iconst C 5 dX4_init_10 (by decide) ?_
  refine z_putI C ok_X4 h0 3 (by decide) rfl rfl rfl rfl q_fl_X4_15 dX4_init_11 ?_
  refine z_M (fun M3 e4 => ?_)
  replace hf := bnd_out e4 hf
  refine z_aload_n C 0 0 dX4_init_14 rfl rfl ?_
  refine z_iconst C 1 dX4_init_15 (by decide) ?_
  refine z_putI C ok_X4 h0 5 (by decide) rfl rfl rfl rfl q_fl_X4_19 dX4_init_16 ?_
  refine z_M (fun M5 e6 => ?_)
  replace hf := bnd_out e6 hf
  subst hf
  exact z_vret C rfl dX4_init_19
theorem keep_X4_init (K : SK) (M : MM) (a0 : Nat) : Keep K (kX4_init K M a0).1 a0 := by
  unfold kX4_init
  have k0 : Keep K K a0 := Keep.rfl
  refine bnd_ind (P := fun q : SK × MM => Keep K q.1 a0) (fun M1 e2 => ?_)
  refine bnd_ind (P := fun q : SK × MM => Keep K q.1 a0) (fun M3 e4 => ?_)
  refine bnd_ind (P := fun q : SK × MM => Keep K q.1 a0) (fun M5 e6 => ?_)
  exact k0
theorem ov_X4_init {n0 : Nat} {K K' : SK} {M M' : MM} {a0 a0' : Nat} (h : Ov n0 K K') (ha0 : a0' = n0 + a0) : Ov n0 (kX4_init K M a0).1 (kX4_init K' M' a0').1 := by
  unfold kX4_init
  refine bnd_ind2 (P := fun q q' : SK × MM => Ov n0 q.1 q'.1) (fun M1 M1' _ _ => ?_)
  refine bnd_ind2 (P := fun q q' : SK × MM => Ov n0 q.1 q'.1) (fun M3 M3' _ _ => ?_)
  refine bnd_ind2 (P := fun q q' : SK × MM => Ov n0 q.1 q'.1) (fun M5 M5' _ _ => ?_)
  exact h
set_option maxRecDepth 100000 in
theorem lkI_X4_init : LkI yX4_init cX4_init 1 0 := ⟨gw_of 237 rfl (by decide +kernel), gw_of 236 (by decide +kernel) (by decide +kernel), q_in2_X4, rfl, by decide +kernel, by decide +kernel, by decide +kernel⟩
theorem dX2_init_0 : decode cX2_init 0 = .ok (.aload_n 0, 1) := by decide +kernel
theorem dX2_init_1 : decode cX2_init 1 = .ok (.invokespecial 3, 3) := by decide +kernel
theorem dX2_init_4 : decode cX2_init 4 = .ok (.aload_n 0, 1) := by decide +kernel
theorem dX2_init_5 : decode cX2_init 5 = .ok (.bipush 40, 2) := by decide +kernel
theorem dX2_init_7 : decode cX2_init 7 = .ok (.newarray .int, 2) := by decide +kernel
theorem dX2_init_9 : decode cX2_init 9 = .ok (.putfield 9, 3) := by decide +kernel
theorem dX2_init_12 : decode cX2_init 12 = .ok (.aload_n 0, 1) := by decide +kernel
theorem dX2_init_13 : decode cX2_init 13 = .ok (.bipush 40, 2) := by decide +kernel
theorem dX2_init_15 : decode cX2_init 15 = .ok (.newarray .int, 2) := by decide +kernel
theorem dX2_init_17 : decode cX2_init 17 = .ok (.putfield 15, 3) := by decide +kernel
theorem dX2_init_20 : decode cX2_init 20 = .ok (.aload_n 0, 1) := by decide +kernel
theorem dX2_init_21 : decode cX2_init 21 = .ok (.bipush 40, 2) := by decide +kernel
theorem dX2_init_23 : decode cX2_init 23 = .ok (.newarray .int, 2) := by decide +kernel
theorem dX2_init_25 : decode cX2_init 25 = .ok (.putfield 18, 3) := by decide +kernel
theorem dX2_init_28 : decode cX2_init 28 = .ok (.return_, 1) := by decide +kernel
set_option maxHeartbeats 4000000 in
set_option maxRecDepth 100000 in
theorem tX2_init (l : Launch) (G : GG) (K : SK) (M : MM) (a0 : Nat) (h0 : isC K a0 2 0) : Ct l yX2_init cX2_init 1 none 1 3 120 G K M [.ref (G.1 + a0)] none (kX2_init K M a0).1 (kX2_init K M a0).2 := by
  generalize hf : kX2_init K M a0 = pp
  refine z_enter (lv := [(0, .ref (G.1 + a0))]) (by decide +kernel) (Nat.le_of_ble_eq_true rfl) rfl ?_
  intro p e s m args below meth c C hnm hs0
  replace C : CX p s m args meth c cX2_init 1 none RX2 G := C
  unfold kX2_init at hf
  refine z_aload_n C 0 0 dX2_init_0 rfl rfl ?_
  refine z_objInit C q_ml_X2_3 q_oi q_oc dX2_init_1 (Nat.le_of_ble_eq_true rfl) (Nat.le_of_ble_eq_true rfl) ?_
  refine z_aload_n C 0 0 dX2_init_4 rfl rfl ?_
  refine z_bipush C 40 dX2_init_5 (by decide) ?_
  refine z_newai C 40 q_ac_i (by decide) (by decide) (by decide) (by decide) (by decide) dX2_init_7 ?_
  refine z_K (fun K1 e2 => ?_)
  replace hf := bnd_out e2 hf
  have i4 : isC K1 a0 2 0 := by rw [e2]; exact isC_new h0
  have i5 : isC K1 K.1 20 40 := by rw [e2]; exact isC_new0
  refine z_M (fun M6 e7 => ?_)
  replace hf := bnd_out e7 hf
  refine z_putRF C ok_X2 i4 1 (by decide) rfl rfl hnm rfl rfl rfl q_fl_X2_9 dX2_init_9 ?_
  refine z_K (fun K8 e9 => ?_)
  replace hf := bnd_out e9 hf
  have i11 : isC K8 a0 2 0 := by rw [e9]; exact isC_set i4
  have i12 : isC K8 K.1 20 40 := by rw [e9]; exact isC_set i5
  refine z_aload_n C 0 0 dX2_init_12 rfl rfl ?_
  refine z_bipush C 40 dX2_init_13 (by decide) ?_
  refine z_newai C 40 q_ac_i (by decide) (by decide) (by decide) (by decide) (by decide) dX2_init_15 ?_
  refine z_K (fun K13 e14 => ?_)
  replace hf := bnd_out e14 hf
  have i16 : isC K13 a0 2 0 := by rw [e14]; exact isC_new i11
  have i17 : isC K13 K.1 20 40 := by rw [e14]; exact isC_new i12
  have i18 : isC K13 K8.1 20 40 := by rw [e14]; exact isC_new0
  refine z_M (fun M19 e20 => ?_)
  replace hf := bnd_out e20 hf
  refine z_putRF C ok_X2 i16 2 (by decide) rfl rfl hnm rfl rfl rfl q_fl_X2_15 dX2_init_17 ?_
  refine z_K (fun K21 e22 => ?_)
  replace hf := bnd_out e22 hf
  have i24 : isC K21 a0 2 0 := by rw [e22]; exact isC_set i16
  have i25 : isC K21 K.1 20 40 := by rw [e22]; exact isC_set i17
  have i26 : isC K21 K8.1 20 40 := by rw [e22]; exact isC_set i18
  refine z_aload_n C 0 0 dX2_init_20 rfl rfl ?_
  refine z_bipush C 40 dX2_init_21 (by decide) ?_
  refine z_newai C 40 q_ac_i (by decide) (by decide) (by decide) (by decide) (by decide) dX2_init_23 ?_
  refine z_K (fun K27 e28 => ?_)
  replace hf := bnd_out e28 hf
  have i30 : isC K27 a0 2 0 := by rw [e28]; exact isC_new i24
  have i31 : isC K27 K.1 20 40 := by rw [e28]; exact isC_new i25
  have i32 : isC K27 K8.1 20 40 := by rw [e28]; exact isC_new i26
  have i33 : isC K27 K21.1 20 40 := by rw [e28]; exact isC_new0
  refine z_M (fun M34 e35 => ?_)
  replace hf := bnd_out e35 hf
  refine z_putRF C ok_X2 i30 3 (by decide) rfl rfl hnm rfl rfl rfl q_fl_X2_18 dX2_init_25 ?_
  refine z_K (fun K36 e37 => ?_)
  replace hf := bnd_out e37 hf
  have i39 : isC K36 a0 2 0 := by rw [e37]; exact isC_set i30
  have i40 : isC K36 K.1 20 40 := by rw [e37]; exact isC_set i31
  have i41 : isC K36 K8.1 20 40 := by rw [e37]; exact isC_set i32
  have i42 : isC K36 K21.1 20 40 := by rw [e37]; exact isC_set i33
  subst hf
  exact z_vret C rfl dX2_init_28
theorem keep_X2_init (K : SK) (M : MM) (a0 : Nat) : Keep K (kX2_init K M a0).1 a0 := by
  unfold kX2_init
  have k0 : Keep K K a0 := Keep.rfl
  refine bnd_ind (P := fun q : SK × MM => Keep K q.1 a0) (fun K1 e2 => ?_)
  have k3 : Keep K K1 a0 := by rw [e2]; exact k0.new
  refine bnd_ind (P := fun q : SK × MM => Keep K q.1 a0) (fun M6 e7 => ?_)
  refine bnd_ind (P := fun q : SK × MM => Keep K q.1 a0) (fun K8 e9 => ?_)
  have k10 : Keep K K8 a0 := by rw [e9]; exact k3.set (Or.inl rfl)
  refine bnd_ind (P := fun q : SK × MM => Keep K q.1 a0) (fun K13 e14 => ?_)
  have k15 : Keep K K13 a0 := by rw [e14]; exact k10.new
  refine bnd_ind (P := fun q : SK × MM => Keep K q.1 a0) (fun M19 e20 => ?_)
  refine bnd_ind (P := fun q : SK × MM => Keep K q.1 a0) (fun K21 e22 => ?_)
  have k23 : Keep K K21 a0 := by rw [e22]; exact k15.set (Or.inl rfl)
  refine bnd_ind (P := fun q : SK × MM => Keep K q.1 a0) (fun K27 e28 => ?_)
  have k29 : Keep K K27 a0 := by rw [e28]; exact k23.new
  refine bnd_ind (P := fun q : SK × MM => Keep K q.1 a0) (fun M34 e35 => ?_)
  refine bnd_ind (P := fun q : SK × MM => Keep K q.1 a0) (fun K36 e37 => ?_)
  have k38 : Keep K K36 a0 := by rw [e37]; exact k29.set (Or.inl rfl)
  exact k38
theorem ov_X2_init {n0 : Nat} {K K' : SK} {M M' : MM} {a0 a0' : Nat} (h : Ov n0 K K') (ha0 : a0' = n0 + a0) : Ov n0 (kX2_init K M a0).1 (kX2_init K' M' a0').1 := by
  unfold kX2_init
  refine bnd_ind2 (P := fun q q' : SK × MM => Ov n0 q.1 q'.1) (fun K1 K1' e2 e2' => ?_)
  have oK1 : Ov n0 K1 K1' := by rw [e2, e2']; exact h.new
  refine bnd_ind2 (P := fun q q' : SK × MM => Ov n0 q.1 q'.1) (fun M6 M6' _ _ => ?_)
  refine bnd_ind2 (P := fun q q' : SK × MM => Ov n0 q.1 q'.1) (fun K8 K8' e9 e9' => ?_)
  have oK8 : Ov n0 K8 K8' := by rw [e9, e9']; exact oK1.set ha0 h.1
  refine bnd_ind2 (P := fun q q' : SK × MM => Ov n0 q.1 q'.1) (fun K13 K13' e14 e14' => ?_)
  have oK13 : Ov n0 K13 K13' := by rw [e14, e14']; exact oK8.new
  refine bnd_ind2 (P := fun q q' : SK × MM => Ov n0 q.1 q'.1) (fun M19 M19' _ _ => ?_)
  refine bnd_ind2 (P := fun q q' : SK × MM => Ov n0 q.1 q'.1) (fun K21 K21' e22 e22' => ?_)
  have oK21 : Ov n0 K21 K21' := by rw [e22, e22']; exact oK13.set ha0 oK8.1
  refine bnd_ind2 (P := fun q q' : SK × MM => Ov n0 q.1 q'.1) (fun K27 K27' e28 e28' => ?_)
  have oK27 : Ov n0 K27 K27' := by rw [e28, e28']; exact oK21.new
  refine bnd_ind2 (P := fun q q' : SK × MM => Ov n0 q.1 q'.1) (fun M34 M34' _ _ => ?_)
  refine bnd_ind2 (P := fun q q' : SK × MM => Ov n0 q.1 q'.1) (fun K36 K36' e37 e37' => ?_)
  have oK36 : Ov n0 K36 K36' := by rw [e37, e37']; exact oK27.set ha0 oK21.1
  exact oK36
set_option maxRecDepth 100000 in
theorem lkI_X2_init : LkI yX2_init cX2_init 1 0 := ⟨gw_of 274 rfl (by decide +kernel), gw_of 273 (by decide +kernel) (by decide +kernel), q_in2_X2, rfl, by decide +kernel, by decide +kernel, by decide +kernel⟩
theorem dX8_init_0 : decode cX8_init 0 = .ok (.aload_n 0, 1) := by decide +kernel
theorem dX8_init_1 : decode cX8_init 1 = .ok (.invokespecial 3, 3) := by decide +kernel
theorem dX8_init_4 : decode cX8_init 4 = .ok (.aload_n 0, 1) := by decide +kernel
theorem dX8_init_5 : decode cX8_init 5 = .ok (.bipush 8, 2) := by decide +kernel
theorem dX8_init_7 : decode cX8_init 7 = .ok (.newarray .int, 2) := by decide +kernel
theorem dX8_init_9 : decode cX8_init 9 = .ok (.putfield 9, 3) := by decide +kernel
theorem dX8_init_12 : decode cX8_init 12 = .ok (.aload_n 0, 1) := by decide +kernel
theorem dX8_init_13 : decode cX8_init 13 = .ok (.getfield 9, 3) := by decide +kernel
theorem dX8_init_16 : decode cX8_init 16 = .ok (.iconst (-1), 1) := by decide +kernel
theorem dX8_init_17 : decode cX8_init 17 = .ok (.invokestatic 15, 3) := by decide +kernel
theorem dX8_init_20 : decode cX8_init 20 = .ok (.return_, 1) := by decide +kernel
set_option maxHeartbeats 4000000 in
set_option maxRecDepth 100000 in
theorem tX8_init (l : Launch) (G : GG) (K : SK) (M : MM) (a0 : Nat) (h0 : isC K a0 8 0) : Ct l yX8_init cX8_init 1 none 1 1 8 G K M [.ref (G.1 + a0)] none (kX8_init K M a0).1 (kX8_init K M a0).2 := by
  generalize hf : kX8_init K M a0 = pp
  refine z_enter (lv := [(0, .ref (G.1 + a0))]) (by decide +kernel) (Nat.le_of_ble_eq_true rfl) rfl ?_
  intro p e s m args below meth c C hnm hs0
  replace C : CX p s m args meth c cX8_init 1 none RX8 G := C
  unfold kX8_init at hf
  refine z_aload_n C 0 0 dX8_init_0 rfl rfl ?_
  refine z_objInit C q_ml_X8_3 q_oi q_oc dX8_init_1 (Nat.le_of_ble_eq_true rfl) (Nat.le_of_ble_eq_true rfl) ?_
  refine z_aload_n C 0 0 dX8_init_4 rfl rfl ?_
  refine z_bipush C 8 dX8_init_5 (by decide) ?_
  refine z_newai C 8 q_ac_i (by decide) (by decide) (by decide) (by decide) (by decide) dX8_init_7 ?_
  refine z_K (fun K1 e2 => ?_)
  replace hf := bnd_out e2 hf
  have i4 : isC K1 a0 8 0 := by rw [e2]; exact isC_new h0
  have i5 : isC K1 K.1 20 8 := by rw [e2]; exact isC_new0
  refine z_M (fun M6 e7 => ?_)
  replace hf := bnd_out e7 hf
  refine z_putRF C ok_X8 i4 1 (by decide) rfl rfl hnm rfl rfl rfl q_fl_X8_9 dX8_init_9 ?_
  refine z_K (fun K8 e9 => ?_)
  replace hf := bnd_out e9 hf
  have i11 : isC K8 a0 8 0 := by rw [e9]; exact isC_set i4
  have i12 : isC K8 K.1 20 8 := by rw [e9]; exact isC_set i5
  have r13 : K8.2.2 a0 1 = some K.1 := by rw [e9]; exact ref_set_eq
  refine z_aload_n C 0 0 dX8_init_12 rfl rfl ?_
  refine z_getR C ok_X8 i11 1 K.1 (by decide) rfl r13 q_fl_X8_9 dX8_init_13 ?_
  refine z_iconst C (-1) dX8_init_16 (by decide) ?_
  refine z_callS C [] (tfill l G M6 K.1 8 i12 (by decide) (-1)) lk_J7_fill_53178 q_ml_X8_15 rfl ⟨Nat.le_of_ble_eq_true rfl, Nat.le_of_ble_eq_true rfl⟩ rfl (Nat.le_of_ble_eq_true rfl) ⟨by decide, by decide⟩ dX8_init_17 ?_
  refine z_M (fun M14 e15 => ?_)
  replace hf := bnd_out e15 hf
  subst hf
  exact z_vret C rfl dX8_init_20
theorem keep_X8_init (K : SK) (M : MM) (a0 : Nat) : Keep K (kX8_init K M a0).1 a0 := by
  unfold kX8_init
  have k0 : Keep K K a0 := Keep.rfl
  refine bnd_ind (P := fun q : SK × MM => Keep K q.1 a0) (fun K1 e2 => ?_)
  have k3 : Keep K K1 a0 := by rw [e2]; exact k0.new
  refine bnd_ind (P := fun q : SK × MM => Keep K q.1 a0) (fun M6 e7 => ?_)
  refine bnd_ind (P := fun q : SK × MM => Keep K q.1 a0) (fun K8 e9 => ?_)
  have k10 : Keep K K8 a0 := by rw [e9]; exact k3.set (Or.inl rfl)
  refine bnd_ind (P := fun q : SK × MM => Keep K q.1 a0) (fun M14 e15 => ?_)
  exact k10
theorem ov_X8_init {n0 : Nat} {K K' : SK} {M M' : MM} {a0 a0' : Nat} (h : Ov n0 K K') (ha0 : a0' = n0 + a0) : Ov n0 (kX8_init K M a0).1 (kX8_init K' M' a0').1 := by
  unfold kX8_init
  refine bnd_ind2 (P := fun q q' : SK × MM => Ov n0 q.1 q'.1) (fun K1 K1' e2 e2' => ?_)
  have oK1 : Ov n0 K1 K1' := by rw [e2, e2']; exact h.new
  refine bnd_ind2 (P := fun q q' : SK × MM => Ov n0 q.1 q'.1) (fun M6 M6' _ _ => ?_)
  refine bnd_ind2 (P := fun q q' : SK × MM => Ov n0 q.1 q'.1) (fun K8 K8' e9 e9' => ?_)
  have oK8 : Ov n0 K8 K8' := by rw [e9, e9']; exact oK1.set ha0 h.1
  refine bnd_ind2 (P := fun q q' : SK × MM => Ov n0 q.1 q'.1) (fun M14 M14' _ _ => ?_)
  exact oK8
set_option maxRecDepth 100000 in
theorem lkI_X8_init : LkI yX8_init cX8_init 1 0 := ⟨gw_of 301 rfl (by decide +kernel), gw_of 300 (by decide +kernel) (by decide +kernel), q_in2_X8, rfl, by decide +kernel, by decide +kernel, by decide +kernel⟩
theorem dX9_init_0 : decode cX9_init 0 = .ok (.aload_n 0, 1) := by decide +kernel
theorem dX9_init_1 : decode cX9_init 1 = .ok (.invokespecial 3, 3) := by decide +kernel
theorem dX9_init_4 : decode cX9_init 4 = .ok (.aload_n 0, 1) := by decide +kernel
theorem dX9_init_5 : decode cX9_init 5 = .ok (.iconst 4, 1) := by decide +kernel
theorem dX9_init_6 : decode cX9_init 6 = .ok (.newarray .int, 2) := by decide +kernel
theorem dX9_init_8 : decode cX9_init 8 = .ok (.putfield 9, 3) := by decide +kernel
theorem dX9_init_11 : decode cX9_init 11 = .ok (.aload_n 0, 1) := by decide +kernel
theorem dX9_init_12 : decode cX9_init 12 = .ok (.iconst 2, 1) := by decide +kernel
theorem dX9_init_13 : decode cX9_init 13 = .ok (.anewarray 15, 3) := by decide +kernel
theorem dX9_init_16 : decode cX9_init 16 = .ok (.putfield 17, 3) := by decide +kernel
theorem dX9_init_19 : decode cX9_init 19 = .ok (.aload_n 0, 1) := by decide +kernel
theorem dX9_init_20 : decode cX9_init 20 = .ok (.iconst 2, 1) := by decide +kernel
theorem dX9_init_21 : decode cX9_init 21 = .ok (.anewarray 21, 3) := by decide +kernel
theorem dX9_init_24 : decode cX9_init 24 = .ok (.putfield 23, 3) := by decide +kernel
theorem dX9_init_27 : decode cX9_init 27 = .ok (.aload_n 0, 1) := by decide +kernel
theorem dX9_init_28 : decode cX9_init 28 = .ok (.iconst 2, 1) := by decide +kernel
theorem dX9_init_29 : decode cX9_init 29 = .ok (.anewarray 27, 3) := by decide +kernel
theorem dX9_init_32 : decode cX9_init 32 = .ok (.putfield 29, 3) := by decide +kernel
theorem dX9_init_35 : decode cX9_init 35 = .ok (.aload_n 0, 1) := by decide +kernel
theorem dX9_init_36 : decode cX9_init 36 = .ok (.iconst 2, 1) := by decide +kernel
theorem dX9_init_37 : decode cX9_init 37 = .ok (.anewarray 33, 3) := by decide +kernel
theorem dX9_init_40 : decode cX9_init 40 = .ok (.putfield 35, 3) := by decide +kernel
theorem dX9_init_43 : decode cX9_init 43 = .ok (.iconst 0, 1) := by decide +kernel
theorem dX9_init_44 : decode cX9_init 44 = .ok (.istore_n 1, 1) := by decide +kernel
theorem dX9_init_45 : decode cX9_init 45 = .ok (.iload_n 1, 1) := by decide +kernel
theorem dX9_init_46 : decode cX9_init 46 = .ok (.iconst 2, 1) := by decide +kernel
theorem dX9_init_47 : decode cX9_init 47 = .ok (.if_icmp .ge 61, 3) := by decide +kernel
theorem dX9_init_50 : decode cX9_init 50 = .ok (.aload_n 0, 1) := by decide +kernel
theorem dX9_init_51 : decode cX9_init 51 = .ok (.getfield 17, 3) := by decide +kernel
theorem dX9_init_54 : decode cX9_init 54 = .ok (.iload_n 1, 1) := by decide +kernel
theorem dX9_init_55 : decode cX9_init 55 = .ok (.new 15, 3) := by decide +kernel
theorem dX9_init_58 : decode cX9_init 58 = .ok (.dup, 1) := by decide +kernel
theorem dX9_init_59 : decode cX9_init 59 = .ok (.invokespecial 39, 3) := by decide +kernel
theorem dX9_init_62 : decode cX9_init 62 = .ok (.aastore, 1) := by decide +kernel
theorem dX9_init_63 : decode cX9_init 63 = .ok (.aload_n 0, 1) := by decide +kernel
theorem dX9_init_64 : decode cX9_init 64 = .ok (.getfield 23, 3) := by decide +kernel
theorem dX9_init_67 : decode cX9_init 67 = .ok (.iload_n 1, 1) := by decide +kernel
theorem dX9_init_68 : decode cX9_init 68 = .ok (.new 21, 3) := by decide +kernel
theorem dX9_init_71 : decode cX9_init 71 = .ok (.dup, 1) := by decide +kernel
theorem dX9_init_72 : decode cX9_init 72 = .ok (.invokespecial 40, 3) := by decide +kernel
theorem dX9_init_75 : decode cX9_init 75 = .ok (.aastore, 1) := by decide +kernel
theorem dX9_init_76 : decode cX9_init 76 = .ok (.aload_n 0, 1) := by decide +kernel
theorem dX9_init_77 : decode cX9_init 77 = .ok (.getfield 29, 3) := by decide +kernel
theorem dX9_init_80 : decode cX9_init 80 = .ok (.iload_n 1, 1) := by decide +kernel
theorem dX9_init_81 : decode cX9_init 81 = .ok (.new 27, 3) := by decide +kernel
theorem dX9_init_84 : decode cX9_init 84 = .ok (.dup, 1) := by decide +kernel
theorem dX9_init_85 : decode cX9_init 85 = .ok (.invokespecial 41, 3) := by decide +kernel
theorem dX9_init_88 : decode cX9_init 88 = .ok (.aastore, 1) := by decide +kernel
theorem dX9_init_89 : decode cX9_init 89 = .ok (.aload_n 0, 1) := by decide +kernel
theorem dX9_init_90 : decode cX9_init 90 = .ok (.getfield 35, 3) := by decide +kernel
theorem dX9_init_93 : decode cX9_init 93 = .ok (.iload_n 1, 1) := by decide +kernel
theorem dX9_init_94 : decode cX9_init 94 = .ok (.new 33, 3) := by decide +kernel
theorem dX9_init_97 : decode cX9_init 97 = .ok (.dup, 1) := by decide +kernel
theorem dX9_init_98 : decode cX9_init 98 = .ok (.invokespecial 42, 3) := by decide +kernel
theorem dX9_init_101 : decode cX9_init 101 = .ok (.aastore, 1) := by decide +kernel
theorem dX9_init_102 : decode cX9_init 102 = .ok (.iinc 1 1, 3) := by decide +kernel
theorem dX9_init_105 : decode cX9_init 105 = .ok (.goto (-60), 3) := by decide +kernel
theorem dX9_init_108 : decode cX9_init 108 = .ok (.aload_n 0, 1) := by decide +kernel
theorem dX9_init_109 : decode cX9_init 109 = .ok (.sipush 600, 3) := by decide +kernel
theorem dX9_init_112 : decode cX9_init 112 = .ok (.newarray .byte, 2) := by decide +kernel
theorem dX9_init_114 : decode cX9_init 114 = .ok (.putfield 43, 3) := by decide +kernel
theorem dX9_init_117 : decode cX9_init 117 = .ok (.aload_n 0, 1) := by decide +kernel
theorem dX9_init_118 : decode cX9_init 118 = .ok (.iconst (-1), 1) := by decide +kernel
theorem dX9_init_119 : decode cX9_init 119 = .ok (.putfield 47, 3) := by decide +kernel
theorem dX9_init_122 : decode cX9_init 122 = .ok (.return_, 1) := by decide +kernel
set_option maxHeartbeats 4000000 in
set_option maxRecDepth 100000 in
theorem tX9_init (l : Launch) (G : GG) (K : SK) (M : MM) (a0 : Nat) (h0 : isC K a0 9 0) : Ct l yX9_init cX9_init 2 none 2 38 1158 G K M [.ref (G.1 + a0)] none (kX9_init K M a0).1 (kX9_init K M a0).2 := by
  generalize hf : kX9_init K M a0 = pp
  refine z_enter (lv := [(0, .ref (G.1 + a0))]) (by decide +kernel) (Nat.le_of_ble_eq_true rfl) rfl ?_
  intro p e s m args below meth c C hnm hs0
  replace C : CX p s m args meth c cX9_init 2 none RX9 G := C
  unfold kX9_init at hf
  refine z_aload_n C 0 0 dX9_init_0 rfl rfl ?_
  refine z_objInit C q_ml_X9_3 q_oi q_oc dX9_init_1 (Nat.le_of_ble_eq_true rfl) (Nat.le_of_ble_eq_true rfl) ?_
  refine z_aload_n C 0 0 dX9_init_4 rfl rfl ?_
  refine z_iconst C 4 dX9_init_5 (by decide) ?_
  refine z_newai C 4 q_ac_i (by decide) (by decide) (by decide) (by decide) (by decide) dX9_init_6 ?_
  refine z_K (fun K1 e2 => ?_)
  replace hf := bnd_out e2 hf
  have i4 : isC K1 a0 9 0 := by rw [e2]; exact isC_new h0
  have i5 : isC K1 K.1 20 4 := by rw [e2]; exact isC_new0
  refine z_M (fun M6 e7 => ?_)
  replace hf := bnd_out e7 hf
  refine z_putRF C ok_X9 i4 0 (by decide) rfl rfl hnm rfl rfl rfl q_fl_X9_9 dX9_init_8 ?_
  refine z_K (fun K8 e9 => ?_)
  replace hf := bnd_out e9 hf
  have i11 : isC K8 a0 9 0 := by rw [e9]; exact isC_set i4
  have i12 : isC K8 K.1 20 4 := by rw [e9]; exact isC_set i5
  refine z_aload_n C 0 0 dX9_init_11 rfl rfl ?_
  refine z_iconst C 2 dX9_init_12 (by decide) ?_
  refine z_anewa C 24 4 RX5 2 q_cl_X9_15 (List.mem_of_getElem? (i := 0) rfl) (by decide) rfl (by decide) (by decide) (by decide) (by decide) (by decide) dX9_init_13 ?_
  refine z_K (fun K13 e14 => ?_)
  replace hf := bnd_out e14 hf
  have i16 : isC K13 a0 9 0 := by rw [e14]; exact isC_new i11
  have i17 : isC K13 K.1 20 4 := by rw [e14]; exact isC_new i12
  have i18 : isC K13 K8.1 24 2 := by rw [e14]; exact isC_new0
  refine z_M (fun M19 e20 => ?_)
  replace hf := bnd_out e20 hf
  refine z_putRF C ok_X9 i16 1 (by decide) rfl rfl hnm rfl rfl rfl q_fl_X9_17 dX9_init_16 ?_
  refine z_K (fun K21 e22 => ?_)
  replace hf := bnd_out e22 hf
  have i24 : isC K21 a0 9 0 := by rw [e22]; exact isC_set i16
  have i25 : isC K21 K.1 20 4 := by rw [e22]; exact isC_set i17
  have i26 : isC K21 K8.1 24 2 := by rw [e22]; exact isC_set i18
  have r27 : K21.2.2 a0 1 = some K8.1 := by rw [e22]; exact ref_set_eq
  refine z_aload_n C 0 0 dX9_init_19 rfl rfl ?_
  refine z_iconst C 2 dX9_init_20 (by decide) ?_
  refine z_anewa C 25 5 RX4 2 q_cl_X9_21 (List.mem_of_getElem? (i := 1) rfl) (by decide) rfl (by decide) (by decide) (by decide) (by decide) (by decide) dX9_init_21 ?_
  refine z_K (fun K28 e29 => ?_)
  replace hf := bnd_out e29 hf
  have i31 : isC K28 a0 9 0 := by rw [e29]; exact isC_new i24
  have i32 : isC K28 K.1 20 4 := by rw [e29]; exact isC_new i25
  have i33 : isC K28 K8.1 24 2 := by rw [e29]; exact isC_new i26
  have r34 : K28.2.2 a0 1 = some K8.1 := by rw [e29]; exact ref_new i24 r27
  have i35 : isC K28 K21.1 25 2 := by rw [e29]; exact isC_new0
  refine z_M (fun M36 e37 => ?_)
  replace hf := bnd_out e37 hf
  refine z_putRF C ok_X9 i31 2 (by decide) rfl rfl hnm rfl rfl rfl q_fl_X9_23 dX9_init_24 ?_
  refine z_K (fun K38 e39 => ?_)
  replace hf := bnd_out e39 hf
  have i41 : isC K38 a0 9 0 := by rw [e39]; exact isC_set i31
  have i42 : isC K38 K.1 20 4 := by rw [e39]; exact isC_set i32
  have i43 : isC K38 K8.1 24 2 := by rw [e39]; exact isC_set i33
  have i44 : isC K38 K21.1 25 2 := by rw [e39]; exact isC_set i35
  have r45 : K38.2.2 a0 1 = some K8.1 := by rw [e39]; exact ref_set_ne (by decide) r34
  have r46 : K38.2.2 a0 2 = some K21.1 := by rw [e39]; exact ref_set_eq
  refine z_aload_n C 0 0 dX9_init_27 rfl rfl ?_
  refine z_iconst C 2 dX9_init_28 (by decide) ?_
  refine z_anewa C 26 6 RX2 2 q_cl_X9_27 (List.mem_of_getElem? (i := 2) rfl) (by decide) rfl (by decide) (by decide) (by decide) (by decide) (by decide) dX9_init_29 ?_
  refine z_K (fun K47 e48 => ?_)
  replace hf := bnd_out e48 hf
  have i50 : isC K47 a0 9 0 := by rw [e48]; exact isC_new i41
  have i51 : isC K47 K.1 20 4 := by rw [e48]; exact isC_new i42
  have i52 : isC K47 K8.1 24 2 := by rw [e48]; exact isC_new i43
  have i53 : isC K47 K21.1 25 2 := by rw [e48]; exact isC_new i44
  have r54 : K47.2.2 a0 1 = some K8.1 := by rw [e48]; exact ref_new i41 r45
  have r55 : K47.2.2 a0 2 = some K21.1 := by rw [e48]; exact ref_new i41 r46
  have i56 : isC K47 K38.1 26 2 := by rw [e48]; exact isC_new0
  refine z_M (fun M57 e58 => ?_)
  replace hf := bnd_out e58 hf
  refine z_putRF C ok_X9 i50 3 (by decide) rfl rfl hnm rfl rfl rfl q_fl_X9_29 dX9_init_32 ?_
  refine z_K (fun K59 e60 => ?_)
  replace hf := bnd_out e60 hf
  have i62 : isC K59 a0 9 0 := by rw [e60]; exact isC_set i50
  have i63 : isC K59 K.1 20 4 := by rw [e60]; exact isC_set i51
  have i64 : isC K59 K8.1 24 2 := by rw [e60]; exact isC_set i52
  have i65 : isC K59 K21.1 25 2 := by rw [e60]; exact isC_set i53
  have i66 : isC K59 K38.1 26 2 := by rw [e60]; exact isC_set i56
  have r67 : K59.2.2 a0 1 = some K8.1 := by rw [e60]; exact ref_set_ne (by decide) r54
  have r68 : K59.2.2 a0 2 = some K21.1 := by rw [e60]; exact ref_set_ne (by decide) r55
  have r69 : K59.2.2 a0 3 = some K38.1 := by rw [e60]; exact ref_set_eq
  refine z_aload_n C 0 0 dX9_init_35 rfl rfl ?_
  refine z_iconst C 2 dX9_init_36 (by decide) ?_
  refine z_anewa C 27 7 RX8 2 q_cl_X9_33 (List.mem_of_getElem? (i := 3) rfl) (by decide) rfl (by decide) (by decide) (by decide) (by decide) (by decide) dX9_init_37 ?_
  refine z_K (fun K70 e71 => ?_)
  replace hf := bnd_out e71 hf
  have i73 : isC K70 a0 9 0 := by rw [e71]; exact isC_new i62
  have i74 : isC K70 K.1 20 4 := by rw [e71]; exact isC_new i63
  have i75 : isC K70 K8.1 24 2 := by rw [e71]; exact isC_new i64
  have i76 : isC K70 K21.1 25 2 := by rw [e71]; exact isC_new i65
  have i77 : isC K70 K38.1 26 2 := by rw [e71]; exact isC_new i66
  have r78 : K70.2.2 a0 1 = some K8.1 := by rw [e71]; exact ref_new i62 r67
  have r79 : K70.2.2 a0 2 = some K21.1 := by rw [e71]; exact ref_new i62 r68
  have r80 : K70.2.2 a0 3 = some K38.1 := by rw [e71]; exact ref_new i62 r69
  have i81 : isC K70 K59.1 27 2 := by rw [e71]; exact isC_new0
  refine z_M (fun M82 e83 => ?_)
  replace hf := bnd_out e83 hf
  refine z_putRF C ok_X9 i73 4 (by decide) rfl rfl hnm rfl rfl rfl q_fl_X9_35 dX9_init_40 ?_
  refine z_K (fun K84 e85 => ?_)
  replace hf := bnd_out e85 hf
  have i87 : isC K84 a0 9 0 := by rw [e85]; exact isC_set i73
  have i88 : isC K84 K.1 20 4 := by rw [e85]; exact isC_set i74
  have i89 : isC K84 K8.1 24 2 := by rw [e85]; exact isC_set i75
  have i90 : isC K84 K21.1 25 2 := by rw [e85]; exact isC_set i76
  have i91 : isC K84 K38.1 26 2 := by rw [e85]; exact isC_set i77
  have i92 : isC K84 K59.1 27 2 := by rw [e85]; exact isC_set i81
  have r93 : K84.2.2 a0 1 = some K8.1 := by rw [e85]; exact ref_set_ne (by decide) r78
  have r94 : K84.2.2 a0 2 = some K21.1 := by rw [e85]; exact ref_set_ne (by decide) r79
  have r95 : K84.2.2 a0 3 = some K38.1 := by rw [e85]; exact ref_set_ne (by decide) r80
  have r96 : K84.2.2 a0 4 = some K59.1 := by rw [e85]; exact ref_set_eq
  refine z_iconst C 0 dX9_init_43 (by decide) ?_
  refine z_istore_n C [(1, .int 0), (0, .ref (G.1 + a0))] dX9_init_44 rfl (by decide) rfl rfl ?_
  refine z_iload_n C 0 1 dX9_init_45 rfl rfl ?_
  refine z_iconst C 2 dX9_init_46 (by decide) ?_
  refine z_icmp_ge C 108 dX9_init_47 (by decide) (fun h => absurd h (by decide)) (fun _ => ?_)
  refine z_aload_n C 1 0 dX9_init_50 rfl rfl ?_
  refine z_getR C ok_X9 i87 1 K8.1 (by decide) rfl r93 q_fl_X9_17 dX9_init_51 ?_
  refine z_iload_n C 0 1 dX9_init_54 rfl rfl ?_
  refine z_new C ok_X5 q_cl_X9_15 q_is_X5 q_in2_X5 df_X5 (by decide) (by decide) dX9_init_55 ?_
  refine z_K (fun K97 e98 => ?_)
  replace hf := bnd_out e98 hf
  have i100 : isC K97 a0 9 0 := by rw [e98]; exact isC_new i87
  have i101 : isC K97 K.1 20 4 := by rw [e98]; exact isC_new i88
  have i102 : isC K97 K8.1 24 2 := by rw [e98]; exact isC_new i89
  have i103 : isC K97 K21.1 25 2 := by rw [e98]; exact isC_new i90
  have i104 : isC K97 K38.1 26 2 := by rw [e98]; exact isC_new i91
  have i105 : isC K97 K59.1 27 2 := by rw [e98]; exact isC_new i92
  have r106 : K97.2.2 a0 1 = some K8.1 := by rw [e98]; exact ref_new i87 r93
  have r107 : K97.2.2 a0 2 = some K21.1 := by rw [e98]; exact ref_new i87 r94
  have r108 : K97.2.2 a0 3 = some K38.1 := by rw [e98]; exact ref_new i87 r95
  have r109 : K97.2.2 a0 4 = some K59.1 := by rw [e98]; exact ref_new i87 r96
  have i110 : isC K97 K84.1 5 0 := by rw [e98]; exact isC_new0
  refine z_M (fun M111 e112 => ?_)
  replace hf := bnd_out e112 hf
  refine z_dup C rfl dX9_init_58 ?_
  refine z_callI C [.ref (G.1 + K84.1), .int 0, .ref (G.1 + K8.1)] (tX5_init l G K97 M111 K84.1 i110) lkI_X5_init q_ml_X9_39 rfl ⟨Nat.le_of_ble_eq_true rfl, Nat.le_of_ble_eq_true rfl⟩ rfl (Nat.le_of_ble_eq_true rfl) ⟨by decide, by decide⟩ dX9_init_59 ?_
  refine z_K (fun K113 e114 => ?_)
  replace hf := bnd_out e114 hf
  have i116 : isC K113 a0 9 0 := by rw [e114]; exact (keep_X5_init K97 M111 K84.1).cell i100
  have i117 : isC K113 K.1 20 4 := by rw [e114]; exact (keep_X5_init K97 M111 K84.1).cell i101
  have i118 : isC K113 K8.1 24 2 := by rw [e114]; exact (keep_X5_init K97 M111 K84.1).cell i102
  have i119 : isC K113 K21.1 25 2 := by rw [e114]; exact (keep_X5_init K97 M111 K84.1).cell i103
  have i120 : isC K113 K38.1 26 2 := by rw [e114]; exact (keep_X5_init K97 M111 K84.1).cell i104
  have i121 : isC K113 K59.1 27 2 := by rw [e114]; exact (keep_X5_init K97 M111 K84.1).cell i105
  have i122 : isC K113 K84.1 5 0 := by rw [e114]; exact (keep_X5_init K97 M111 K84.1).cell i110
  have r123 : K113.2.2 a0 1 = some K8.1 := by rw [e114]; exact (keep_X5_init K97 M111 K84.1).rf i100 (isC_ne i100 i110 (by decide)) r106
  have r124 : K113.2.2 a0 2 = some K21.1 := by rw [e114]; exact (keep_X5_init K97 M111 K84.1).rf i100 (isC_ne i100 i110 (by decide)) r107
  have r125 : K113.2.2 a0 3 = some K38.1 := by rw [e114]; exact (keep_X5_init K97 M111 K84.1).rf i100 (isC_ne i100 i110 (by decide)) r108
  have r126 : K113.2.2 a0 4 = some K59.1 := by rw [e114]; exact (keep_X5_init K97 M111 K84.1).rf i100 (isC_ne i100 i110 (by decide)) r109
  refine z_M (fun M127 e128 => ?_)
  replace hf := bnd_out e128 hf
  refine z_aast C 4 i118 (by decide) i122 (by decide) rfl rfl (inb_in (by decide)) dX9_init_62 ?_
  refine z_K (fun K129 e130 => ?_)
  replace hf := bnd_out e130 hf
  have i132 : isC K129 a0 9 0 := by rw [e130]; exact isC_set i116
  have i133 : isC K129 K.1 20 4 := by rw [e130]; exact isC_set i117
  have i134 : isC K129 K8.1 24 2 := by rw [e130]; exact isC_set i118
  have i135 : isC K129 K21.1 25 2 := by rw [e130]; exact isC_set i119
  have i136 : isC K129 K38.1 26 2 := by rw [e130]; exact isC_set i120
  have i137 : isC K129 K59.1 27 2 := by rw [e130]; exact isC_set i121
  have i138 : isC K129 K84.1 5 0 := by rw [e130]; exact isC_set i122
  have r139 : K129.2.2 a0 1 = some K8.1 := by rw [e130]; exact ref_set_nc (isC_ne i116 i118 (by decide)) r123
  have r140 : K129.2.2 a0 2 = some K21.1 := by rw [e130]; exact ref_set_nc (isC_ne i116 i118 (by decide)) r124
  have r141 : K129.2.2 a0 3 = some K38.1 := by rw [e130]; exact ref_set_nc (isC_ne i116 i118 (by decide)) r125
  have r142 : K129.2.2 a0 4 = some K59.1 := by rw [e130]; exact ref_set_nc (isC_ne i116 i118 (by decide)) r126
  refine z_aload_n C 1 0 dX9_init_63 rfl rfl ?_
  refine z_getR C ok_X9 i132 2 K21.1 (by decide) rfl r140 q_fl_X9_23 dX9_init_64 ?_
  refine z_iload_n C 0 1 dX9_init_67 rfl rfl ?_
  refine z_new C ok_X4 q_cl_X9_21 q_is_X4 q_in2_X4 df_X4 (by decide) (by decide) dX9_init_68 ?_
  refine z_K (fun K143 e144 => ?_)
  replace hf := bnd_out e144 hf
  have i146 : isC K143 a0 9 0 := by rw [e144]; exact isC_new i132
  have i147 : isC K143 K.1 20 4 := by rw [e144]; exact isC_new i133
  have i148 : isC K143 K8.1 24 2 := by rw [e144]; exact isC_new i134
  have i149 : isC K143 K21.1 25 2 := by rw [e144]; exact isC_new i135
  have i150 : isC K143 K38.1 26 2 := by rw [e144]; exact isC_new i136
  have i151 : isC K143 K59.1 27 2 := by rw [e144]; exact isC_new i137
  have i152 : isC K143 K84.1 5 0 := by rw [e144]; exact isC_new i138
  have r153 : K143.2.2 a0 1 = some K8.1 := by rw [e144]; exact ref_new i132 r139
  have r154 : K143.2.2 a0 2 = some K21.1 := by rw [e144]; exact ref_new i132 r140
  have r155 : K143.2.2 a0 3 = some K38.1 := by rw [e144]; exact ref_new i132 r141
  have r156 : K143.2.2 a0 4 = some K59.1 := by rw [e144]; exact ref_new i132 r142
  have i157 : isC K143 K129.1 4 0 := by rw [e144]; exact isC_new0
  refine z_M (fun M158 e159 => ?_)
  replace hf := bnd_out e159 hf
  refine z_dup C rfl dX9_init_71 ?_
  refine z_callI C [.ref (G.1 + K129.1), .int 0, .ref (G.1 + K21.1)] (tX4_init l G K143 M158 K129.1 i157) lkI_X4_init q_ml_X9_40 rfl ⟨Nat.le_of_ble_eq_true rfl, Nat.le_of_ble_eq_true rfl⟩ rfl (Nat.le_of_ble_eq_true rfl) ⟨by decide, by decide⟩ dX9_init_72 ?_
  refine z_K (fun K160 e161 => ?_)
  replace hf := bnd_out e161 hf
  have i163 : isC K160 a0 9 0 := by rw [e161]; exact (keep_X4_init K143 M158 K129.1).cell i146
  have i164 : isC K160 K.1 20 4 := by rw [e161]; exact (keep_X4_init K143 M158 K129.1).cell i147
  have i165 : isC K160 K8.1 24 2 := by rw [e161]; exact (keep_X4_init K143 M158 K129.1).cell i148
  have i166 : isC K160 K21.1 25 2 := by rw [e161]; exact (keep_X4_init K143 M158 K129.1).cell i149
  have i167 : isC K160 K38.1 26 2 := by rw [e161]; exact (keep_X4_init K143 M158 K129.1).cell i150
  have i168 : isC K160 K59.1 27 2 := by rw [e161]; exact (keep_X4_init K143 M158 K129.1).cell i151
  have i169 : isC K160 K84.1 5 0 := by rw [e161]; exact (keep_X4_init K143 M158 K129.1).cell i152
  have i170 : isC K160 K129.1 4 0 := by rw [e161]; exact (keep_X4_init K143 M158 K129.1).cell i157
  have r171 : K160.2.2 a0 1 = some K8.1 := by rw [e161]; exact (keep_X4_init K143 M158 K129.1).rf i146 (isC_ne i146 i157 (by decide)) r153
  have r172 : K160.2.2 a0 2 = some K21.1 := by rw [e161]; exact (keep_X4_init K143 M158 K129.1).rf i146 (isC_ne i146 i157 (by decide)) r154
  have r173 : K160.2.2 a0 3 = some K38.1 := by rw [e161]; exact (keep_X4_init K143 M158 K129.1).rf i146 (isC_ne i146 i157 (by decide)) r155
  have r174 : K160.2.2 a0 4 = some K59.1 := by rw [e161]; exact (keep_X4_init K143 M158 K129.1).rf i146 (isC_ne i146 i157 (by decide)) r156
  refine z_M (fun M175 e176 => ?_)
  replace hf := bnd_out e176 hf
  refine z_aast C 5 i166 (by decide) i170 (by decide) rfl rfl (inb_in (by decide)) dX9_init_75 ?_
  refine z_K (fun K177 e178 => ?_)
  replace hf := bnd_out e178 hf
  have i180 : isC K177 a0 9 0 := by rw [e178]; exact isC_set i163
  have i181 : isC K177 K.1 20 4 := by rw [e178]; exact isC_set i164
  have i182 : isC K177 K8.1 24 2 := by rw [e178]; exact isC_set i165
  have i183 : isC K177 K21.1 25 2 := by rw [e178]; exact isC_set i166
  have i184 : isC K177 K38.1 26 2 := by rw [e178]; exact isC_set i167
  have i185 : isC K177 K59.1 27 2 := by rw [e178]; exact isC_set i168
  have i186 : isC K177 K84.1 5 0 := by rw [e178]; exact isC_set i169
  have i187 : isC K177 K129.1 4 0 := by rw [e178]; exact isC_set i170
  have r188 : K177.2.2 a0 1 = some K8.1 := by rw [e178]; exact ref_set_nc (isC_ne i163 i166 (by decide)) r171
  have r189 : K177.2.2 a0 2 = some K21.1 := by rw [e178]; exact ref_set_nc (isC_ne i163 i166 (by decide)) r172
  have r190 : K177.2.2 a0 3 = some K38.1 := by rw [e178]; exact ref_set_nc (isC_ne i163 i166 (by decide)) r173
  have r191 : K177.2.2 a0 4 = some K59.1 := by rw [e178]; exact ref_set_nc (isC_ne i163 i166 (by decide)) r174
  refine z_aload_n C 1 0 dX9_init_76 rfl rfl ?_
  refine z_getR C ok_X9 i180 3 K38.1 (by decide) rfl r190 q_fl_X9_29 dX9_init_77 ?_
  refine z_iload_n C 0 1 dX9_init_80 rfl rfl ?_
  refine z_new C ok_X2 q_cl_X9_27 q_is_X2 q_in2_X2 df_X2 (by decide) (by decide) dX9_init_81 ?_
  refine z_K (fun K192 e193 => ?_)
  replace hf := bnd_out e193 hf
  have i195 : isC K192 a0 9 0 := by rw [e193]; exact isC_new i180
  have i196 : isC K192 K.1 20 4 := by rw [e193]; exact isC_new i181
  have i197 : isC K192 K8.1 24 2 := by rw [e193]; exact isC_new i182
  have i198 : isC K192 K21.1 25 2 := by rw [e193]; exact isC_new i183
  have i199 : isC K192 K38.1 26 2 := by rw [e193]; exact isC_new i184
  have i200 : isC K192 K59.1 27 2 := by rw [e193]; exact isC_new i185
  have i201 : isC K192 K84.1 5 0 := by rw [e193]; exact isC_new i186
  have i202 : isC K192 K129.1 4 0 := by rw [e193]; exact isC_new i187
  have r203 : K192.2.2 a0 1 = some K8.1 := by rw [e193]; exact ref_new i180 r188
  have r204 : K192.2.2 a0 2 = some K21.1 := by rw [e193]; exact ref_new i180 r189
  have r205 : K192.2.2 a0 3 = some K38.1 := by rw [e193]; exact ref_new i180 r190
  have r206 : K192.2.2 a0 4 = some K59.1 := by rw [e193]; exact ref_new i180 r191
  have i207 : isC K192 K177.1 2 0 := by rw [e193]; exact isC_new0
  refine z_M (fun M208 e209 => ?_)
  replace hf := bnd_out e209 hf
  refine z_dup C rfl dX9_init_84 ?_
  refine z_callI C [.ref (G.1 + K177.1), .int 0, .ref (G.1 + K38.1)] (tX2_init l G K192 M208 K177.1 i207) lkI_X2_init q_ml_X9_41 rfl ⟨Nat.le_of_ble_eq_true rfl, Nat.le_of_ble_eq_true rfl⟩ rfl (Nat.le_of_ble_eq_true rfl) ⟨by decide, by decide⟩ dX9_init_85 ?_
  refine z_K (fun K210 e211 => ?_)
  replace hf := bnd_out e211 hf
  have i213 : isC K210 a0 9 0 := by rw [e211]; exact (keep_X2_init K192 M208 K177.1).cell i195
  have i214 : isC K210 K.1 20 4 := by rw [e211]; exact (keep_X2_init K192 M208 K177.1).cell i196
  have i215 : isC K210 K8.1 24 2 := by rw [e211]; exact (keep_X2_init K192 M208 K177.1).cell i197
  have i216 : isC K210 K21.1 25 2 := by rw [e211]; exact (keep_X2_init K192 M208 K177.1).cell i198
  have i217 : isC K210 K38.1 26 2 := by rw [e211]; exact (keep_X2_init K192 M208 K177.1).cell i199
  have i218 : isC K210 K59.1 27 2 := by rw [e211]; exact (keep_X2_init K192 M208 K177.1).cell i200
  have i219 : isC K210 K84.1 5 0 := by rw [e211]; exact (keep_X2_init K192 M208 K177.1).cell i201
  have i220 : isC K210 K129.1 4 0 := by rw [e211]; exact (keep_X2_init K192 M208 K177.1).cell i202
  have i221 : isC K210 K177.1 2 0 := by rw [e211]; exact (keep_X2_init K192 M208 K177.1).cell i207
  have r222 : K210.2.2 a0 1 = some K8.1 := by rw [e211]; exact (keep_X2_init K192 M208 K177.1).rf i195 (isC_ne i195 i207 (by decide)) r203
  have r223 : K210.2.2 a0 2 = some K21.1 := by rw [e211]; exact (keep_X2_init K192 M208 K177.1).rf i195 (isC_ne i195 i207 (by decide)) r204
  have r224 : K210.2.2 a0 3 = some K38.1 := by rw [e211]; exact (keep_X2_init K192 M208 K177.1).rf i195 (isC_ne i195 i207 (by decide)) r205
  have r225 : K210.2.2 a0 4 = some K59.1 := by rw [e211]; exact (keep_X2_init K192 M208 K177.1).rf i195 (isC_ne i195 i207 (by decide)) r206
  refine z_M (fun M226 e227 => ?_)
  replace hf := bnd_out e227 hf
  refine z_aast C 6 i217 (by decide) i221 (by decide) rfl rfl (inb_in (by decide)) dX9_init_88 ?_
  refine z_K (fun K228 e229 => ?_)
  replace hf := bnd_out e229 hf
  have i231 : isC K228 a0 9 0 := by rw [e229]; exact isC_set i213
  have i232 : isC K228 K.1 20 4 := by rw [e229]; exact isC_set i214
  have i233 : isC K228 K8.1 24 2 := by rw [e229]; exact isC_set i215
  have i234 : isC K228 K21.1 25 2 := by rw [e229]; exact isC_set i216
  have i235 : isC K228 K38.1 26 2 := by rw [e229]; exact isC_set i217
  have i236 : isC K228 K59.1 27 2 := by rw [e229]; exact isC_set i218
  have i237 : isC K228 K84.1 5 0 := by rw [e229]; exact isC_set i219
  have i238 : isC K228 K129.1 4 0 := by rw [e229]; exact isC_set i220
  have i239 : isC K228 K177.1 2 0 := by rw [e229]; exact isC_set i221
  have r240 : K228.2.2 a0 1 = some K8.1 := by rw [e229]; exact ref_set_nc (isC_ne i213 i217 (by decide)) r222
  have r241 : K228.2.2 a0 2 = some K21.1 := by rw [e229]; exact ref_set_nc (isC_ne i213 i217 (by decide)) r223
  have r242 : K228.2.2 a0 3 = some K38.1 := by rw [e229]; exact ref_set_nc (isC_ne i213 i217 (by decide)) r224
  have r243 : K228.2.2 a0 4 = some K59.1 := by rw [e229]; exact ref_set_nc (isC_ne i213 i217 (by decide)) r225
  refine z_aload_n C 1 0 dX9_init_89 rfl rfl ?_
  refine z_getR C ok_X9 i231 4 K59.1 (by decide) rfl r243 q_fl_X9_35 dX9_init_90 ?_
  refine z_iload_n C 0 1 dX9_init_93 rfl rfl ?_
  refine z_new C ok_X8 q_cl_X9_33 q_is_X8 q_in2_X8 df_X8 (by decide) (by decide) dX9_init_94 ?_
  refine z_K (fun K244 e245 => ?_)
  replace hf := bnd_out e245 hf
  have i247 : isC K244 a0 9 0 := by rw [e245]; exact isC_new i231
  have i248 : isC K244 K.1 20 4 := by rw [e245]; exact isC_new i232
  have i249 : isC K244 K8.1 24 2 := by rw [e245]; exact isC_new i233
  have i250 : isC K244 K21.1 25 2 := by rw [e245]; exact isC_new i234
  have i251 : isC K244 K38.1 26 2 := by rw [e245]; exact isC_new i235
  have i252 : isC K244 K59.1 27 2 := by rw [e245]; exact isC_new i236
  have i253 : isC K244 K84.1 5 0 := by rw [e245]; exact isC_new i237
  have i254 : isC K244 K129.1 4 0 := by rw [e245]; exact isC_new i238
  have i255 : isC K244 K177.1 2 0 := by rw [e245]; exact isC_new i239
  have r256 : K244.2.2 a0 1 = some K8.1 := by rw [e245]; exact ref_new i231 r240
  have r257 : K244.2.2 a0 2 = some K21.1 := by rw [e245]; exact ref_new i231 r241
  have r258 : K244.2.2 a0 3 = some K38.1 := by rw [e245]; exact ref_new i231 r242
  have r259 : K244.2.2 a0 4 = some K59.1 := by rw [e245]; exact ref_new i231 r243
  have i260 : isC K244 K228.1 8 0 := by rw [e245]; exact isC_new0
  refine z_M (fun M261 e262 => ?_)
  replace hf := bnd_out e262 hf
  refine z_dup C rfl dX9_init_97 ?_
  refine z_callI C [.ref (G.1 + K228.1), .int 0, .ref (G.1 + K59.1)] (tX8_init l G K244 M261 K228.1 i260) lkI_X8_init q_ml_X9_42 rfl ⟨Nat.le_of_ble_eq_true rfl, Nat.le_of_ble_eq_true rfl⟩ rfl (Nat.le_of_ble_eq_true rfl) ⟨by decide, by decide⟩ dX9_init_98 ?_
  refine z_K (fun K263 e264 => ?_)
  replace hf := bnd_out e264 hf
  have i266 : isC K263 a0 9 0 := by rw [e264]; exact (keep_X8_init K244 M261 K228.1).cell i247
  have i267 : isC K263 K.1 20 4 := by rw [e264]; exact (keep_X8_init K244 M261 K228.1).cell i248
  have i268 : isC K263 K8.1 24 2 := by rw [e264]; exact (keep_X8_init K244 M261 K228.1).cell i249
  have i269 : isC K263 K21.1 25 2 := by rw [e264]; exact (keep_X8_init K244 M261 K228.1).cell i250
  have i270 : isC K263 K38.1 26 2 := by rw [e264]; exact (keep_X8_init K244 M261 K228.1).cell i251
  have i271 : isC K263 K59.1 27 2 := by rw [e264]; exact (keep_X8_init K244 M261 K228.1).cell i252
  have i272 : isC K263 K84.1 5 0 := by rw [e264]; exact (keep_X8_init K244 M261 K228.1).cell i253
  have i273 : isC K263 K129.1 4 0 := by rw [e264]; exact (keep_X8_init K244 M261 K228.1).cell i254
  have i274 : isC K263 K177.1 2 0 := by rw [e264]; exact (keep_X8_init K244 M261 K228.1).cell i255
  have i275 : isC K263 K228.1 8 0 := by rw [e264]; exact (keep_X8_init K244 M261 K228.1).cell i260
  have r276 : K263.2.2 a0 1 = some K8.1 := by rw [e264]; exact (keep_X8_init K244 M261 K228.1).rf i247 (isC_ne i247 i260 (by decide)) r256
  have r277 : K263.2.2 a0 2 = some K21.1 := by rw [e264]; exact (keep_X8_init K244 M261 K228.1).rf i247 (isC_ne i247 i260 (by decide)) r257
  have r278 : K263.2.2 a0 3 = some K38.1 := by rw [e264]; exact (keep_X8_init K244 M261 K228.1).rf i247 (isC_ne i247 i260 (by decide)) r258
  have r279 : K263.2.2 a0 4 = some K59.1 := by rw [e264]; exact (keep_X8_init K244 M261 K228.1).rf i247 (isC_ne i247 i260 (by decide)) r259
  refine z_M (fun M280 e281 => ?_)
  replace hf := bnd_out e281 hf
  refine z_aast C 7 i271 (by decide) i275 (by decide) rfl rfl (inb_in (by decide)) dX9_init_101 ?_
  refine z_K (fun K282 e283 => ?_)
  replace hf := bnd_out e283 hf
  have i285 : isC K282 a0 9 0 := by rw [e283]; exact isC_set i266
  have i286 : isC K282 K.1 20 4 := by rw [e283]; exact isC_set i267
  have i287 : isC K282 K8.1 24 2 := by rw [e283]; exact isC_set i268
  have i288 : isC K282 K21.1 25 2 := by rw [e283]; exact isC_set i269
  have i289 : isC K282 K38.1 26 2 := by rw [e283]; exact isC_set i270
  have i290 : isC K282 K59.1 27 2 := by rw [e283]; exact isC_set i271
  have i291 : isC K282 K84.1 5 0 := by rw [e283]; exact isC_set i272
  have i292 : isC K282 K129.1 4 0 := by rw [e283]; exact isC_set i273
  have i293 : isC K282 K177.1 2 0 := by rw [e283]; exact isC_set i274
  have i294 : isC K282 K228.1 8 0 := by rw [e283]; exact isC_set i275
  have r295 : K282.2.2 a0 1 = some K8.1 := by rw [e283]; exact ref_set_nc (isC_ne i266 i271 (by decide)) r276
  have r296 : K282.2.2 a0 2 = some K21.1 := by rw [e283]; exact ref_set_nc (isC_ne i266 i271 (by decide)) r277
  have r297 : K282.2.2 a0 3 = some K38.1 := by rw [e283]; exact ref_set_nc (isC_ne i266 i271 (by decide)) r278
  have r298 : K282.2.2 a0 4 = some K59.1 := by rw [e283]; exact ref_set_nc (isC_ne i266 i271 (by decide)) r279
  refine z_iinc C 0 1 [(1, .int 1), (0, .ref (G.1 + a0))] dX9_init_102 rfl rfl (by decide) rfl rfl ?_
  refine z_goto C 45 dX9_init_105 (by decide) ?_
  refine z_iload_n C 0 1 dX9_init_45 rfl rfl ?_
  refine z_iconst C 2 dX9_init_46 (by decide) ?_
  refine z_icmp_ge C 108 dX9_init_47 (by decide) (fun h => absurd h (by decide)) (fun _ => ?_)
  refine z_aload_n C 1 0 dX9_init_50 rfl rfl ?_
  refine z_getR C ok_X9 i285 1 K8.1 (by decide) rfl r295 q_fl_X9_17 dX9_init_51 ?_
  refine z_iload_n C 0 1 dX9_init_54 rfl rfl ?_
  refine z_new C ok_X5 q_cl_X9_15 q_is_X5 q_in2_X5 df_X5 (by decide) (by decide) dX9_init_55 ?_
  refine z_K (fun K299 e300 => ?_)
  replace hf := bnd_out e300 hf
  have i302 : isC K299 a0 9 0 := by rw [e300]; exact isC_new i285
  have i303 : isC K299 K.1 20 4 := by rw [e300]; exact isC_new i286
  have i304 : isC K299 K8.1 24 2 := by rw [e300]; exact isC_new i287
  have i305 : isC K299 K21.1 25 2 := by rw [e300]; exact isC_new i288
  have i306 : isC K299 K38.1 26 2 := by rw [e300]; exact isC_new i289
  have i307 : isC K299 K59.1 27 2 := by rw [e300]; exact isC_new i290
  have i308 : isC K299 K84.1 5 0 := by rw [e300]; exact isC_new i291
  have i309 : isC K299 K129.1 4 0 := by rw [e300]; exact isC_new i292
  have i310 : isC K299 K177.1 2 0 := by rw [e300]; exact isC_new i293
  have i311 : isC K299 K228.1 8 0 := by rw [e300]; exact isC_new i294
  have r312 : K299.2.2 a0 1 = some K8.1 := by rw [e300]; exact ref_new i285 r295
  have r313 : K299.2.2 a0 2 = some K21.1 := by rw [e300]; exact ref_new i285 r296
  have r314 : K299.2.2 a0 3 = some K38.1 := by rw [e300]; exact ref_new i285 r297
  have r315 : K299.2.2 a0 4 = some K59.1 := by rw [e300]; exact ref_new i285 r298
  have i316 : isC K299 K282.1 5 0 := by rw [e300]; exact isC_new0
  refine z_M (fun M317 e318 => ?_)
  replace hf := bnd_out e318 hf
  refine z_dup C rfl dX9_init_58 ?_
  refine z_callI C [.ref (G.1 + K282.1), .int 1, .ref (G.1 + K8.1)] (tX5_init l G K299 M317 K282.1 i316) lkI_X5_init q_ml_X9_39 rfl ⟨Nat.le_of_ble_eq_true rfl, Nat.le_of_ble_eq_true rfl⟩ rfl (Nat.le_of_ble_eq_true rfl) ⟨by decide, by decide⟩ dX9_init_59 ?_
  refine z_K (fun K319 e320 => ?_)
  replace hf := bnd_out e320 hf
  have i322 : isC K319 a0 9 0 := by rw [e320]; exact (keep_X5_init K299 M317 K282.1).cell i302
  have i323 : isC K319 K.1 20 4 := by rw [e320]; exact (keep_X5_init K299 M317 K282.1).cell i303
  have i324 : isC K319 K8.1 24 2 := by rw [e320]; exact (keep_X5_init K299 M317 K282.1).cell i304
  have i325 : isC K319 K21.1 25 2 := by rw [e320]; exact (keep_X5_init K299 M317 K282.1).cell i305
  have i326 : isC K319 K38.1 26 2 := by rw [e320]; exact (keep_X5_init K299 M317 K282.1).cell i306
  have i327 : isC K319 K59.1 27 2 := by rw [e320]; exact (keep_X5_init K299 M317 K282.1).cell i307
  have i328 : isC K319 K84.1 5 0 := by rw [e320]; exact (keep_X5_init K299 M317 K282.1).cell i308
  have i329 : isC K319 K129.1 4 0 := by rw [e320]; exact (keep_X5_init K299 M317 K282.1).cell i309
  have i330 : isC K319 K177.1 2 0 := by rw [e320]; exact (keep_X5_init K299 M317 K282.1).cell i310
  have i331 : isC K319 K228.1 8 0 := by rw [e320]; exact (keep_X5_init K299 M317 K282.1).cell i311
  have i332 : isC K319 K282.1 5 0 := by rw [e320]; exact (keep_X5_init K299 M317 K282.1).cell i316
  have r333 : K319.2.2 a0 1 = some K8.1 := by rw [e320]; exact (keep_X5_init K299 M317 K282.1).rf i302 (isC_ne i302 i316 (by decide)) r312
  have r334 : K319.2.2 a0 2 = some K21.1 := by rw [e320]; exact (keep_X5_init K299 M317 K282.1).rf i302 (isC_ne i302 i316 (by decide)) r313
  have r335 : K319.2.2 a0 3 = some K38.1 := by rw [e320]; exact (keep_X5_init K299 M317 K282.1).rf i302 (isC_ne i302 i316 (by decide)) r314
  have r336 : K319.2.2 a0 4 = some K59.1 := by rw [e320]; exact (keep_X5_init K299 M317 K282.1).rf i302 (isC_ne i302 i316 (by decide)) r315
  refine z_M (fun M337 e338 => ?_)
  replace hf := bnd_out e338 hf
  refine z_aast C 4 i324 (by decide) i332 (by decide) rfl rfl (inb_in (by decide)) dX9_init_62 ?_
  refine z_K (fun K339 e340 => ?_)
  replace hf := bnd_out e340 hf
  have i342 : isC K339 a0 9 0 := by rw [e340]; exact isC_set i322
  have i343 : isC K339 K.1 20 4 := by rw [e340]; exact isC_set i323
  have i344 : isC K339 K8.1 24 2 := by rw [e340]; exact isC_set i324
  have i345 : isC K339 K21.1 25 2 := by rw [e340]; exact isC_set i325
  have i346 : isC K339 K38.1 26 2 := by rw [e340]; exact isC_set i326
  have i347 : isC K339 K59.1 27 2 := by rw [e340]; exact isC_set i327
  have i348 : isC K339 K84.1 5 0 := by rw [e340]; exact isC_set i328
  have i349 : isC K339 K129.1 4 0 := by rw [e340]; exact isC_set i329
  have i350 : isC K339 K177.1 2 0 := by rw [e340]; exact isC_set i330
  have i351 : isC K339 K228.1 8 0 := by rw [e340]; exact isC_set i331
  have i352 : isC K339 K282.1 5 0 := by rw [e340]; exact isC_set i332
  have r353 : K339.2.2 a0 1 = some K8.1 := by rw [e340]; exact ref_set_nc (isC_ne i322 i324 (by decide)) r333
  have r354 : K339.2.2 a0 2 = some K21.1 := by rw [e340]; exact ref_set_nc (isC_ne i322 i324 (by decide)) r334
  have r355 : K339.2.2 a0 3 = some K38.1 := by rw [e340]; exact ref_set_nc (isC_ne i322 i324 (by decide)) r335
  have r356 : K339.2.2 a0 4 = some K59.1 := by rw [e340]; exact ref_set_nc (isC_ne i322 i324 (by decide)) r336
  refine z_aload_n C 1 0 dX9_init_63 rfl rfl ?_
  refine z_getR C ok_X9 i342 2 K21.1 (by decide) rfl r354 q_fl_X9_23 dX9_init_64 ?_
  refine z_iload_n C 0 1 dX9_init_67 rfl rfl ?_
  refine z_new C ok_X4 q_cl_X9_21 q_is_X4 q_in2_X4 df_X4 (by decide) (by decide) dX9_init_68 ?_
  refine z_K (fun K357 e358 => ?_)
  replace hf := bnd_out e358 hf
  have i360 : isC K357 a0 9 0 := by rw [e358]; exact isC_new i342
  have i361 : isC K357 K.1 20 4 := by rw [e358]; exact isC_new i343
  have i362 : isC K357 K8.1 24 2 := by rw [e358]; exact isC_new i344
  have i363 : isC K357 K21.1 25 2 := by rw [e358]; exact isC_new i345
  have i364 : isC K357 K38.1 26 2 := by rw [e358]; exact isC_new i346
  have i365 : isC K357 K59.1 27 2 := by rw [e358]; exact isC_new i347
  have i366 : isC K357 K84.1 5 0 := by rw [e358]; exact isC_new i348
  have i367 : isC K357 K129.1 4 0 := by rw [e358]; exact isC_new i349
  have i368 : isC K357 K177.1 2 0 := by rw [e358]; exact isC_new i350
  have i369 : isC K357 K228.1 8 0 := by rw [e358]; exact isC_new i351
  have i370 : isC K357 K282.1 5 0 := by rw [e358]; exact isC_new i352
  have r371 : K357.2.2 a0 1 = some K8.1 := by rw [e358]; exact ref_new i342 r353
  have r372 : K357.2.2 a0 2 = some K21.1 := by rw [e358]; exact ref_new i342 r354
  have r373 : K357.2.2 a0 3 = some K38.1 := by rw [e358]; exact ref_new i342 r355
  have r374 : K357.2.2 a0 4 = some K59.1 := by rw [e358]; exact ref_new i342 r356
  have i375 : isC K357 K339.1 4 0 := by rw [e358]; exact isC_new0
  refine z_M (fun M376 e377 => ?_)
  replace hf := bnd_out e377 hf
  refine z_dup C rfl dX9_init_71 ?_
  refine z_callI C [.ref (G.1 + K339.1), .int 1, .ref (G.1 + K21.1)] (tX4_init l G K357 M376 K339.1 i375) lkI_X4_init q_ml_X9_40 rfl ⟨Nat.le_of_ble_eq_true rfl, Nat.le_of_ble_eq_true rfl⟩ rfl (Nat.le_of_ble_eq_true rfl) ⟨by decide, by decide⟩ dX9_init_72 ?_
  refine z_K (fun K378 e379 => ?_)
  replace hf := bnd_out e379 hf
  have i381 : isC K378 a0 9 0 := by rw [e379]; exact (keep_X4_init K357 M376 K339.1).cell i360
  have i382 : isC K378 K.1 20 4 := by rw [e379]; exact (keep_X4_init K357 M376 K339.1).cell i361
  have i383 : isC K378 K8.1 24 2 := by rw [e379]; exact (keep_X4_init K357 M376 K339.1).cell i362
  have i384 : isC K378 K21.1 25 2 := by rw [e379]; exact (keep_X4_init K357 M376 K339.1).cell i363
  have i385 : isC K378 K38.1 26 2 := by rw [e379]; exact (keep_X4_init K357 M376 K339.1).cell i364
  have i386 : isC K378 K59.1 27 2 := by rw [e379]; exact (keep_X4_init K357 M376 K339.1).cell i365
  have i387 : isC K378 K84.1 5 0 := by rw [e379]; exact (keep_X4_init K357 M376 K339.1).cell i366
  have i388 : isC K378 K129.1 4 0 := by rw [e379]; exact (keep_X4_init K357 M376 K339.1).cell i367
  have i389 : isC K378 K177.1 2 0 := by rw [e379]; exact (keep_X4_init K357 M376 K339.1).cell i368
  have i390 : isC K378 K228.1 8 0 := by rw [e379]; exact (keep_X4_init K357 M376 K339.1).cell i369
  have i391 : isC K378 K282.1 5 0 := by rw [e379]; exact (keep_X4_init K357 M376 K339.1).cell i370
  have i392 : isC K378 K339.1 4 0 := by rw [e379]; exact (keep_X4_init K357 M376 K339.1).cell i375
  have r393 : K378.2.2 a0 1 = some K8.1 := by rw [e379]; exact (keep_X4_init K357 M376 K339.1).rf i360 (isC_ne i360 i375 (by decide)) r371
  have r394 : K378.2.2 a0 2 = some K21.1 := by rw [e379]; exact (keep_X4_init K357 M376 K339.1).rf i360 (isC_ne i360 i375 (by decide)) r372
  have r395 : K378.2.2 a0 3 = some K38.1 := by rw [e379]; exact (keep_X4_init K357 M376 K339.1).rf i360 (isC_ne i360 i375 (by decide)) r373
  have r396 : K378.2.2 a0 4 = some K59.1 := by rw [e379]; exact (keep_X4_init K357 M376 K339.1).rf i360 (isC_ne i360 i375 (by decide)) r374
  refine z_M (fun M397 e398 => ?_)
  replace hf := bnd_out e398 hf
  refine z_aast C 5 i384 (by decide) i392 (by decide) rfl rfl (inb_in (by decide)) dX9_init_75 ?_
  refine z_K (fun K399 e400 => ?_)
  replace hf := bnd_out e400 hf
  have i402 : isC K399 a0 9 0 := by rw [e400]; exact isC_set i381
  have i403 : isC K399 K.1 20 4 := by rw [e400]; exact isC_set i382
  have i404 : isC K399 K8.1 24 2 := by rw [e400]; exact isC_set i383
  have i405 : isC K399 K21.1 25 2 := by rw [e400]; exact isC_set i384
  have i406 : isC K399 K38.1 26 2 := by rw [e400]; exact isC_set i385
  have i407 : isC K399 K59.1 27 2 := by rw [e400]; exact isC_set i386
  have i408 : isC K399 K84.1 5 0 := by rw [e400]; exact isC_set i387
  have i409 : isC K399 K129.1 4 0 := by rw [e400]; exact isC_set i388
  have i410 : isC K399 K177.1 2 0 := by rw [e400]; exact isC_set i389
  have i411 : isC K399 K228.1 8 0 := by rw [e400]; exact isC_set i390
  have i412 : isC K399 K282.1 5 0 := by rw [e400]; exact isC_set i391
  have i413 : isC K399 K339.1 4 0 := by rw [e400]; exact isC_set i392
  have r414 : K399.2.2 a0 1 = some K8.1 := by rw [e400]; exact ref_set_nc (isC_ne i381 i384 (by decide)) r393
  have r415 : K399.2.2 a0 2 = some K21.1 := by rw [e400]; exact ref_set_nc (isC_ne i381 i384 (by decide)) r394
  have r416 : K399.2.2 a0 3 = some K38.1 := by rw [e400]; exact ref_set_nc (isC_ne i381 i384 (by decide)) r395
  have r417 : K399.2.2 a0 4 = some K59.1 := by rw [e400]; exact ref_set_nc (isC_ne i381 i384 (by decide)) r396
  refine z_aload_n C 1 0 dX9_init_76 rfl rfl ?_
  refine z_getR C ok_X9 i402 3 K38.1 (by decide) rfl r416 q_fl_X9_29 dX9_init_77 ?_
  refine z_iload_n C 0 1 dX9_init_80 rfl rfl ?_
  refine z_new C ok_X2 q_cl_X9_27 q_is_X2 q_in2_X2 df_X2 (by decide) (by decide) dX9_init_81 ?_
  refine z_K (fun K418 e419 => ?_)
  replace hf := bnd_out e419 hf
  have i421 : isC K418 a0 9 0 := by rw [e419]; exact isC_new i402
  have i422 : isC K418 K.1 20 4 := by rw [e419]; exact isC_new i403
  have i423 : isC K418 K8.1 24 2 := by rw [e419]; exact isC_new i404
  have i424 : isC K418 K21.1 25 2 := by rw [e419]; exact isC_new i405
  have i425 : isC K418 K38.1 26 2 := by rw [e419]; exact isC_new i406
  have i426 : isC K418 K59.1 27 2 := by rw [e419]; exact isC_new i407
  have i427 : isC K418 K84.1 5 0 := by rw [e419]; exact isC_new i408
  have i428 : isC K418 K129.1 4 0 := by rw [e419]; exact isC_new i409
  have i429 : isC K418 K177.1 2 0 := by rw [e419]; exact isC_new i410
  have i430 : isC K418 K228.1 8 0 := by rw [e419]; exact isC_new i411
  have i431 : isC K418 K282.1 5 0 := by rw [e419]; exact isC_new i412
  have i432 : isC K418 K339.1 4 0 := by rw [e419]; exact isC_new i413
  have r433 : K418.2.2 a0 1 = some K8.1 := by rw [e419]; exact ref_new i402 r414
  have r434 : K418.2.2 a0 2 = some K21.1 := by rw [e419]; exact ref_new i402 r415
  have r435 : K418.2.2 a0 3 = some K38.1 := by rw [e419]; exact ref_new i402 r416
  have r436 : K418.2.2 a0 4 = some K59.1 := by rw [e419]; exact ref_new i402 r417
  have i437 : isC K418 K399.1 2 0 := by rw [e419]; exact isC_new0
  refine z_M (fun M438 e439 => ?_)
  replace hf := bnd_out e439 hf
  refine z_dup C rfl dX9_init_84 ?_
  refine z_callI C [.ref (G.1 + K399.1), .int 1, .ref (G.1 + K38.1)] (tX2_init l G K418 M438 K399.1 i437) lkI_X2_init q_ml_X9_41 rfl ⟨Nat.le_of_ble_eq_true rfl, Nat.le_of_ble_eq_true rfl⟩ rfl (Nat.le_of_ble_eq_true rfl) ⟨by decide, by decide⟩ dX9_init_85 ?_
  refine z_K (fun K440 e441 => ?_)
  replace hf := bnd_out e441 hf
  have i443 : isC K440 a0 9 0 := by rw [e441]; exact (keep_X2_init K418 M438 K399.1).cell i421
  have i444 : isC K440 K.1 20 4 := by rw [e441]; exact (keep_X2_init K418 M438 K399.1).cell i422
  have i445 : isC K440 K8.1 24 2 := by rw [e441]; exact (keep_X2_init K418 M438 K399.1).cell i423
  have i446 : isC K440 K21.1 25 2 := by rw [e441]; exact (keep_X2_init K418 M438 K399.1).cell i424
  have i447 : isC K440 K38.1 26 2 := by rw [e441]; exact (keep_X2_init K418 M438 K399.1).cell i425
  have i448 : isC K440 K59.1 27 2 := by rw [e441]; exact (keep_X2_init K418 M438 K399.1).cell i426
  have i449 : isC K440 K84.1 5 0 := by rw [e441]; exact (keep_X2_init K418 M438 K399.1).cell i427
  have i450 : isC K440 K129.1 4 0 := by rw [e441]; exact (keep_X2_init K418 M438 K399.1).cell i428
  have i451 : isC K440 K177.1 2 0 := by rw [e441]; exact (keep_X2_init K418 M438 K399.1).cell i429
  have i452 : isC K440 K228.1 8 0 := by rw [e441]; exact (keep_X2_init K418 M438 K399.1).cell i430
  have i453 : isC K440 K282.1 5 0 := by rw [e441]; exact (keep_X2_init K418 M438 K399.1).cell i431
  have i454 : isC K440 K339.1 4 0 := by rw [e441]; exact (keep_X2_init K418 M438 K399.1).cell i432
  have i455 : isC K440 K399.1 2 0 := by rw [e441]; exact (keep_X2_init K418 M438 K399.1).cell i437
  have r456 : K440.2.2 a0 1 = some K8.1 := by rw [e441]; exact (keep_X2_init K418 M438 K399.1).rf i421 (isC_ne i421 i437 (by decide)) r433
  have r457 : K440.2.2 a0 2 = some K21.1 := by rw [e441]; exact (keep_X2_init K418 M438 K399.1).rf i421 (isC_ne i421 i437 (by decide)) r434
  have r458 : K440.2.2 a0 3 = some K38.1 := by rw [e441]; exact (keep_X2_init K418 M438 K399.1).rf i421 (isC_ne i421 i437 (by decide)) r435
  have r459 : K440.2.2 a0 4 = some K59.1 := by rw [e441]; exact (keep_X2_init K418 M438 K399.1).rf i421 (isC_ne i421 i437 (by decide)) r436
  refine z_M (fun M460 e461 => ?_)
  replace hf := bnd_out e461 hf
  refine z_aast C 6 i447 (by decide) i455 (by decide) rfl rfl (inb_in (by decide)) dX9_init_88 ?_
  refine z_K (fun K462 e463 => ?_)
  replace hf := bnd_out e463 hf
  have i465 : isC K462 a0 9 0 := by rw [e463]; exact isC_set i443
  have i466 : isC K462 K.1 20 4 := by rw [e463]; exact isC_set i444
  have i467 : isC K462 K8.1 24 2 := by rw [e463]; exact isC_set i445
  have i468 : isC K462 K21.1 25 2 := by rw [e463]; exact isC_set i446
  have i469 : isC K462 K38.1 26 2 := by rw [e463]; exact isC_set i447
  have i470 : isC K462 K59.1 27 2 := by rw [e463]; exact isC_set i448
  have i471 : isC K462 K84.1 5 0 := by rw [e463]; exact isC_set i449
  have i472 : isC K462 K129.1 4 0 := by rw [e463]; exact isC_set i450
  have i473 : isC K462 K177.1 2 0 := by rw [e463]; exact isC_set i451
  have i474 : isC K462 K228.1 8 0 := by rw [e463]; exact isC_set i452
  have i475 : isC K462 K282.1 5 0 := by rw [e463]; exact isC_set i453
  have i476 : isC K462 K339.1 4 0 := by rw [e463]; exact isC_set i454
  have i477 : isC K462 K399.1 2 0 := by rw [e463]; exact isC_set i455
  have r478 : K462.2.2 a0 1 = some K8.1 := by rw [e463]; exact ref_set_nc (isC_ne i443 i447 (by decide)) r456
  have r479 : K462.2.2 a0 2 = some K21.1 := by rw [e463]; exact ref_set_nc (isC_ne i443 i447 (by decide)) r457
  have r480 : K462.2.2 a0 3 = some K38.1 := by rw [e463]; exact ref_set_nc (isC_ne i443 i447 (by decide)) r458
  have r481 : K462.2.2 a0 4 = some K59.1 := by rw [e463]; exact ref_set_nc (isC_ne i443 i447 (by decide)) r459
  refine z_aload_n C 1 0 dX9_init_89 rfl rfl ?_
  refine z_getR C ok_X9 i465 4 K59.1 (by decide) rfl r481 q_fl_X9_35 dX9_init_90 ?_
  refine z_iload_n C 0 1 dX9_init_93 rfl rfl ?_
  refine z_new C ok_X8 q_cl_X9_33 q_is_X8 q_in2_X8 df_X8 (by decide) (by decide) dX9_init_94 ?_
  refine z_K (fun K482 e483 => ?_)
  replace hf := bnd_out e483 hf
  have i485 : isC K482 a0 9 0 := by rw [e483]; exact isC_new i465
  have i486 : isC K482 K.1 20 4 := by rw [e483]; exact isC_new i466
  have i487 : isC K482 K8.1 24 2 := by rw [e483]; exact isC_new i467
  have i488 : isC K482 K21.1 25 2 := by rw [e483]; exact isC_new i468
  have i489 : isC K482 K38.1 26 2 := by rw [e483]; exact isC_new i469
  have i490 : isC K482 K59.1 27 2 := by rw [e483]; exact isC_new i470
  have i491 : isC K482 K84.1 5 0 := by rw [e483]; exact isC_new i471
  have i492 : isC K482 K129.1 4 0 := by rw [e483]; exact isC_new i472
  have i493 : isC K482 K177.1 2 0 := by rw [e483]; exact isC_new i473
  have i494 : isC K482 K228.1 8 0 := by rw [e483]; exact isC_new i474
  have i495 : isC K482 K282.1 5 0 := by rw [e483]; exact isC_new i475
  have i496 : isC K482 K339.1 4 0 := by rw [e483]; exact isC_new i476
  have i497 : isC K482 K399.1 2 0 := by rw [e483]; exact isC_new i477
  have r498 : K482.2.2 a0 1 = some K8.1 := by rw [e483]; exact ref_new i465 r478
  have r499 : K482.2.2 a0 2 = some K21.1 := by rw [e483]; exact ref_new i465 r479
  have r500 : K482.2.2 a0 3 = some K38.1 := by rw [e483]; exact ref_new i465 r480
  have r501 : K482.2.2 a0 4 = some K59.1 := by rw [e483]; exact ref_new i465 r481
  have i502 : isC K482 K462.1 8 0 := by rw [e483]; exact isC_new0
  refine z_M (fun M503 e504 => ?_)
  replace hf := bnd_out e504 hf
  refine z_dup C rfl dX9_init_97 ?_
  refine z_callI C [.ref (G.1 + K462.1), .int 1, .ref (G.1 + K59.1)] (tX8_init l G K482 M503 K462.1 i502) lkI_X8_init q_ml_X9_42 rfl ⟨Nat.le_of_ble_eq_true rfl, Nat.le_of_ble_eq_true rfl⟩ rfl (Nat.le_of_ble_eq_true rfl) ⟨by decide, by decide⟩ dX9_init_98 ?_
  refine z_K (fun K505 e506 => ?_)
  replace hf := bnd_out e506 hf
  have i508 : isC K505 a0 9 0 := by rw [e506]; exact (keep_X8_init K482 M503 K462.1).cell i485
  have i509 : isC K505 K.1 20 4 := by rw [e506]; exact (keep_X8_init K482 M503 K462.1).cell i486
  have i510 : isC K505 K8.1 24 2 := by rw [e506]; exact (keep_X8_init K482 M503 K462.1).cell i487
  have i511 : isC K505 K21.1 25 2 := by rw [e506]; exact (keep_X8_init K482 M503 K462.1).cell i488
  have i512 : isC K505 K38.1 26 2 := by rw [e506]; exact (keep_X8_init K482 M503 K462.1).cell i489
  have i513 : isC K505 K59.1 27 2 := by rw [e506]; exact (keep_X8_init K482 M503 K462.1).cell i490
  have i514 : isC K505 K84.1 5 0 := by rw [e506]; exact (keep_X8_init K482 M503 K462.1).cell i491
  have i515 : isC K505 K129.1 4 0 := by rw [e506]; exact (keep_X8_init K482 M503 K462.1).cell i492
  have i516 : isC K505 K177.1 2 0 := by rw [e506]; exact (keep_X8_init K482 M503 K462.1).cell i493
  have i517 : isC K505 K228.1 8 0 := by rw [e506]; exact (keep_X8_init K482 M503 K462.1).cell i494
  have i518 : isC K505 K282.1 5 0 := by rw [e506]; exact (keep_X8_init K482 M503 K462.1).cell i495
  have i519 : isC K505 K339.1 4 0 := by rw [e506]; exact (keep_X8_init K482 M503 K462.1).cell i496
  have i520 : isC K505 K399.1 2 0 := by rw [e506]; exact (keep_X8_init K482 M503 K462.1).cell i497
  have i521 : isC K505 K462.1 8 0 := by rw [e506]; exact (keep_X8_init K482 M503 K462.1).cell i502
  have r522 : K505.2.2 a0 1 = some K8.1 := by rw [e506]; exact (keep_X8_init K482 M503 K462.1).rf i485 (isC_ne i485 i502 (by decide)) r498
  have r523 : K505.2.2 a0 2 = some K21.1 := by rw [e506]; exact (keep_X8_init K482 M503 K462.1).rf i485 (isC_ne i485 i502 (by decide)) r499
  have r524 : K505.2.2 a0 3 = some K38.1 := by rw [e506]; exact (keep_X8_init K482 M503 K462.1).rf i485 (isC_ne i485 i502 (by decide)) r500
  have r525 : K505.2.2 a0 4 = some K59.1 := by rw [e506]; exact (keep_X8_init K482 M503 K462.1).rf i485 (isC_ne i485 i502 (by decide)) r501
  refine z_M (fun M526 e527 => ?_)
  replace hf := bnd_out e527 hf
  refine z_aast C 7 i513 (by decide) i521 (by decide) rfl rfl (inb_in (by decide)) dX9_init_101 ?_
  refine z_K (fun K528 e529 => ?_)
  replace hf := bnd_out e529 hf
  have i531 : isC K528 a0 9 0 := by rw [e529]; exact isC_set i508
  have i532 : isC K528 K.1 20 4 := by rw [e529]; exact isC_set i509
  have i533 : isC K528 K8.1 24 2 := by rw [e529]; exact isC_set i510
  have i534 : isC K528 K21.1 25 2 := by rw [e529]; exact isC_set i511
  have i535 : isC K528 K38.1 26 2 := by rw [e529]; exact isC_set i512
  have i536 : isC K528 K59.1 27 2 := by rw [e529]; exact isC_set i513
  have i537 : isC K528 K84.1 5 0 := by rw [e529]; exact isC_set i514
  have i538 : isC K528 K129.1 4 0 := by rw [e529]; exact isC_set i515
  have i539 : isC K528 K177.1 2 0 := by rw [e529]; exact isC_set i516
  have i540 : isC K528 K228.1 8 0 := by rw [e529]; exact isC_set i517
  have i541 : isC K528 K282.1 5 0 := by rw [e529]; exact isC_set i518
  have i542 : isC K528 K339.1 4 0 := by rw [e529]; exact isC_set i519
  have i543 : isC K528 K399.1 2 0 := by rw [e529]; exact isC_set i520
  have i544 : isC K528 K462.1 8 0 := by rw [e529]; exact isC_set i521
  have r545 : K528.2.2 a0 1 = some K8.1 := by rw [e529]; exact ref_set_nc (isC_ne i508 i513 (by decide)) r522
  have r546 : K528.2.2 a0 2 = some K21.1 := by rw [e529]; exact ref_set_nc (isC_ne i508 i513 (by decide)) r523
  have r547 : K528.2.2 a0 3 = some K38.1 := by rw [e529]; exact ref_set_nc (isC_ne i508 i513 (by decide)) r524
  have r548 : K528.2.2 a0 4 = some K59.1 := by rw [e529]; exact ref_set_nc (isC_ne i508 i513 (by decide)) r525
  refine z_iinc C 0 2 [(1, .int 2), (0, .ref (G.1 + a0))] dX9_init_102 rfl rfl (by decide) rfl rfl ?_
  refine z_goto C 45 dX9_init_105 (by decide) ?_
  refine z_iload_n C 0 1 dX9_init_45 rfl rfl ?_
  refine z_iconst C 2 dX9_init_46 (by decide) ?_
  refine z_icmp_ge C 108 dX9_init_47 (by decide) (fun _ => ?_) (fun h => absurd (by decide) h)
  refine z_aload_n C 1 0 dX9_init_108 rfl rfl ?_
  refine z_sipush C 600 dX9_init_109 (by decide) ?_
  refine z_newab C 600 q_ac_b (by decide) (by decide) (by decide) (by decide) (by decide) dX9_init_112 ?_
  refine z_K (fun K549 e550 => ?_)
  replace hf := bnd_out e550 hf
  have i552 : isC K549 a0 9 0 := by rw [e550]; exact isC_new i531
  have i553 : isC K549 K.1 20 4 := by rw [e550]; exact isC_new i532
  have i554 : isC K549 K8.1 24 2 := by rw [e550]; exact isC_new i533
  have i555 : isC K549 K21.1 25 2 := by rw [e550]; exact isC_new i534
  have i556 : isC K549 K38.1 26 2 := by rw [e550]; exact isC_new i535
  have i557 : isC K549 K59.1 27 2 := by rw [e550]; exact isC_new i536
  have i558 : isC K549 K84.1 5 0 := by rw [e550]; exact isC_new i537
  have i559 : isC K549 K129.1 4 0 := by rw [e550]; exact isC_new i538
  have i560 : isC K549 K177.1 2 0 := by rw [e550]; exact isC_new i539
  have i561 : isC K549 K228.1 8 0 := by rw [e550]; exact isC_new i540
  have i562 : isC K549 K282.1 5 0 := by rw [e550]; exact isC_new i541
  have i563 : isC K549 K339.1 4 0 := by rw [e550]; exact isC_new i542
  have i564 : isC K549 K399.1 2 0 := by rw [e550]; exact isC_new i543
  have i565 : isC K549 K462.1 8 0 := by rw [e550]; exact isC_new i544
  have r566 : K549.2.2 a0 1 = some K8.1 := by rw [e550]; exact ref_new i531 r545
  have r567 : K549.2.2 a0 2 = some K21.1 := by rw [e550]; exact ref_new i531 r546
  have r568 : K549.2.2 a0 3 = some K38.1 := by rw [e550]; exact ref_new i531 r547
  have r569 : K549.2.2 a0 4 = some K59.1 := by rw [e550]; exact ref_new i531 r548
  have i570 : isC K549 K528.1 22 600 := by rw [e550]; exact isC_new0
  refine z_M (fun M571 e572 => ?_)
  replace hf := bnd_out e572 hf
  refine z_putRF C ok_X9 i552 5 (by decide) rfl rfl hnm rfl rfl rfl q_fl_X9_43 dX9_init_114 ?_
  refine z_K (fun K573 e574 => ?_)
  replace hf := bnd_out e574 hf
  have i576 : isC K573 a0 9 0 := by rw [e574]; exact isC_set i552
  have i577 : isC K573 K.1 20 4 := by rw [e574]; exact isC_set i553
  have i578 : isC K573 K8.1 24 2 := by rw [e574]; exact isC_set i554
  have i579 : isC K573 K21.1 25 2 := by rw [e574]; exact isC_set i555
  have i580 : isC K573 K38.1 26 2 := by rw [e574]; exact isC_set i556
  have i581 : isC K573 K59.1 27 2 := by rw [e574]; exact isC_set i557
  have i582 : isC K573 K84.1 5 0 := by rw [e574]; exact isC_set i558
  have i583 : isC K573 K129.1 4 0 := by rw [e574]; exact isC_set i559
  have i584 : isC K573 K177.1 2 0 := by rw [e574]; exact isC_set i560
  have i585 : isC K573 K228.1 8 0 := by rw [e574]; exact isC_set i561
  have i586 : isC K573 K282.1 5 0 := by rw [e574]; exact isC_set i562
  have i587 : isC K573 K339.1 4 0 := by rw [e574]; exact isC_set i563
  have i588 : isC K573 K399.1 2 0 := by rw [e574]; exact isC_set i564
  have i589 : isC K573 K462.1 8 0 := by rw [e574]; exact isC_set i565
  have i590 : isC K573 K528.1 22 600 := by rw [e574]; exact isC_set i570
  have r591 : K573.2.2 a0 1 = some K8.1 := by rw [e574]; exact ref_set_ne (by decide) r566
  have r592 : K573.2.2 a0 2 = some K21.1 := by rw [e574]; exact ref_set_ne (by decide) r567
  have r593 : K573.2.2 a0 3 = some K38.1 := by rw [e574]; exact ref_set_ne (by decide) r568
  have r594 : K573.2.2 a0 4 = some K59.1 := by rw [e574]; exact ref_set_ne (by decide) r569
  refine z_aload_n C 1 0 dX9_init_117 rfl rfl ?_
  refine z_iconst C (-1) dX9_init_118 (by decide) ?_
  refine z_putI C ok_X9 i576 8 (by decide) rfl rfl rfl rfl q_fl_X9_47 dX9_init_119 ?_
  refine z_M (fun M595 e596 => ?_)
  replace hf := bnd_out e596 hf
  subst hf
  exact z_vret C rfl dX9_init_122
theorem keep_X9_init (K : SK) (M : MM) (a0 : Nat) : Keep K (kX9_init K M a0).1 a0 := by
  unfold kX9_init
  have k0 : Keep K K a0 := Keep.rfl
  refine bnd_ind (P := fun q : SK × MM => Keep K q.1 a0) (fun K1 e2 => ?_)
  have k3 : Keep K K1 a0 := by rw [e2]; exact k0.new
  refine bnd_ind (P := fun q : SK × MM => Keep K q.1 a0) (fun M6 e7 => ?_)
  refine bnd_ind (P := fun q : SK × MM => Keep K q.1 a0) (fun K8 e9 => ?_)
  have k10 : Keep K K8 a0 := by rw [e9]; exact k3.set (Or.inl rfl)
  refine bnd_ind (P := fun q : SK × MM => Keep K q.1 a0) (fun K13 e14 => ?_)
  have k15 : Keep K K13 a0 := by rw [e14]; exact k10.new
  refine bnd_ind (P := fun q : SK × MM => Keep K q.1 a0) (fun M19 e20 => ?_)
  refine bnd_ind (P := fun q : SK × MM => Keep K q.1 a0) (fun K21 e22 => ?_)
  have k23 : Keep K K21 a0 := by rw [e22]; exact k15.set (Or.inl rfl)
  refine bnd_ind (P := fun q : SK × MM => Keep K q.1 a0) (fun K28 e29 => ?_)
  have k30 : Keep K K28 a0 := by rw [e29]; exact k23.new
  refine bnd_ind (P := fun q : SK × MM => Keep K q.1 a0) (fun M36 e37 => ?_)
  refine bnd_ind (P := fun q : SK × MM => Keep K q.1 a0) (fun K38 e39 => ?_)
  have k40 : Keep K K38 a0 := by rw [e39]; exact k30.set (Or.inl rfl)
  refine bnd_ind (P := fun q : SK × MM => Keep K q.1 a0) (fun K47 e48 => ?_)
  have k49 : Keep K K47 a0 := by rw [e48]; exact k40.new
  refine bnd_ind (P := fun q : SK × MM => Keep K q.1 a0) (fun M57 e58 => ?_)
  refine bnd_ind (P := fun q : SK × MM => Keep K q.1 a0) (fun K59 e60 => ?_)
  have k61 : Keep K K59 a0 := by rw [e60]; exact k49.set (Or.inl rfl)
  refine bnd_ind (P := fun q : SK × MM => Keep K q.1 a0) (fun K70 e71 => ?_)
  have k72 : Keep K K70 a0 := by rw [e71]; exact k61.new
  refine bnd_ind (P := fun q : SK × MM => Keep K q.1 a0) (fun M82 e83 => ?_)
  refine bnd_ind (P := fun q : SK × MM => Keep K q.1 a0) (fun K84 e85 => ?_)
  have k86 : Keep K K84 a0 := by rw [e85]; exact k72.set (Or.inl rfl)
  refine bnd_ind (P := fun q : SK × MM => Keep K q.1 a0) (fun K97 e98 => ?_)
  have k99 : Keep K K97 a0 := by rw [e98]; exact k86.new
  refine bnd_ind (P := fun q : SK × MM => Keep K q.1 a0) (fun M111 e112 => ?_)
  refine bnd_ind (P := fun q : SK × MM => Keep K q.1 a0) (fun K113 e114 => ?_)
  have k115 : Keep K K113 a0 := by rw [e114]; exact k99.sub (keep_X5_init K97 M111 K84.1) (Or.inr k86.1)
  refine bnd_ind (P := fun q : SK × MM => Keep K q.1 a0) (fun M127 e128 => ?_)
  refine bnd_ind (P := fun q : SK × MM => Keep K q.1 a0) (fun K129 e130 => ?_)
  have k131 : Keep K K129 a0 := by rw [e130]; exact k115.set (Or.inr k10.1)
  refine bnd_ind (P := fun q : SK × MM => Keep K q.1 a0) (fun K143 e144 => ?_)
  have k145 : Keep K K143 a0 := by rw [e144]; exact k131.new
  refine bnd_ind (P := fun q : SK × MM => Keep K q.1 a0) (fun M158 e159 => ?_)
  refine bnd_ind (P := fun q : SK × MM => Keep K q.1 a0) (fun K160 e161 => ?_)
  have k162 : Keep K K160 a0 := by rw [e161]; exact k145.sub (keep_X4_init K143 M158 K129.1) (Or.inr k131.1)
  refine bnd_ind (P := fun q : SK × MM => Keep K q.1 a0) (fun M175 e176 => ?_)
  refine bnd_ind (P := fun q : SK × MM => Keep K q.1 a0) (fun K177 e178 => ?_)
  have k179 : Keep K K177 a0 := by rw [e178]; exact k162.set (Or.inr k23.1)
  refine bnd_ind (P := fun q : SK × MM => Keep K q.1 a0) (fun K192 e193 => ?_)
  have k194 : Keep K K192 a0 := by rw [e193]; exact k179.new
  refine bnd_ind (P := fun q : SK × MM => Keep K q.1 a0) (fun M208 e209 => ?_)
  refine bnd_ind (P := fun q : SK × MM => Keep K q.1 a0) (fun K210 e211 => ?_)
  have k212 : Keep K K210 a0 := by rw [e211]; exact k194.sub (keep_X2_init K192 M208 K177.1) (Or.inr k179.1)
  refine bnd_ind (P := fun q : SK × MM => Keep K q.1 a0) (fun M226 e227 => ?_)
  refine bnd_ind (P := fun q : SK × MM => Keep K q.1 a0) (fun K228 e229 => ?_)
  have k230 : Keep K K228 a0 := by rw [e229]; exact k212.set (Or.inr k40.1)
  refine bnd_ind (P := fun q : SK × MM => Keep K q.1 a0) (fun K244 e245 => ?_)
  have k246 : Keep K K244 a0 := by rw [e245]; exact k230.new
  refine bnd_ind (P := fun q : SK × MM => Keep K q.1 a0) (fun M261 e262 => ?_)
  refine bnd_ind (P := fun q : SK × MM => Keep K q.1 a0) (fun K263 e264 => ?_)
  have k265 : Keep K K263 a0 := by rw [e264]; exact k246.sub (keep_X8_init K244 M261 K228.1) (Or.inr k230.1)
  refine bnd_ind (P := fun q : SK × MM => Keep K q.1 a0) (fun M280 e281 => ?_)
  refine bnd_ind (P := fun q : SK × MM => Keep K q.1 a0) (fun K282 e283 => ?_)
  have k284 : Keep K K282 a0 := by rw [e283]; exact k265.set (Or.inr k61.1)
  refine bnd_ind (P := fun q : SK × MM => Keep K q.1 a0) (fun K299 e300 => ?_)
  have k301 : Keep K K299 a0 := by rw [e300]; exact k284.new
  refine bnd_ind (P := fun q : SK × MM => Keep K q.1 a0) (fun M317 e318 => ?_)
  refine bnd_ind (P := fun q : SK × MM => Keep K q.1 a0) (fun K319 e320 => ?_)
  have k321 : Keep K K319 a0 := by rw [e320]; exact k301.sub (keep_X5_init K299 M317 K282.1) (Or.inr k284.1)
  refine bnd_ind (P := fun q : SK × MM => Keep K q.1 a0) (fun M337 e338 => ?_)
  refine bnd_ind (P := fun q : SK × MM => Keep K q.1 a0) (fun K339 e340 => ?_)
  have k341 : Keep K K339 a0 := by rw [e340]; exact k321.set (Or.inr k10.1)
  refine bnd_ind (P := fun q : SK × MM => Keep K q.1 a0) (fun K357 e358 => ?_)
  have k359 : Keep K K357 a0 := by rw [e358]; exact k341.new
  refine bnd_ind (P := fun q : SK × MM => Keep K q.1 a0) (fun M376 e377 => ?_)
  refine bnd_ind (P := fun q : SK × MM => Keep K q.1 a0) (fun K378 e379 => ?_)
  have k380 : Keep K K378 a0 := by rw [e379]; exact k359.sub (keep_X4_init K357 M376 K339.1) (Or.inr k341.1)
  refine bnd_ind (P := fun q : SK × MM => Keep K q.1 a0) (fun M397 e398 => ?_)
  refine bnd_ind (P := fun q : SK × MM => Keep K q.1 a0) (fun K399 e400 => ?_)
  have k401 : Keep K K399 a0 := by rw [e400]; exact k380.set (Or.inr k23.1)
  refine bnd_ind (P := fun q : SK × MM => Keep K q.1 a0) (fun K418 e419 => ?_)
  have k420 : Keep K K418 a0 := by rw [e419]; exact k401.new
  refine bnd_ind (P := fun q : SK × MM => Keep K q.1 a0) (fun M438 e439 => ?_)
  refine bnd_ind (P := fun q : SK × MM => Keep K q.1 a0) (fun K440 e441 => ?_)
  have k442 : Keep K K440 a0 := by rw [e441]; exact k420.sub (keep_X2_init K418 M438 K399.1) (Or.inr k401.1)
  refine bnd_ind (P := fun q : SK × MM => Keep K q.1 a0) (fun M460 e461 => ?_)
  refine bnd_ind (P := fun q : SK × MM => Keep K q.1 a0) (fun K462 e463 => ?_)
  have k464 : Keep K K462 a0 := by rw [e463]; exact k442.set (Or.inr k40.1)
  refine bnd_ind (P := fun q : SK × MM => Keep K q.1 a0) (fun K482 e483 => ?_)
  have k484 : Keep K K482 a0 := by rw [e483]; exact k464.new
  refine bnd_ind (P := fun q : SK × MM => Keep K q.1 a0) (fun M503 e504 => ?_)
  refine bnd_ind (P := fun q : SK × MM => Keep K q.1 a0) (fun K505 e506 => ?_)
  have k507 : Keep K K505 a0 := by rw [e506]; exact k484.sub (keep_X8_init K482 M503 K462.1) (Or.inr k464.1)
  refine bnd_ind (P := fun q : SK × MM => Keep K q.1 a0) (fun M526 e527 => ?_)
  refine bnd_ind (P := fun q : SK × MM => Keep K q.1 a0) (fun K528 e529 => ?_)
  have k530 : Keep K K528 a0 := by rw [e529]; exact k507.set (Or.inr k61.1)
  refine bnd_ind (P := fun q : SK × MM => Keep K q.1 a0) (fun K549 e550 => ?_)
  have k551 : Keep K K549 a0 := by rw [e550]; exact k530.new
  refine bnd_ind (P := fun q : SK × MM => Keep K q.1 a0) (fun M571 e572 => ?_)
  refine bnd_ind (P := fun q : SK × MM => Keep K q.1 a0) (fun K573 e574 => ?_)
  have k575 : Keep K K573 a0 := by rw [e574]; exact k551.set (Or.inl rfl)
  refine bnd_ind (P := fun q : SK × MM => Keep K q.1 a0) (fun M595 e596 => ?_)
  exact k575
theorem ov_X9_init {n0 : Nat} {K K' : SK} {M M' : MM} {a0 a0' : Nat} (h : Ov n0 K K') (ha0 : a0' = n0 + a0) : Ov n0 (kX9_init K M a0).1 (kX9_init K' M' a0').1 := by
  unfold kX9_init
  refine bnd_ind2 (P := fun q q' : SK × MM => Ov n0 q.1 q'.1) (fun K1 K1' e2 e2' => ?_)
  have oK1 : Ov n0 K1 K1' := by rw [e2, e2']; exact h.new
  refine bnd_ind2 (P := fun q q' : SK × MM => Ov n0 q.1 q'.1) (fun M6 M6' _ _ => ?_)
  refine bnd_ind2 (P := fun q q' : SK × MM => Ov n0 q.1 q'.1) (fun K8 K8' e9 e9' => ?_)
  have oK8 : Ov n0 K8 K8' := by rw [e9, e9']; exact oK1.set ha0 h.1
  refine bnd_ind2 (P := fun q q' : SK × MM => Ov n0 q.1 q'.1) (fun K13 K13' e14 e14' => ?_)
  have oK13 : Ov n0 K13 K13' := by rw [e14, e14']; exact oK8.new
  refine bnd_ind2 (P := fun q q' : SK × MM => Ov n0 q.1 q'.1) (fun M19 M19' _ _ => ?_)
  refine bnd_ind2 (P := fun q q' : SK × MM => Ov n0 q.1 q'.1) (fun K21 K21' e22 e22' => ?_)
  have oK21 : Ov n0 K21 K21' := by rw [e22, e22']; exact oK13.set ha0 oK8.1
  refine bnd_ind2 (P := fun q q' : SK × MM => Ov n0 q.1 q'.1) (fun K28 K28' e29 e29' => ?_)
  have oK28 : Ov n0 K28 K28' := by rw [e29, e29']; exact oK21.new
  refine bnd_ind2 (P := fun q q' : SK × MM => Ov n0 q.1 q'.1) (fun M36 M36' _ _ => ?_)
  refine bnd_ind2 (P := fun q q' : SK × MM => Ov n0 q.1 q'.1) (fun K38 K38' e39 e39' => ?_)
  have oK38 : Ov n0 K38 K38' := by rw [e39, e39']; exact oK28.set ha0 oK21.1
  refine bnd_ind2 (P := fun q q' : SK × MM => Ov n0 q.1 q'.1) (fun K47 K47' e48 e48' => ?_)
  have oK47 : Ov n0 K47 K47' := by rw [e48, e48']; exact oK38.new
  refine bnd_ind2 (P := fun q q' : SK × MM => Ov n0 q.1 q'.1) (fun M57 M57' _ _ => ?_)
  refine bnd_ind2 (P := fun q q' : SK × MM => Ov n0 q.1 q'.1) (fun K59 K59' e60 e60' => ?_)
  have oK59 : Ov n0 K59 K59' := by rw [e60, e60']; exact oK47.set ha0 oK38.1
  refine bnd_ind2 (P := fun q q' : SK × MM => Ov n0 q.1 q'.1) (fun K70 K70' e71 e71' => ?_)
  have oK70 : Ov n0 K70 K70' := by rw [e71, e71']; exact oK59.new
  refine bnd_ind2 (P := fun q q' : SK × MM => Ov n0 q.1 q'.1) (fun M82 M82' _ _ => ?_)
  refine bnd_ind2 (P := fun q q' : SK × MM => Ov n0 q.1 q'.1) (fun K84 K84' e85 e85' => ?_)
  have oK84 : Ov n0 K84 K84' := by rw [e85, e85']; exact oK70.set ha0 oK59.1
  refine bnd_ind2 (P := fun q q' : SK × MM => Ov n0 q.1 q'.1) (fun K97 K97' e98 e98' => ?_)
  have oK97 : Ov n0 K97 K97' := by rw [e98, e98']; exact oK84.new
  refine bnd_ind2 (P := fun q q' : SK × MM => Ov n0 q.1 q'.1) (fun M111 M111' _ _ => ?_)
  refine bnd_ind2 (P := fun q q' : SK × MM => Ov n0 q.1 q'.1) (fun K113 K113' e114 e114' => ?_)
  have oK113 : Ov n0 K113 K113' := by rw [e114, e114']; exact ov_X5_init oK97 oK84.1
  refine bnd_ind2 (P := fun q q' : SK × MM => Ov n0 q.1 q'.1) (fun M127 M127' _ _ => ?_)
  refine bnd_ind2 (P := fun q q' : SK × MM => Ov n0 q.1 q'.1) (fun K129 K129' e130 e130' => ?_)
  have oK129 : Ov n0 K129 K129' := by rw [e130, e130']; exact oK113.set oK8.1 oK84.1
  refine bnd_ind2 (P := fun q q' : SK × MM => Ov n0 q.1 q'.1) (fun K143 K143' e144 e144' => ?_)
  have oK143 : Ov n0 K143 K143' := by rw [e144, e144']; exact oK129.new
  refine bnd_ind2 (P := fun q q' : SK × MM => Ov n0 q.1 q'.1) (fun M158 M158' _ _ => ?_)
  refine bnd_ind2 (P := fun q q' : SK × MM => Ov n0 q.1 q'.1) (fun K160 K160' e161 e161' => ?_)
  have oK160 : Ov n0 K160 K160' := by rw [e161, e161']; exact ov_X4_init oK143 oK129.1
  refine bnd_ind2 (P := fun q q' : SK × MM => Ov n0 q.1 q'.1) (fun M175 M175' _ _ => ?_)
  refine bnd_ind2 (P := fun q q' : SK × MM => Ov n0 q.1 q'.1) (fun K177 K177' e178 e178' => ?_)
  have oK177 : Ov n0 K177 K177' := by rw [e178, e178']; exact oK160.set oK21.1 oK129.1
  refine bnd_ind2 (P := fun q q' : SK × MM => Ov n0 q.1 q'.1) (fun K192 K192' e193 e193' => ?_)
  have oK192 : Ov n0 K192 K192' := by rw [e193, e193']; exact oK177.new
  refine bnd_ind2 (P := fun q q' : SK × MM => Ov n0 q.1 q'.1) (fun M208 M208' _ _ => ?_)
  refine bnd_ind2 (P := fun q q' : SK × MM => Ov n0 q.1 q'.1) (fun K210 K210' e211 e211' => ?_)
  have oK210 : Ov n0 K210 K210' := by rw [e211, e211']; exact ov_X2_init oK192 oK177.1
  refine bnd_ind2 (P := fun q q' : SK × MM => Ov n0 q.1 q'.1) (fun M226 M226' _ _ => ?_)
  refine bnd_ind2 (P := fun q q' : SK × MM => Ov n0 q.1 q'.1) (fun K228 K228' e229 e229' => ?_)
  have oK228 : Ov n0 K228 K228' := by rw [e229, e229']; exact oK210.set oK38.1 oK177.1
  refine bnd_ind2 (P := fun q q' : SK × MM => Ov n0 q.1 q'.1) (fun K244 K244' e245 e245' => ?_)
  have oK244 : Ov n0 K244 K244' := by rw [e245, e245']; exact oK228.new
  refine bnd_ind2 (P := fun q q' : SK × MM => Ov n0 q.1 q'.1) (fun M261 M261' _ _ => ?_)
  refine bnd_ind2 (P := fun q q' : SK × MM => Ov n0 q.1 q'.1) (fun K263 K263' e264 e264' => ?_)
  have oK263 : Ov n0 K263 K263' := by rw [e264, e264']; exact ov_X8_init oK244 oK228.1
  refine bnd_ind2 (P := fun q q' : SK × MM => Ov n0 q.1 q'.1) (fun M280 M280' _ _ => ?_)
  refine bnd_ind2 (P := fun q q' : SK × MM => Ov n0 q.1 q'.1) (fun K282 K282' e283 e283' => ?_)
  have oK282 : Ov n0 K282 K282' := by rw [e283, e283']; exact oK263.set oK59.1 oK228.1
  refine bnd_ind2 (P := fun q q' : SK × MM => Ov n0 q.1 q'.1) (fun K299 K299' e300 e300' => ?_)
  have oK299 : Ov n0 K299 K299' := by rw [e300, e300']; exact oK282.new
  refine bnd_ind2 (P := fun q q' : SK × MM => Ov n0 q.1 q'.1) (fun M317 M317' _ _ => ?_)
  refine bnd_ind2 (P := fun q q' : SK × MM => Ov n0 q.1 q'.1) (fun K319 K319' e320 e320' => ?_)
  have oK319 : Ov n0 K319 K319' := by rw [e320, e320']; exact ov_X5_init oK299 oK282.1
  refine bnd_ind2 (P := fun q q' : SK × MM => Ov n0 q.1 q'.1) (fun M337 M337' _ _ => ?_)
  refine bnd_ind2 (P := fun q q' : SK × MM => Ov n0 q.1 q'.1) (fun K339 K339' e340 e340' => ?_)
  have oK339 : Ov n0 K339 K339' := by rw [e340, e340']; exact oK319.set oK8.1 oK282.1
  refine bnd_ind2 (P := fun q q' : SK × MM => Ov n0 q.1 q'.1) (fun K357 K357' e358 e358' => ?_)
  have oK357 : Ov n0 K357 K357' := by rw [e358, e358']; exact oK339.new
  refine bnd_ind2 (P := fun q q' : SK × MM => Ov n0 q.1 q'.1) (fun M376 M376' _ _ => ?_)
  refine bnd_ind2 (P := fun q q' : SK × MM => Ov n0 q.1 q'.1) (fun K378 K378' e379 e379' => ?_)
  have oK378 : Ov n0 K378 K378' := by rw [e379, e379']; exact ov_X4_init oK357 oK339.1
  refine bnd_ind2 (P := fun q q' : SK × MM => Ov n0 q.1 q'.1) (fun M397 M397' _ _ => ?_)
  refine bnd_ind2 (P := fun q q' : SK × MM => Ov n0 q.1 q'.1) (fun K399 K399' e400 e400' => ?_)
  have oK399 : Ov n0 K399 K399' := by rw [e400, e400']; exact oK378.set oK21.1 oK339.1
  refine bnd_ind2 (P := fun q q' : SK × MM => Ov n0 q.1 q'.1) (fun K418 K418' e419 e419' => ?_)
  have oK418 : Ov n0 K418 K418' := by rw [e419, e419']; exact oK399.new
  refine bnd_ind2 (P := fun q q' : SK × MM => Ov n0 q.1 q'.1) (fun M438 M438' _ _ => ?_)
  refine bnd_ind2 (P := fun q q' : SK × MM => Ov n0 q.1 q'.1) (fun K440 K440' e441 e441' => ?_)
  have oK440 : Ov n0 K440 K440' := by rw [e441, e441']; exact ov_X2_init oK418 oK399.1
  refine bnd_ind2 (P := fun q q' : SK × MM => Ov n0 q.1 q'.1) (fun M460 M460' _ _ => ?_)
  refine bnd_ind2 (P := fun q q' : SK × MM => Ov n0 q.1 q'.1) (fun K462 K462' e463 e463' => ?_)
  have oK462 : Ov n0 K462 K462' := by rw [e463, e463']; exact oK440.set oK38.1 oK399.1
  refine bnd_ind2 (P := fun q q' : SK × MM => Ov n0 q.1 q'.1) (fun K482 K482' e483 e483' => ?_)
  have oK482 : Ov n0 K482 K482' := by rw [e483, e483']; exact oK462.new
  refine bnd_ind2 (P := fun q q' : SK × MM => Ov n0 q.1 q'.1) (fun M503 M503' _ _ => ?_)
  refine bnd_ind2 (P := fun q q' : SK × MM => Ov n0 q.1 q'.1) (fun K505 K505' e506 e506' => ?_)
  have oK505 : Ov n0 K505 K505' := by rw [e506, e506']; exact ov_X8_init oK482 oK462.1
  refine bnd_ind2 (P := fun q q' : SK × MM => Ov n0 q.1 q'.1) (fun M526 M526' _ _ => ?_)
  refine bnd_ind2 (P := fun q q' : SK × MM => Ov n0 q.1 q'.1) (fun K528 K528' e529 e529' => ?_)
  have oK528 : Ov n0 K528 K528' := by rw [e529, e529']; exact oK505.set oK59.1 oK462.1
  refine bnd_ind2 (P := fun q q' : SK × MM => Ov n0 q.1 q'.1) (fun K549 K549' e550 e550' => ?_)
  have oK549 : Ov n0 K549 K549' := by rw [e550, e550']; exact oK528.new
  refine bnd_ind2 (P := fun q q' : SK × MM => Ov n0 q.1 q'.1) (fun M571 M571' _ _ => ?_)
  refine bnd_ind2 (P := fun q q' : SK × MM => Ov n0 q.1 q'.1) (fun K573 K573' e574 e574' => ?_)
  have oK573 : Ov n0 K573 K573' := by rw [e574, e574']; exact oK549.set ha0 oK528.1
  refine bnd_ind2 (P := fun q q' : SK × MM => Ov n0 q.1 q'.1) (fun M595 M595' _ _ => ?_)
  exact oK573
set_option maxRecDepth 100000 in
theorem lkI_X9_init : LkI yX9_init cX9_init 2 0 := ⟨gw_of 144 rfl (by decide +kernel), gw_of 143 (by decide +kernel) (by decide +kernel), q_in2_X9, rfl, by decide +kernel, by decide +kernel, by decide +kernel⟩
theorem dX7_init_0 : decode cX7_init 0 = .ok (.aload_n 0, 1) := by decide +kernel
theorem dX7_init_1 : decode cX7_init 1 = .ok (.invokespecial 3, 3) := by decide +kernel
theorem dX7_init_4 : decode cX7_init 4 = .ok (.aload_n 0, 1) := by decide +kernel
theorem dX7_init_5 : decode cX7_init 5 = .ok (.new 9, 3) := by decide +kernel
theorem dX7_init_8 : decode cX7_init 8 = .ok (.dup, 1) := by decide +kernel
theorem dX7_init_9 : decode cX7_init 9 = .ok (.invokespecial 11, 3) := by decide +kernel
theorem dX7_init_12 : decode cX7_init 12 = .ok (.putfield 12, 3) := by decide +kernel
theorem dX7_init_15 : decode cX7_init 15 = .ok (.aload_n 0, 1) := by decide +kernel
theorem dX7_init_16 : decode cX7_init 16 = .ok (.new 18, 3) := by decide +kernel
theorem dX7_init_19 : decode cX7_init 19 = .ok (.dup, 1) := by decide +kernel
theorem dX7_init_20 : decode cX7_init 20 = .ok (.invokespecial 20, 3) := by decide +kernel
theorem dX7_init_23 : decode cX7_init 23 = .ok (.putfield 21, 3) := by decide +kernel
theorem dX7_init_26 : decode cX7_init 26 = .ok (.aload_n 0, 1) := by decide +kernel
theorem dX7_init_27 : decode cX7_init 27 = .ok (.new 25, 3) := by decide +kernel
theorem dX7_init_30 : decode cX7_init 30 = .ok (.dup, 1) := by decide +kernel
theorem dX7_init_31 : decode cX7_init 31 = .ok (.invokespecial 27, 3) := by decide +kernel
theorem dX7_init_34 : decode cX7_init 34 = .ok (.putfield 28, 3) := by decide +kernel
theorem dX7_init_37 : decode cX7_init 37 = .ok (.aload_n 0, 1) := by decide +kernel
theorem dX7_init_38 : decode cX7_init 38 = .ok (.new 32, 3) := by decide +kernel
theorem dX7_init_41 : decode cX7_init 41 = .ok (.dup, 1) := by decide +kernel
theorem dX7_init_42 : decode cX7_init 42 = .ok (.invokespecial 34, 3) := by decide +kernel
theorem dX7_init_45 : decode cX7_init 45 = .ok (.putfield 35, 3) := by decide +kernel
theorem dX7_init_48 : decode cX7_init 48 = .ok (.aload_n 0, 1) := by decide +kernel
theorem dX7_init_49 : decode cX7_init 49 = .ok (.iconst 5, 1) := by decide +kernel
theorem dX7_init_50 : decode cX7_init 50 = .ok (.newarray .int, 2) := by decide +kernel
theorem dX7_init_52 : decode cX7_init 52 = .ok (.putfield 39, 3) := by decide +kernel
theorem dX7_init_55 : decode cX7_init 55 = .ok (.aload_n 0, 1) := by decide +kernel
theorem dX7_init_56 : decode cX7_init 56 = .ok (.iconst 0, 1) := by decide +kernel
theorem dX7_init_57 : decode cX7_init 57 = .ok (.newarray .byte, 2) := by decide +kernel
theorem dX7_init_59 : decode cX7_init 59 = .ok (.putfield 43, 3) := by decide +kernel
theorem dX7_init_62 : decode cX7_init 62 = .ok (.return_, 1) := by decide +kernel
set_option maxHeartbeats 4000000 in
set_option maxRecDepth 100000 in
theorem tX7_init (l : Launch) (G : GG) (K : SK) (M : MM) (a0 : Nat) (h0 : isC K a0 7 0) : Ct l yX7_init cX7_init 1 none 2 18 278 G K M [.ref (G.1 + a0)] none (kX7_init K M a0).1 (kX7_init K M a0).2 := by
  generalize hf : kX7_init K M a0 = pp
  refine z_enter (lv := [(0, .ref (G.1 + a0))]) (by decide +kernel) (Nat.le_of_ble_eq_true rfl) rfl ?_
  intro p e s m args below meth c C hnm hs0
  replace C : CX p s m args meth c cX7_init 1 none RX7 G := C
  unfold kX7_init at hf
  refine z_aload_n C 0 0 dX7_init_0 rfl rfl ?_
  refine z_objInit C q_ml_X7_3 q_oi q_oc dX7_init_1 (Nat.le_of_ble_eq_true rfl) (Nat.le_of_ble_eq_true rfl) ?_
  refine z_aload_n C 0 0 dX7_init_4 rfl rfl ?_
  refine z_new C ok_X5 q_cl_X7_9 q_is_X5 q_in2_X5 df_X5 (by decide) (by decide) dX7_init_5 ?_
  refine z_K (fun K1 e2 => ?_)
  replace hf := bnd_out e2 hf
  have i4 : isC K1 a0 7 0 := by rw [e2]; exact isC_new h0
  have i5 : isC K1 K.1 5 0 := by rw [e2]; exact isC_new0
  refine z_M (fun M6 e7 => ?_)
  replace hf := bnd_out e7 hf
  refine z_dup C rfl dX7_init_8 ?_
  refine z_callI C [.ref (G.1 + K.1), .ref (G.1 + a0)] (tX5_init l G K1 M6 K.1 i5) lkI_X5_init q_ml_X7_11 rfl ⟨Nat.le_of_ble_eq_true rfl, Nat.le_of_ble_eq_true rfl⟩ rfl (Nat.le_of_ble_eq_true rfl) ⟨by decide, by decide⟩ dX7_init_9 ?_
  refine z_K (fun K8 e9 => ?_)
  replace hf := bnd_out e9 hf
  have i11 : isC K8 a0 7 0 := by rw [e9]; exact (keep_X5_init K1 M6 K.1).cell i4
  have i12 : isC K8 K.1 5 0 := by rw [e9]; exact (keep_X5_init K1 M6 K.1).cell i5
  refine z_M (fun M13 e14 => ?_)
  replace hf := bnd_out e14 hf
  refine z_putRF C ok_X7 i11 0 (by decide) rfl rfl hnm rfl rfl rfl q_fl_X7_12 dX7_init_12 ?_
  refine z_K (fun K15 e16 => ?_)
  replace hf := bnd_out e16 hf
  have i18 : isC K15 a0 7 0 := by rw [e16]; exact isC_set i11
  have i19 : isC K15 K.1 5 0 := by rw [e16]; exact isC_set i12
  refine z_aload_n C 0 0 dX7_init_15 rfl rfl ?_
  refine z_new C ok_X4 q_cl_X7_18 q_is_X4 q_in2_X4 df_X4 (by decide) (by decide) dX7_init_16 ?_
  refine z_K (fun K20 e21 => ?_)
  replace hf := bnd_out e21 hf
  have i23 : isC K20 a0 7 0 := by rw [e21]; exact isC_new i18
  have i24 : isC K20 K.1 5 0 := by rw [e21]; exact isC_new i19
  have i25 : isC K20 K15.1 4 0 := by rw [e21]; exact isC_new0
  refine z_M (fun M26 e27 => ?_)
  replace hf := bnd_out e27 hf
  refine z_dup C rfl dX7_init_19 ?_
  refine z_callI C [.ref (G.1 + K15.1), .ref (G.1 + a0)] (tX4_init l G K20 M26 K15.1 i25) lkI_X4_init q_ml_X7_20 rfl ⟨Nat.le_of_ble_eq_true rfl, Nat.le_of_ble_eq_true rfl⟩ rfl (Nat.le_of_ble_eq_true rfl) ⟨by decide, by decide⟩ dX7_init_20 ?_
  refine z_K (fun K28 e29 => ?_)
  replace hf := bnd_out e29 hf
  have i31 : isC K28 a0 7 0 := by rw [e29]; exact (keep_X4_init K20 M26 K15.1).cell i23
  have i32 : isC K28 K.1 5 0 := by rw [e29]; exact (keep_X4_init K20 M26 K15.1).cell i24
  have i33 : isC K28 K15.1 4 0 := by rw [e29]; exact (keep_X4_init K20 M26 K15.1).cell i25
  refine z_M (fun M34 e35 => ?_)
  replace hf := bnd_out e35 hf
  refine z_putRF C ok_X7 i31 1 (by decide) rfl rfl hnm rfl rfl rfl q_fl_X7_21 dX7_init_23 ?_
  refine z_K (fun K36 e37 => ?_)
  replace hf := bnd_out e37 hf
  have i39 : isC K36 a0 7 0 := by rw [e37]; exact isC_set i31
  have i40 : isC K36 K.1 5 0 := by rw [e37]; exact isC_set i32
  have i41 : isC K36 K15.1 4 0 := by rw [e37]; exact isC_set i33
  refine z_aload_n C 0 0 dX7_init_26 rfl rfl ?_
  refine z_new C ok_X2 q_cl_X7_25 q_is_X2 q_in2_X2 df_X2 (by decide) (by decide) dX7_init_27 ?_
  refine z_K (fun K42 e43 => ?_)
  replace hf := bnd_out e43 hf
  have i45 : isC K42 a0 7 0 := by rw [e43]; exact isC_new i39
  have i46 : isC K42 K.1 5 0 := by rw [e43]; exact isC_new i40
  have i47 : isC K42 K15.1 4 0 := by rw [e43]; exact isC_new i41
  have i48 : isC K42 K36.1 2 0 := by rw [e43]; exact isC_new0
  refine z_M (fun M49 e50 => ?_)
  replace hf := bnd_out e50 hf
  refine z_dup C rfl dX7_init_30 ?_
  refine z_callI C [.ref (G.1 + K36.1), .ref (G.1 + a0)] (tX2_init l G K42 M49 K36.1 i48) lkI_X2_init q_ml_X7_27 rfl ⟨Nat.le_of_ble_eq_true rfl, Nat.le_of_ble_eq_true rfl⟩ rfl (Nat.le_of_ble_eq_true rfl) ⟨by decide, by decide⟩ dX7_init_31 ?_
  refine z_K (fun K51 e52 => ?_)
  replace hf := bnd_out e52 hf
  have i54 : isC K51 a0 7 0 := by rw [e52]; exact (keep_X2_init K42 M49 K36.1).cell i45
  have i55 : isC K51 K.1 5 0 := by rw [e52]; exact (keep_X2_init K42 M49 K36.1).cell i46
  have i56 : isC K51 K15.1 4 0 := by rw [e52]; exact (keep_X2_init K42 M49 K36.1).cell i47
  have i57 : isC K51 K36.1 2 0 := by rw [e52]; exact (keep_X2_init K42 M49 K36.1).cell i48
  refine z_M (fun M58 e59 => ?_)
  replace hf := bnd_out e59 hf
  refine z_putRF C ok_X7 i54 2 (by decide) rfl rfl hnm rfl rfl rfl q_fl_X7_28 dX7_init_34 ?_
  refine z_K (fun K60 e61 => ?_)
  replace hf := bnd_out e61 hf
  have i63 : isC K60 a0 7 0 := by rw [e61]; exact isC_set i54
  have i64 : isC K60 K.1 5 0 := by rw [e61]; exact isC_set i55
  have i65 : isC K60 K15.1 4 0 := by rw [e61]; exact isC_set i56
  have i66 : isC K60 K36.1 2 0 := by rw [e61]; exact isC_set i57
  refine z_aload_n C 0 0 dX7_init_37 rfl rfl ?_
  refine z_new C ok_X8 q_cl_X7_32 q_is_X8 q_in2_X8 df_X8 (by decide) (by decide) dX7_init_38 ?_
  refine z_K (fun K67 e68 => ?_)
  replace hf := bnd_out e68 hf
  have i70 : isC K67 a0 7 0 := by rw [e68]; exact isC_new i63
  have i71 : isC K67 K.1 5 0 := by rw [e68]; exact isC_new i64
  have i72 : isC K67 K15.1 4 0 := by rw [e68]; exact isC_new i65
  have i73 : isC K67 K36.1 2 0 := by rw [e68]; exact isC_new i66
  have i74 : isC K67 K60.1 8 0 := by rw [e68]; exact isC_new0
  refine z_M (fun M75 e76 => ?_)
  replace hf := bnd_out e76 hf
  refine z_dup C rfl dX7_init_41 ?_
  refine z_callI C [.ref (G.1 + K60.1), .ref (G.1 + a0)] (tX8_init l G K67 M75 K60.1 i74) lkI_X8_init q_ml_X7_34 rfl ⟨Nat.le_of_ble_eq_true rfl, Nat.le_of_ble_eq_true rfl⟩ rfl (Nat.le_of_ble_eq_true rfl) ⟨by decide, by decide⟩ dX7_init_42 ?_
  refine z_K (fun K77 e78 => ?_)
  replace hf := bnd_out e78 hf
  have i80 : isC K77 a0 7 0 := by rw [e78]; exact (keep_X8_init K67 M75 K60.1).cell i70
  have i81 : isC K77 K.1 5 0 := by rw [e78]; exact (keep_X8_init K67 M75 K60.1).cell i71
  have i82 : isC K77 K15.1 4 0 := by rw [e78]; exact (keep_X8_init K67 M75 K60.1).cell i72
  have i83 : isC K77 K36.1 2 0 := by rw [e78]; exact (keep_X8_init K67 M75 K60.1).cell i73
  have i84 : isC K77 K60.1 8 0 := by rw [e78]; exact (keep_X8_init K67 M75 K60.1).cell i74
  refine z_M (fun M85 e86 => ?_)
  replace hf := bnd_out e86 hf
  refine z_putRF C ok_X7 i80 3 (by decide) rfl rfl hnm rfl rfl rfl q_fl_X7_35 dX7_init_45 ?_
  refine z_K (fun K87 e88 => ?_)
  replace hf := bnd_out e88 hf
  have i90 : isC K87 a0 7 0 := by rw [e88]; exact isC_set i80
  have i91 : isC K87 K.1 5 0 := by rw [e88]; exact isC_set i81
  have i92 : isC K87 K15.1 4 0 := by rw [e88]; exact isC_set i82
  have i93 : isC K87 K36.1 2 0 := by rw [e88]; exact isC_set i83
  have i94 : isC K87 K60.1 8 0 := by rw [e88]; exact isC_set i84
  refine z_aload_n C 0 0 dX7_init_48 rfl rfl ?_
  refine z_iconst C 5 dX7_init_49 (by decide) ?_
  refine z_newai C 5 q_ac_i (by decide) (by decide) (by decide) (by decide) (by decide) dX7_init_50 ?_
  refine z_K (fun K95 e96 => ?_)
  replace hf := bnd_out e96 hf
  have i98 : isC K95 a0 7 0 := by rw [e96]; exact isC_new i90
  have i99 : isC K95 K.1 5 0 := by rw [e96]; exact isC_new i91
  have i100 : isC K95 K15.1 4 0 := by rw [e96]; exact isC_new i92
  have i101 : isC K95 K36.1 2 0 := by rw [e96]; exact isC_new i93
  have i102 : isC K95 K60.1 8 0 := by rw [e96]; exact isC_new i94
  have i103 : isC K95 K87.1 20 5 := by rw [e96]; exact isC_new0
  refine z_M (fun M104 e105 => ?_)
  replace hf := bnd_out e105 hf
  refine z_putRF C ok_X7 i98 12 (by decide) rfl rfl hnm rfl rfl rfl q_fl_X7_39 dX7_init_52 ?_
  refine z_K (fun K106 e107 => ?_)
  replace hf := bnd_out e107 hf
  have i109 : isC K106 a0 7 0 := by rw [e107]; exact isC_set i98
  have i110 : isC K106 K.1 5 0 := by rw [e107]; exact isC_set i99
  have i111 : isC K106 K15.1 4 0 := by rw [e107]; exact isC_set i100
  have i112 : isC K106 K36.1 2 0 := by rw [e107]; exact isC_set i101
  have i113 : isC K106 K60.1 8 0 := by rw [e107]; exact isC_set i102
  have i114 : isC K106 K87.1 20 5 := by rw [e107]; exact isC_set i103
  refine z_aload_n C 0 0 dX7_init_55 rfl rfl ?_
  refine z_iconst C 0 dX7_init_56 (by decide) ?_
  refine z_newab C 0 q_ac_b (by decide) (by decide) (by decide) (by decide) (by decide) dX7_init_57 ?_
  refine z_K (fun K115 e116 => ?_)
  replace hf := bnd_out e116 hf
  have i118 : isC K115 a0 7 0 := by rw [e116]; exact isC_new i109
  have i119 : isC K115 K.1 5 0 := by rw [e116]; exact isC_new i110
  have i120 : isC K115 K15.1 4 0 := by rw [e116]; exact isC_new i111
  have i121 : isC K115 K36.1 2 0 := by rw [e116]; exact isC_new i112
  have i122 : isC K115 K60.1 8 0 := by rw [e116]; exact isC_new i113
  have i123 : isC K115 K87.1 20 5 := by rw [e116]; exact isC_new i114
  have i124 : isC K115 K106.1 22 0 := by rw [e116]; exact isC_new0
  refine z_M (fun M125 e126 => ?_)
  replace hf := bnd_out e126 hf
  refine z_putR C ok_X7 i118 6 (by decide) rfl rfl rfl rfl q_fl_X7_43 dX7_init_59 ?_
  refine z_K (fun K127 e128 => ?_)
  replace hf := bnd_out e128 hf
  have i130 : isC K127 a0 7 0 := by rw [e128]; exact isC_set i118
  have i131 : isC K127 K.1 5 0 := by rw [e128]; exact isC_set i119
  have i132 : isC K127 K15.1 4 0 := by rw [e128]; exact isC_set i120
  have i133 : isC K127 K36.1 2 0 := by rw [e128]; exact isC_set i121
  have i134 : isC K127 K60.1 8 0 := by rw [e128]; exact isC_set i122
  have i135 : isC K127 K87.1 20 5 := by rw [e128]; exact isC_set i123
  have i136 : isC K127 K106.1 22 0 := by rw [e128]; exact isC_set i124
  subst hf
  exact z_vret C rfl dX7_init_62
theorem keep_X7_init (K : SK) (M : MM) (a0 : Nat) : Keep K (kX7_init K M a0).1 a0 := by
  unfold kX7_init
  have k0 : Keep K K a0 := Keep.rfl
  refine bnd_ind (P := fun q : SK × MM => Keep K q.1 a0) (fun K1 e2 => ?_)
  have k3 : Keep K K1 a0 := by rw [e2]; exact k0.new
  refine bnd_ind (P := fun q : SK × MM => Keep K q.1 a0) (fun M6 e7 => ?_)
  refine bnd_ind (P := fun q : SK × MM => Keep K q.1 a0) (fun K8 e9 => ?_)
  have k10 : Keep K K8 a0 := by rw [e9]; exact k3.sub (keep_X5_init K1 M6 K.1) (Or.inr k0.1)
  refine bnd_ind (P := fun q : SK × MM => Keep K q.1 a0) (fun M13 e14 => ?_)
  refine bnd_ind (P := fun q : SK × MM => Keep K q.1 a0) (fun K15 e16 => ?_)
  have k17 : Keep K K15 a0 := by rw [e16]; exact k10.set (Or.inl rfl)
  refine bnd_ind (P := fun q : SK × MM => Keep K q.1 a0) (fun K20 e21 => ?_)
  have k22 : Keep K K20 a0 := by rw [e21]; exact k17.new
  refine bnd_ind (P := fun q : SK × MM => Keep K q.1 a0) (fun M26 e27 => ?_)
  refine bnd_ind (P := fun q : SK × MM => Keep K q.1 a0) (fun K28 e29 => ?_)
  have k30 : Keep K K28 a0 := by rw [e29]; exact k22.sub (keep_X4_init K20 M26 K15.1) (Or.inr k17.1)
  refine bnd_ind (P := fun q : SK × MM => Keep K q.1 a0) (fun M34 e35 => ?_)
  refine bnd_ind (P := fun q : SK × MM => Keep K q.1 a0) (fun K36 e37 => ?_)
  have k38 : Keep K K36 a0 := by rw [e37]; exact k30.set (Or.inl rfl)
  refine bnd_ind (P := fun q : SK × MM => Keep K q.1 a0) (fun K42 e43 => ?_)
  have k44 : Keep K K42 a0 := by rw [e43]; exact k38.new
  refine bnd_ind (P := fun q : SK × MM => Keep K q.1 a0) (fun M49 e50 => ?_)
  refine bnd_ind (P := fun q : SK × MM => Keep K q.1 a0) (fun K51 e52 => ?_)
  have k53 : Keep K K51 a0 := by rw [e52]; exact k44.sub (keep_X2_init K42 M49 K36.1) (Or.inr k38.1)
  refine bnd_ind (P := fun q : SK × MM => Keep K q.1 a0) (fun M58 e59 => ?_)
  refine bnd_ind (P := fun q : SK × MM => Keep K q.1 a0) (fun K60 e61 => ?_)
  have k62 : Keep K K60 a0 := by rw [e61]; exact k53.set (Or.inl rfl)
  refine bnd_ind (P := fun q : SK × MM => Keep K q.1 a0) (fun K67 e68 => ?_)
  have k69 : Keep K K67 a0 := by rw [e68]; exact k62.new
  refine bnd_ind (P := fun q : SK × MM => Keep K q.1 a0) (fun M75 e76 => ?_)
  refine bnd_ind (P := fun q : SK × MM => Keep K q.1 a0) (fun K77 e78 => ?_)
  have k79 : Keep K K77 a0 := by rw [e78]; exact k69.sub (keep_X8_init K67 M75 K60.1) (Or.inr k62.1)
  refine bnd_ind (P := fun q : SK × MM => Keep K q.1 a0) (fun M85 e86 => ?_)
  refine bnd_ind (P := fun q : SK × MM => Keep K q.1 a0) (fun K87 e88 => ?_)
  have k89 : Keep K K87 a0 := by rw [e88]; exact k79.set (Or.inl rfl)
  refine bnd_ind (P := fun q : SK × MM => Keep K q.1 a0) (fun K95 e96 => ?_)
  have k97 : Keep K K95 a0 := by rw [e96]; exact k89.new
  refine bnd_ind (P := fun q : SK × MM => Keep K q.1 a0) (fun M104 e105 => ?_)
  refine bnd_ind (P := fun q : SK × MM => Keep K q.1 a0) (fun K106 e107 => ?_)
  have k108 : Keep K K106 a0 := by rw [e107]; exact k97.set (Or.inl rfl)
  refine bnd_ind (P := fun q : SK × MM => Keep K q.1 a0) (fun K115 e116 => ?_)
  have k117 : Keep K K115 a0 := by rw [e116]; exact k108.new
  refine bnd_ind (P := fun q : SK × MM => Keep K q.1 a0) (fun M125 e126 => ?_)
  refine bnd_ind (P := fun q : SK × MM => Keep K q.1 a0) (fun K127 e128 => ?_)
  have k129 : Keep K K127 a0 := by rw [e128]; exact k117.set (Or.inl rfl)
  exact k129
theorem ov_X7_init {n0 : Nat} {K K' : SK} {M M' : MM} {a0 a0' : Nat} (h : Ov n0 K K') (ha0 : a0' = n0 + a0) : Ov n0 (kX7_init K M a0).1 (kX7_init K' M' a0').1 := by
  unfold kX7_init
  refine bnd_ind2 (P := fun q q' : SK × MM => Ov n0 q.1 q'.1) (fun K1 K1' e2 e2' => ?_)
  have oK1 : Ov n0 K1 K1' := by rw [e2, e2']; exact h.new
  refine bnd_ind2 (P := fun q q' : SK × MM => Ov n0 q.1 q'.1) (fun M6 M6' _ _ => ?_)
  refine bnd_ind2 (P := fun q q' : SK × MM => Ov n0 q.1 q'.1) (fun K8 K8' e9 e9' => ?_)
  have oK8 : Ov n0 K8 K8' := by rw [e9, e9']; exact ov_X5_init oK1 h.1
  refine bnd_ind2 (P := fun q q' : SK × MM => Ov n0 q.1 q'.1) (fun M13 M13' _ _ => ?_)
  refine bnd_ind2 (P := fun q q' : SK × MM => Ov n0 q.1 q'.1) (fun K15 K15' e16 e16' => ?_)
  have oK15 : Ov n0 K15 K15' := by rw [e16, e16']; exact oK8.set ha0 h.1
  refine bnd_ind2 (P := fun q q' : SK × MM => Ov n0 q.1 q'.1) (fun K20 K20' e21 e21' => ?_)
  have oK20 : Ov n0 K20 K20' := by rw [e21, e21']; exact oK15.new
  refine bnd_ind2 (P := fun q q' : SK × MM => Ov n0 q.1 q'.1) (fun M26 M26' _ _ => ?_)
  refine bnd_ind2 (P := fun q q' : SK × MM => Ov n0 q.1 q'.1) (fun K28 K28' e29 e29' => ?_)
  have oK28 : Ov n0 K28 K28' := by rw [e29, e29']; exact ov_X4_init oK20 oK15.1
  refine bnd_ind2 (P := fun q q' : SK × MM => Ov n0 q.1 q'.1) (fun M34 M34' _ _ => ?_)
  refine bnd_ind2 (P := fun q q' : SK × MM => Ov n0 q.1 q'.1) (fun K36 K36' e37 e37' => ?_)
  have oK36 : Ov n0 K36 K36' := by rw [e37, e37']; exact oK28.set ha0 oK15.1
  refine bnd_ind2 (P := fun q q' : SK × MM => Ov n0 q.1 q'.1) (fun K42 K42' e43 e43' => ?_)
  have oK42 : Ov n0 K42 K42' := by rw [e43, e43']; exact oK36.new
  refine bnd_ind2 (P := fun q q' : SK × MM => Ov n0 q.1 q'.1) (fun M49 M49' _ _ => ?_)
  refine bnd_ind2 (P := fun q q' : SK × MM => Ov n0 q.1 q'.1) (fun K51 K51' e52 e52' => ?_)
  have oK51 : Ov n0 K51 K51' := by rw [e52, e52']; exact ov_X2_init oK42 oK36.1
  refine bnd_ind2 (P := fun q q' : SK × MM => Ov n0 q.1 q'.1) (fun M58 M58' _ _ => ?_)
  refine bnd_ind2 (P := fun q q' : SK × MM => Ov n0 q.1 q'.1) (fun K60 K60' e61 e61' => ?_)
  have oK60 : Ov n0 K60 K60' := by rw [e61, e61']; exact oK51.set ha0 oK36.1
  refine bnd_ind2 (P := fun q q' : SK × MM => Ov n0 q.1 q'.1) (fun K67 K67' e68 e68' => ?_)
  have oK67 : Ov n0 K67 K67' := by rw [e68, e68']; exact oK60.new
  refine bnd_ind2 (P := fun q q' : SK × MM => Ov n0 q.1 q'.1) (fun M75 M75' _ _ => ?_)
  refine bnd_ind2 (P := fun q q' : SK × MM => Ov n0 q.1 q'.1) (fun K77 K77' e78 e78' => ?_)
  have oK77 : Ov n0 K77 K77' := by rw [e78, e78']; exact ov_X8_init oK67 oK60.1
  refine bnd_ind2 (P := fun q q' : SK × MM => Ov n0 q.1 q'.1) (fun M85 M85' _ _ => ?_)
  refine bnd_ind2 (P := fun q q' : SK × MM => Ov n0 q.1 q'.1) (fun K87 K87' e88 e88' => ?_)
  have oK87 : Ov n0 K87 K87' := by rw [e88, e88']; exact oK77.set ha0 oK60.1
  refine bnd_ind2 (P := fun q q' : SK × MM => Ov n0 q.1 q'.1) (fun K95 K95' e96 e96' => ?_)
  have oK95 : Ov n0 K95 K95' := by rw [e96, e96']; exact oK87.new
  refine bnd_ind2 (P := fun q q' : SK × MM => Ov n0 q.1 q'.1) (fun M104 M104' _ _ => ?_)
  refine bnd_ind2 (P := fun q q' : SK × MM => Ov n0 q.1 q'.1) (fun K106 K106' e107 e107' => ?_)
  have oK106 : Ov n0 K106 K106' := by rw [e107, e107']; exact oK95.set ha0 oK87.1
  refine bnd_ind2 (P := fun q q' : SK × MM => Ov n0 q.1 q'.1) (fun K115 K115' e116 e116' => ?_)
  have oK115 : Ov n0 K115 K115' := by rw [e116, e116']; exact oK106.new
  refine bnd_ind2 (P := fun q q' : SK × MM => Ov n0 q.1 q'.1) (fun M125 M125' _ _ => ?_)
  refine bnd_ind2 (P := fun q q' : SK × MM => Ov n0 q.1 q'.1) (fun K127 K127' e128 e128' => ?_)
  have oK127 : Ov n0 K127 K127' := by rw [e128, e128']; exact oK115.set ha0 oK106.1
  exact oK127
set_option maxRecDepth 100000 in
theorem lkI_X7_init : LkI yX7_init cX7_init 1 0 := ⟨gw_of 362 rfl (by decide +kernel), gw_of 361 (by decide +kernel) (by decide +kernel), q_in2_X7, rfl, by decide +kernel, by decide +kernel, by decide +kernel⟩
theorem dX0_init_0 : decode cX0_init 0 = .ok (.aload_n 0, 1) := by decide +kernel
theorem dX0_init_1 : decode cX0_init 1 = .ok (.invokespecial 3, 3) := by decide +kernel
theorem dX0_init_4 : decode cX0_init 4 = .ok (.aload_n 0, 1) := by decide +kernel
theorem dX0_init_5 : decode cX0_init 5 = .ok (.new 9, 3) := by decide +kernel
theorem dX0_init_8 : decode cX0_init 8 = .ok (.dup, 1) := by decide +kernel
theorem dX0_init_9 : decode cX0_init 9 = .ok (.invokespecial 11, 3) := by decide +kernel
theorem dX0_init_12 : decode cX0_init 12 = .ok (.putfield 12, 3) := by decide +kernel
theorem dX0_init_15 : decode cX0_init 15 = .ok (.aload_n 0, 1) := by decide +kernel
theorem dX0_init_16 : decode cX0_init 16 = .ok (.bipush 8, 2) := by decide +kernel
theorem dX0_init_18 : decode cX0_init 18 = .ok (.newarray .int, 2) := by decide +kernel
theorem dX0_init_20 : decode cX0_init 20 = .ok (.putfield 18, 3) := by decide +kernel
theorem dX0_init_23 : decode cX0_init 23 = .ok (.aload_n 0, 1) := by decide +kernel
theorem dX0_init_24 : decode cX0_init 24 = .ok (.iconst 4, 1) := by decide +kernel
theorem dX0_init_25 : decode cX0_init 25 = .ok (.newarray .int, 2) := by decide +kernel
theorem dX0_init_27 : decode cX0_init 27 = .ok (.putfield 22, 3) := by decide +kernel
theorem dX0_init_30 : decode cX0_init 30 = .ok (.aload_n 0, 1) := by decide +kernel
theorem dX0_init_31 : decode cX0_init 31 = .ok (.iconst 4, 1) := by decide +kernel
theorem dX0_init_32 : decode cX0_init 32 = .ok (.newarray .int, 2) := by decide +kernel
theorem dX0_init_34 : decode cX0_init 34 = .ok (.putfield 25, 3) := by decide +kernel
theorem dX0_init_37 : decode cX0_init 37 = .ok (.aload_n 0, 1) := by decide +kernel
theorem dX0_init_38 : decode cX0_init 38 = .ok (.sipush 512, 3) := by decide +kernel
theorem dX0_init_41 : decode cX0_init 41 = .ok (.newarray .int, 2) := by decide +kernel
theorem dX0_init_43 : decode cX0_init 43 = .ok (.putfield 28, 3) := by decide +kernel
theorem dX0_init_46 : decode cX0_init 46 = .ok (.aload_n 0, 1) := by decide +kernel
theorem dX0_init_47 : decode cX0_init 47 = .ok (.bipush 8, 2) := by decide +kernel
theorem dX0_init_49 : decode cX0_init 49 = .ok (.newarray .int, 2) := by decide +kernel
theorem dX0_init_51 : decode cX0_init 51 = .ok (.putfield 31, 3) := by decide +kernel
theorem dX0_init_54 : decode cX0_init 54 = .ok (.aload_n 0, 1) := by decide +kernel
theorem dX0_init_55 : decode cX0_init 55 = .ok (.bipush 8, 2) := by decide +kernel
theorem dX0_init_57 : decode cX0_init 57 = .ok (.newarray .int, 2) := by decide +kernel
theorem dX0_init_59 : decode cX0_init 59 = .ok (.putfield 34, 3) := by decide +kernel
theorem dX0_init_62 : decode cX0_init 62 = .ok (.aload_n 0, 1) := by decide +kernel
theorem dX0_init_63 : decode cX0_init 63 = .ok (.bipush 8, 2) := by decide +kernel
theorem dX0_init_65 : decode cX0_init 65 = .ok (.newarray .long, 2) := by decide +kernel
theorem dX0_init_67 : decode cX0_init 67 = .ok (.putfield 37, 3) := by decide +kernel
theorem dX0_init_70 : decode cX0_init 70 = .ok (.aload_n 0, 1) := by decide +kernel
theorem dX0_init_71 : decode cX0_init 71 = .ok (.bipush 8, 2) := by decide +kernel
theorem dX0_init_73 : decode cX0_init 73 = .ok (.newarray .int, 2) := by decide +kernel
theorem dX0_init_75 : decode cX0_init 75 = .ok (.putfield 41, 3) := by decide +kernel
theorem dX0_init_78 : decode cX0_init 78 = .ok (.return_, 1) := by decide +kernel
set_option maxHeartbeats 4000000 in
set_option maxRecDepth 100000 in
theorem tX0_init (l : Launch) (G : GG) (K : SK) (M : MM) (a0 : Nat) (h0 : isC K a0 0 0) : Ct l yX0_init cX0_init 1 none 2 17 693 G K M [.ref (G.1 + a0)] none (kX0_init K M a0).1 (kX0_init K M a0).2 := by
  generalize hf : kX0_init K M a0 = pp
  refine z_enter (lv := [(0, .ref (G.1 + a0))]) (by decide +kernel) (Nat.le_of_ble_eq_true rfl) rfl ?_
  intro p e s m args below meth c C hnm hs0
  replace C : CX p s m args meth c cX0_init 1 none RX0 G := C
  unfold kX0_init at hf
  refine z_aload_n C 0 0 dX0_init_0 rfl rfl ?_
  refine z_objInit C q_ml_X0_3 q_oi q_oc dX0_init_1 (Nat.le_of_ble_eq_true rfl) (Nat.le_of_ble_eq_true rfl) ?_
  refine z_aload_n C 0 0 dX0_init_4 rfl rfl ?_
  refine z_new C ok_X5 q_cl_X0_9 q_is_X5 q_in2_X5 df_X5 (by decide) (by decide) dX0_init_5 ?_
  refine z_K (fun K1 e2 => ?_)
  replace hf := bnd_out e2 hf
  have i4 : isC K1 a0 0 0 := by rw [e2]; exact isC_new h0
  have i5 : isC K1 K.1 5 0 := by rw [e2]; exact isC_new0
  refine z_M (fun M6 e7 => ?_)
  replace hf := bnd_out e7 hf
  refine z_dup C rfl dX0_init_8 ?_
  refine z_callI C [.ref (G.1 + K.1), .ref (G.1 + a0)] (tX5_init l G K1 M6 K.1 i5) lkI_X5_init q_ml_X0_11 rfl ⟨Nat.le_of_ble_eq_true rfl, Nat.le_of_ble_eq_true rfl⟩ rfl (Nat.le_of_ble_eq_true rfl) ⟨by decide, by decide⟩ dX0_init_9 ?_
  refine z_K (fun K8 e9 => ?_)
  replace hf := bnd_out e9 hf
  have i11 : isC K8 a0 0 0 := by rw [e9]; exact (keep_X5_init K1 M6 K.1).cell i4
  have i12 : isC K8 K.1 5 0 := by rw [e9]; exact (keep_X5_init K1 M6 K.1).cell i5
  refine z_M (fun M13 e14 => ?_)
  replace hf := bnd_out e14 hf
  refine z_putRF C ok_X0 i11 0 (by decide) rfl rfl hnm rfl rfl rfl q_fl_X0_12 dX0_init_12 ?_
  refine z_K (fun K15 e16 => ?_)
  replace hf := bnd_out e16 hf
  have i18 : isC K15 a0 0 0 := by rw [e16]; exact isC_set i11
  have i19 : isC K15 K.1 5 0 := by rw [e16]; exact isC_set i12
  refine z_aload_n C 0 0 dX0_init_15 rfl rfl ?_
  refine z_bipush C 8 dX0_init_16 (by decide) ?_
  refine z_newai C 8 q_ac_i (by decide) (by decide) (by decide) (by decide) (by decide) dX0_init_18 ?_
  refine z_K (fun K20 e21 => ?_)
  replace hf := bnd_out e21 hf
  have i23 : isC K20 a0 0 0 := by rw [e21]; exact isC_new i18
  have i24 : isC K20 K.1 5 0 := by rw [e21]; exact isC_new i19
  have i25 : isC K20 K15.1 20 8 := by rw [e21]; exact isC_new0
  refine z_M (fun M26 e27 => ?_)
  replace hf := bnd_out e27 hf
  refine z_putRF C ok_X0 i23 1 (by decide) rfl rfl hnm rfl rfl rfl q_fl_X0_18 dX0_init_20 ?_
  refine z_K (fun K28 e29 => ?_)
  replace hf := bnd_out e29 hf
  have i31 : isC K28 a0 0 0 := by rw [e29]; exact isC_set i23
  have i32 : isC K28 K.1 5 0 := by rw [e29]; exact isC_set i24
  have i33 : isC K28 K15.1 20 8 := by rw [e29]; exact isC_set i25
  refine z_aload_n C 0 0 dX0_init_23 rfl rfl ?_
  refine z_iconst C 4 dX0_init_24 (by decide) ?_
  refine z_newai C 4 q_ac_i (by decide) (by decide) (by decide) (by decide) (by decide) dX0_init_25 ?_
  refine z_K (fun K34 e35 => ?_)
  replace hf := bnd_out e35 hf
  have i37 : isC K34 a0 0 0 := by rw [e35]; exact isC_new i31
  have i38 : isC K34 K.1 5 0 := by rw [e35]; exact isC_new i32
  have i39 : isC K34 K15.1 20 8 := by rw [e35]; exact isC_new i33
  have i40 : isC K34 K28.1 20 4 := by rw [e35]; exact isC_new0
  refine z_M (fun M41 e42 => ?_)
  replace hf := bnd_out e42 hf
  refine z_putRF C ok_X0 i37 2 (by decide) rfl rfl hnm rfl rfl rfl q_fl_X0_22 dX0_init_27 ?_
  refine z_K (fun K43 e44 => ?_)
  replace hf := bnd_out e44 hf
  have i46 : isC K43 a0 0 0 := by rw [e44]; exact isC_set i37
  have i47 : isC K43 K.1 5 0 := by rw [e44]; exact isC_set i38
  have i48 : isC K43 K15.1 20 8 := by rw [e44]; exact isC_set i39
  have i49 : isC K43 K28.1 20 4 := by rw [e44]; exact isC_set i40
  refine z_aload_n C 0 0 dX0_init_30 rfl rfl ?_
  refine z_iconst C 4 dX0_init_31 (by decide) ?_
  refine z_newai C 4 q_ac_i (by decide) (by decide) (by decide) (by decide) (by decide) dX0_init_32 ?_
  refine z_K (fun K50 e51 => ?_)
  replace hf := bnd_out e51 hf
  have i53 : isC K50 a0 0 0 := by rw [e51]; exact isC_new i46
  have i54 : isC K50 K.1 5 0 := by rw [e51]; exact isC_new i47
  have i55 : isC K50 K15.1 20 8 := by rw [e51]; exact isC_new i48
  have i56 : isC K50 K28.1 20 4 := by rw [e51]; exact isC_new i49
  have i57 : isC K50 K43.1 20 4 := by rw [e51]; exact isC_new0
  refine z_M (fun M58 e59 => ?_)
  replace hf := bnd_out e59 hf
  refine z_putRF C ok_X0 i53 3 (by decide) rfl rfl hnm rfl rfl rfl q_fl_X0_25 dX0_init_34 ?_
  refine z_K (fun K60 e61 => ?_)
  replace hf := bnd_out e61 hf
  have i63 : isC K60 a0 0 0 := by rw [e61]; exact isC_set i53
  have i64 : isC K60 K.1 5 0 := by rw [e61]; exact isC_set i54
  have i65 : isC K60 K15.1 20 8 := by rw [e61]; exact isC_set i55
  have i66 : isC K60 K28.1 20 4 := by rw [e61]; exact isC_set i56
  have i67 : isC K60 K43.1 20 4 := by rw [e61]; exact isC_set i57
  refine z_aload_n C 0 0 dX0_init_37 rfl rfl ?_
  refine z_sipush C 512 dX0_init_38 (by decide) ?_
  refine z_newai C 512 q_ac_i (by decide) (by decide) (by decide) (by decide) (by decide) dX0_init_41 ?_
  refine z_K (fun K68 e69 => ?_)
  replace hf := bnd_out e69 hf
  have i71 : isC K68 a0 0 0 := by rw [e69]; exact isC_new i63
  have i72 : isC K68 K.1 5 0 := by rw [e69]; exact isC_new i64
  have i73 : isC K68 K15.1 20 8 := by rw [e69]; exact isC_new i65
  have i74 : isC K68 K28.1 20 4 := by rw [e69]; exact isC_new i66
  have i75 : isC K68 K43.1 20 4 := by rw [e69]; exact isC_new i67
  have i76 : isC K68 K60.1 20 512 := by rw [e69]; exact isC_new0
  refine z_M (fun M77 e78 => ?_)
  replace hf := bnd_out e78 hf
  refine z_putRF C ok_X0 i71 4 (by decide) rfl rfl hnm rfl rfl rfl q_fl_X0_28 dX0_init_43 ?_
  refine z_K (fun K79 e80 => ?_)
  replace hf := bnd_out e80 hf
  have i82 : isC K79 a0 0 0 := by rw [e80]; exact isC_set i71
  have i83 : isC K79 K.1 5 0 := by rw [e80]; exact isC_set i72
  have i84 : isC K79 K15.1 20 8 := by rw [e80]; exact isC_set i73
  have i85 : isC K79 K28.1 20 4 := by rw [e80]; exact isC_set i74
  have i86 : isC K79 K43.1 20 4 := by rw [e80]; exact isC_set i75
  have i87 : isC K79 K60.1 20 512 := by rw [e80]; exact isC_set i76
  refine z_aload_n C 0 0 dX0_init_46 rfl rfl ?_
  refine z_bipush C 8 dX0_init_47 (by decide) ?_
  refine z_newai C 8 q_ac_i (by decide) (by decide) (by decide) (by decide) (by decide) dX0_init_49 ?_
  refine z_K (fun K88 e89 => ?_)
  replace hf := bnd_out e89 hf
  have i91 : isC K88 a0 0 0 := by rw [e89]; exact isC_new i82
  have i92 : isC K88 K.1 5 0 := by rw [e89]; exact isC_new i83
  have i93 : isC K88 K15.1 20 8 := by rw [e89]; exact isC_new i84
  have i94 : isC K88 K28.1 20 4 := by rw [e89]; exact isC_new i85
  have i95 : isC K88 K43.1 20 4 := by rw [e89]; exact isC_new i86
  have i96 : isC K88 K60.1 20 512 := by rw [e89]; exact isC_new i87
  have i97 : isC K88 K79.1 20 8 := by rw [e89]; exact isC_new0
  refine z_M (fun M98 e99 => ?_)
  replace hf := bnd_out e99 hf
  refine z_putRF C ok_X0 i91 8 (by decide) rfl rfl hnm rfl rfl rfl q_fl_X0_31 dX0_init_51 ?_
  refine z_K (fun K100 e101 => ?_)
  replace hf := bnd_out e101 hf
  have i103 : isC K100 a0 0 0 := by rw [e101]; exact isC_set i91
  have i104 : isC K100 K.1 5 0 := by rw [e101]; exact isC_set i92
  have i105 : isC K100 K15.1 20 8 := by rw [e101]; exact isC_set i93
  have i106 : isC K100 K28.1 20 4 := by rw [e101]; exact isC_set i94
  have i107 : isC K100 K43.1 20 4 := by rw [e101]; exact isC_set i95
  have i108 : isC K100 K60.1 20 512 := by rw [e101]; exact isC_set i96
  have i109 : isC K100 K79.1 20 8 := by rw [e101]; exact isC_set i97
  refine z_aload_n C 0 0 dX0_init_54 rfl rfl ?_
  refine z_bipush C 8 dX0_init_55 (by decide) ?_
  refine z_newai C 8 q_ac_i (by decide) (by decide) (by decide) (by decide) (by decide) dX0_init_57 ?_
  refine z_K (fun K110 e111 => ?_)
  replace hf := bnd_out e111 hf
  have i113 : isC K110 a0 0 0 := by rw [e111]; exact isC_new i103
  have i114 : isC K110 K.1 5 0 := by rw [e111]; exact isC_new i104
  have i115 : isC K110 K15.1 20 8 := by rw [e111]; exact isC_new i105
  have i116 : isC K110 K28.1 20 4 := by rw [e111]; exact isC_new i106
  have i117 : isC K110 K43.1 20 4 := by rw [e111]; exact isC_new i107
  have i118 : isC K110 K60.1 20 512 := by rw [e111]; exact isC_new i108
  have i119 : isC K110 K79.1 20 8 := by rw [e111]; exact isC_new i109
  have i120 : isC K110 K100.1 20 8 := by rw [e111]; exact isC_new0
  refine z_M (fun M121 e122 => ?_)
  replace hf := bnd_out e122 hf
  refine z_putRF C ok_X0 i113 9 (by decide) rfl rfl hnm rfl rfl rfl q_fl_X0_34 dX0_init_59 ?_
  refine z_K (fun K123 e124 => ?_)
  replace hf := bnd_out e124 hf
  have i126 : isC K123 a0 0 0 := by rw [e124]; exact isC_set i113
  have i127 : isC K123 K.1 5 0 := by rw [e124]; exact isC_set i114
  have i128 : isC K123 K15.1 20 8 := by rw [e124]; exact isC_set i115
  have i129 : isC K123 K28.1 20 4 := by rw [e124]; exact isC_set i116
  have i130 : isC K123 K43.1 20 4 := by rw [e124]; exact isC_set i117
  have i131 : isC K123 K60.1 20 512 := by rw [e124]; exact isC_set i118
  have i132 : isC K123 K79.1 20 8 := by rw [e124]; exact isC_set i119
  have i133 : isC K123 K100.1 20 8 := by rw [e124]; exact isC_set i120
  refine z_aload_n C 0 0 dX0_init_62 rfl rfl ?_
  refine z_bipush C 8 dX0_init_63 (by decide) ?_
  refine z_newal C 8 q_ac_l (by decide) (by decide) (by decide) (by decide) (by decide) dX0_init_65 ?_
  refine z_K (fun K134 e135 => ?_)
  replace hf := bnd_out e135 hf
  have i137 : isC K134 a0 0 0 := by rw [e135]; exact isC_new i126
  have i138 : isC K134 K.1 5 0 := by rw [e135]; exact isC_new i127
  have i139 : isC K134 K15.1 20 8 := by rw [e135]; exact isC_new i128
  have i140 : isC K134 K28.1 20 4 := by rw [e135]; exact isC_new i129
  have i141 : isC K134 K43.1 20 4 := by rw [e135]; exact isC_new i130
  have i142 : isC K134 K60.1 20 512 := by rw [e135]; exact isC_new i131
  have i143 : isC K134 K79.1 20 8 := by rw [e135]; exact isC_new i132
  have i144 : isC K134 K100.1 20 8 := by rw [e135]; exact isC_new i133
  have i145 : isC K134 K123.1 21 8 := by rw [e135]; exact isC_new0
  refine z_M (fun M146 e147 => ?_)
  replace hf := bnd_out e147 hf
  refine z_putRF C ok_X0 i137 10 (by decide) rfl rfl hnm rfl rfl rfl q_fl_X0_37 dX0_init_67 ?_
  refine z_K (fun K148 e149 => ?_)
  replace hf := bnd_out e149 hf
  have i151 : isC K148 a0 0 0 := by rw [e149]; exact isC_set i137
  have i152 : isC K148 K.1 5 0 := by rw [e149]; exact isC_set i138
  have i153 : isC K148 K15.1 20 8 := by rw [e149]; exact isC_set i139
  have i154 : isC K148 K28.1 20 4 := by rw [e149]; exact isC_set i140
  have i155 : isC K148 K43.1 20 4 := by rw [e149]; exact isC_set i141
  have i156 : isC K148 K60.1 20 512 := by rw [e149]; exact isC_set i142
  have i157 : isC K148 K79.1 20 8 := by rw [e149]; exact isC_set i143
  have i158 : isC K148 K100.1 20 8 := by rw [e149]; exact isC_set i144
  have i159 : isC K148 K123.1 21 8 := by rw [e149]; exact isC_set i145
  refine z_aload_n C 0 0 dX0_init_70 rfl rfl ?_
  refine z_bipush C 8 dX0_init_71 (by decide) ?_
  refine z_newai C 8 q_ac_i (by decide) (by decide) (by decide) (by decide) (by decide) dX0_init_73 ?_
  refine z_K (fun K160 e161 => ?_)
  replace hf := bnd_out e161 hf
  have i163 : isC K160 a0 0 0 := by rw [e161]; exact isC_new i151
  have i164 : isC K160 K.1 5 0 := by rw [e161]; exact isC_new i152
  have i165 : isC K160 K15.1 20 8 := by rw [e161]; exact isC_new i153
  have i166 : isC K160 K28.1 20 4 := by rw [e161]; exact isC_new i154
  have i167 : isC K160 K43.1 20 4 := by rw [e161]; exact isC_new i155
  have i168 : isC K160 K60.1 20 512 := by rw [e161]; exact isC_new i156
  have i169 : isC K160 K79.1 20 8 := by rw [e161]; exact isC_new i157
  have i170 : isC K160 K100.1 20 8 := by rw [e161]; exact isC_new i158
  have i171 : isC K160 K123.1 21 8 := by rw [e161]; exact isC_new i159
  have i172 : isC K160 K148.1 20 8 := by rw [e161]; exact isC_new0
  refine z_M (fun M173 e174 => ?_)
  replace hf := bnd_out e174 hf
  refine z_putRF C ok_X0 i163 11 (by decide) rfl rfl hnm rfl rfl rfl q_fl_X0_41 dX0_init_75 ?_
  refine z_K (fun K175 e176 => ?_)
  replace hf := bnd_out e176 hf
  have i178 : isC K175 a0 0 0 := by rw [e176]; exact isC_set i163
  have i179 : isC K175 K.1 5 0 := by rw [e176]; exact isC_set i164
  have i180 : isC K175 K15.1 20 8 := by rw [e176]; exact isC_set i165
  have i181 : isC K175 K28.1 20 4 := by rw [e176]; exact isC_set i166
  have i182 : isC K175 K43.1 20 4 := by rw [e176]; exact isC_set i167
  have i183 : isC K175 K60.1 20 512 := by rw [e176]; exact isC_set i168
  have i184 : isC K175 K79.1 20 8 := by rw [e176]; exact isC_set i169
  have i185 : isC K175 K100.1 20 8 := by rw [e176]; exact isC_set i170
  have i186 : isC K175 K123.1 21 8 := by rw [e176]; exact isC_set i171
  have i187 : isC K175 K148.1 20 8 := by rw [e176]; exact isC_set i172
  subst hf
  exact z_vret C rfl dX0_init_78
theorem keep_X0_init (K : SK) (M : MM) (a0 : Nat) : Keep K (kX0_init K M a0).1 a0 := by
  unfold kX0_init
  have k0 : Keep K K a0 := Keep.rfl
  refine bnd_ind (P := fun q : SK × MM => Keep K q.1 a0) (fun K1 e2 => ?_)
  have k3 : Keep K K1 a0 := by rw [e2]; exact k0.new
  refine bnd_ind (P := fun q : SK × MM => Keep K q.1 a0) (fun M6 e7 => ?_)
  refine bnd_ind (P := fun q : SK × MM => Keep K q.1 a0) (fun K8 e9 => ?_)
  have k10 : Keep K K8 a0 := by rw [e9]; exact k3.sub (keep_X5_init K1 M6 K.1) (Or.inr k0.1)
  refine bnd_ind (P := fun q : SK × MM => Keep K q.1 a0) (fun M13 e14 => ?_)
  refine bnd_ind (P := fun q : SK × MM => Keep K q.1 a0) (fun K15 e16 => ?_)
  have k17 : Keep K K15 a0 := by rw [e16]; exact k10.set (Or.inl rfl)
  refine bnd_ind (P := fun q : SK × MM => Keep K q.1 a0) (fun K20 e21 => ?_)
  have k22 : Keep K K20 a0 := by rw [e21]; exact k17.new
  refine bnd_ind (P := fun q : SK × MM => Keep K q.1 a0) (fun M26 e27 => ?_)
  refine bnd_ind (P := fun q : SK × MM => Keep K q.1 a0) (fun K28 e29 => ?_)
  have k30 : Keep K K28 a0 := by rw [e29]; exact k22.set (Or.inl rfl)
  refine bnd_ind (P := fun q : SK × MM => Keep K q.1 a0) (fun K34 e35 => ?_)
  have k36 : Keep K K34 a0 := by rw [e35]; exact k30.new
  refine bnd_ind (P := fun q : SK × MM => Keep K q.1 a0) (fun M41 e42 => ?_)
  refine bnd_ind (P := fun q : SK × MM => Keep K q.1 a0) (fun K43 e44 => ?_)
  have k45 : Keep K K43 a0 := by rw [e44]; exact k36.set (Or.inl rfl)
  refine bnd_ind (P := fun q : SK × MM => Keep K q.1 a0) (fun K50 e51 => ?_)
  have k52 : Keep K K50 a0 := by rw [e51]; exact k45.new
  refine bnd_ind (P := fun q : SK × MM => Keep K q.1 a0) (fun M58 e59 => ?_)
  refine bnd_ind (P := fun q : SK × MM => Keep K q.1 a0) (fun K60 e61 => ?_)
  have k62 : Keep K K60 a0 := by rw [e61]; exact k52.set (Or.inl rfl)
  refine bnd_ind (P := fun q : SK × MM => Keep K q.1 a0) (fun K68 e69 => ?_)
  have k70 : Keep K K68 a0 := by rw [e69]; exact k62.new
  refine bnd_ind (P := fun q : SK × MM => Keep K q.1 a0) (fun M77 e78 => ?_)
  refine bnd_ind (P := fun q : SK × MM => Keep K q.1 a0) (fun K79 e80 => ?_)
  have k81 : Keep K K79 a0 := by rw [e80]; exact k70.set (Or.inl rfl)
  refine bnd_ind (P := fun q : SK × MM => Keep K q.1 a0) (fun K88 e89 => ?_)
  have k90 : Keep K K88 a0 := by rw [e89]; exact k81.new
  refine bnd_ind (P := fun q : SK × MM => Keep K q.1 a0) (fun M98 e99 => ?_)
  refine bnd_ind (P := fun q : SK × MM => Keep K q.1 a0) (fun K100 e101 => ?_)
  have k102 : Keep K K100 a0 := by rw [e101]; exact k90.set (Or.inl rfl)
  refine bnd_ind (P := fun q : SK × MM => Keep K q.1 a0) (fun K110 e111 => ?_)
  have k112 : Keep K K110 a0 := by rw [e111]; exact k102.new
  refine bnd_ind (P := fun q : SK × MM => Keep K q.1 a0) (fun M121 e122 => ?_)
  refine bnd_ind (P := fun q : SK × MM => Keep K q.1 a0) (fun K123 e124 => ?_)
  have k125 : Keep K K123 a0 := by rw [e124]; exact k112.set (Or.inl rfl)
  refine bnd_ind (P := fun q : SK × MM => Keep K q.1 a0) (fun K134 e135 => ?_)
  have k136 : Keep K K134 a0 := by rw [e135]; exact k125.new
  refine bnd_ind (P := fun q : SK × MM => Keep K q.1 a0) (fun M146 e147 => ?_)
  refine bnd_ind (P := fun q : SK × MM => Keep K q.1 a0) (fun K148 e149 => ?_)
  have k150 : Keep K K148 a0 := by rw [e149]; exact k136.set (Or.inl rfl)
  refine bnd_ind (P := fun q : SK × MM => Keep K q.1 a0) (fun K160 e161 => ?_)
  have k162 : Keep K K160 a0 := by rw [e161]; exact k150.new
  refine bnd_ind (P := fun q : SK × MM => Keep K q.1 a0) (fun M173 e174 => ?_)
  refine bnd_ind (P := fun q : SK × MM => Keep K q.1 a0) (fun K175 e176 => ?_)
  have k177 : Keep K K175 a0 := by rw [e176]; exact k162.set (Or.inl rfl)
  exact k177
theorem ov_X0_init {n0 : Nat} {K K' : SK} {M M' : MM} {a0 a0' : Nat} (h : Ov n0 K K') (ha0 : a0' = n0 + a0) : Ov n0 (kX0_init K M a0).1 (kX0_init K' M' a0').1 := by
  unfold kX0_init
  refine bnd_ind2 (P := fun q q' : SK × MM => Ov n0 q.1 q'.1) (fun K1 K1' e2 e2' => ?_)
  have oK1 : Ov n0 K1 K1' := by rw [e2, e2']; exact h.new
  refine bnd_ind2 (P := fun q q' : SK × MM => Ov n0 q.1 q'.1) (fun M6 M6' _ _ => ?_)
  refine bnd_ind2 (P := fun q q' : SK × MM => Ov n0 q.1 q'.1) (fun K8 K8' e9 e9' => ?_)
  have oK8 : Ov n0 K8 K8' := by rw [e9, e9']; exact ov_X5_init oK1 h.1
  refine bnd_ind2 (P := fun q q' : SK × MM => Ov n0 q.1 q'.1) (fun M13 M13' _ _ => ?_)
  refine bnd_ind2 (P := fun q q' : SK × MM => Ov n0 q.1 q'.1) (fun K15 K15' e16 e16' => ?_)
  have oK15 : Ov n0 K15 K15' := by rw [e16, e16']; exact oK8.set ha0 h.1
  refine bnd_ind2 (P := fun q q' : SK × MM => Ov n0 q.1 q'.1) (fun K20 K20' e21 e21' => ?_)
  have oK20 : Ov n0 K20 K20' := by rw [e21, e21']; exact oK15.new
  refine bnd_ind2 (P := fun q q' : SK × MM => Ov n0 q.1 q'.1) (fun M26 M26' _ _ => ?_)
  refine bnd_ind2 (P := fun q q' : SK × MM => Ov n0 q.1 q'.1) (fun K28 K28' e29 e29' => ?_)
  have oK28 : Ov n0 K28 K28' := by rw [e29, e29']; exact oK20.set ha0 oK15.1
  refine bnd_ind2 (P := fun q q' : SK × MM => Ov n0 q.1 q'.1) (fun K34 K34' e35 e35' => ?_)
  have oK34 : Ov n0 K34 K34' := by rw [e35, e35']; exact oK28.new
  refine bnd_ind2 (P := fun q q' : SK × MM => Ov n0 q.1 q'.1) (fun M41 M41' _ _ => ?_)
  refine bnd_ind2 (P := fun q q' : SK × MM => Ov n0 q.1 q'.1) (fun K43 K43' e44 e44' => ?_)
  have oK43 : Ov n0 K43 K43' := by rw [e44, e44']; exact oK34.set ha0 oK28.1
  refine bnd_ind2 (P := fun q q' : SK × MM => Ov n0 q.1 q'.1) (fun K50 K50' e51 e51' => ?_)
  have oK50 : Ov n0 K50 K50' := by rw [e51, e51']; exact oK43.new
  refine bnd_ind2 (P := fun q q' : SK × MM => Ov n0 q.1 q'.1) (fun M58 M58' _ _ => ?_)
  refine bnd_ind2 (P := fun q q' : SK × MM => Ov n0 q.1 q'.1) (fun K60 K60' e61 e61' => ?_)
  have oK60 : Ov n0 K60 K60' := by rw [e61, e61']; exact oK50.set ha0 oK43.1
  refine bnd_ind2 (P := fun q q' : SK × MM => Ov n0 q.1 q'.1) (fun K68 K68' e69 e69' => ?_)
  have oK68 : Ov n0 K68 K68' := by rw [e69, e69']; exact oK60.new
  refine bnd_ind2 (P := fun q q' : SK × MM => Ov n0 q.1 q'.1) (fun M77 M77' _ _ => ?_)
  refine bnd_ind2 (P := fun q q' : SK × MM => Ov n0 q.1 q'.1) (fun K79 K79' e80 e80' => ?_)
  have oK79 : Ov n0 K79 K79' := by rw [e80, e80']; exact oK68.set ha0 oK60.1
  refine bnd_ind2 (P := fun q q' : SK × MM => Ov n0 q.1 q'.1) (fun K88 K88' e89 e89' => ?_)
  have oK88 : Ov n0 K88 K88' := by rw [e89, e89']; exact oK79.new
  refine bnd_ind2 (P := fun q q' : SK × MM => Ov n0 q.1 q'.1) (fun M98 M98' _ _ => ?_)
  refine bnd_ind2 (P := fun q q' : SK × MM => Ov n0 q.1 q'.1) (fun K100 K100' e101 e101' => ?_)
  have oK100 : Ov n0 K100 K100' := by rw [e101, e101']; exact oK88.set ha0 oK79.1
  refine bnd_ind2 (P := fun q q' : SK × MM => Ov n0 q.1 q'.1) (fun K110 K110' e111 e111' => ?_)
  have oK110 : Ov n0 K110 K110' := by rw [e111, e111']; exact oK100.new
  refine bnd_ind2 (P := fun q q' : SK × MM => Ov n0 q.1 q'.1) (fun M121 M121' _ _ => ?_)
  refine bnd_ind2 (P := fun q q' : SK × MM => Ov n0 q.1 q'.1) (fun K123 K123' e124 e124' => ?_)
  have oK123 : Ov n0 K123 K123' := by rw [e124, e124']; exact oK110.set ha0 oK100.1
  refine bnd_ind2 (P := fun q q' : SK × MM => Ov n0 q.1 q'.1) (fun K134 K134' e135 e135' => ?_)
  have oK134 : Ov n0 K134 K134' := by rw [e135, e135']; exact oK123.new
  refine bnd_ind2 (P := fun q q' : SK × MM => Ov n0 q.1 q'.1) (fun M146 M146' _ _ => ?_)
  refine bnd_ind2 (P := fun q q' : SK × MM => Ov n0 q.1 q'.1) (fun K148 K148' e149 e149' => ?_)
  have oK148 : Ov n0 K148 K148' := by rw [e149, e149']; exact oK134.set ha0 oK123.1
  refine bnd_ind2 (P := fun q q' : SK × MM => Ov n0 q.1 q'.1) (fun K160 K160' e161 e161' => ?_)
  have oK160 : Ov n0 K160 K160' := by rw [e161, e161']; exact oK148.new
  refine bnd_ind2 (P := fun q q' : SK × MM => Ov n0 q.1 q'.1) (fun M173 M173' _ _ => ?_)
  refine bnd_ind2 (P := fun q q' : SK × MM => Ov n0 q.1 q'.1) (fun K175 K175' e176 e176' => ?_)
  have oK175 : Ov n0 K175 K175' := by rw [e176, e176']; exact oK160.set ha0 oK148.1
  exact oK175
set_option maxRecDepth 100000 in
theorem lkI_X0_init : LkI yX0_init cX0_init 1 0 := ⟨gw_of 422 rfl (by decide +kernel), gw_of 421 (by decide +kernel) (by decide +kernel), q_in2_X0, rfl, by decide +kernel, by decide +kernel, by decide +kernel⟩
theorem dX6_init_0 : decode cX6_init 0 = .ok (.aload_n 0, 1) := by decide +kernel
theorem dX6_init_1 : decode cX6_init 1 = .ok (.invokespecial 3, 3) := by decide +kernel
theorem dX6_init_4 : decode cX6_init 4 = .ok (.aload_n 0, 1) := by decide +kernel
theorem dX6_init_5 : decode cX6_init 5 = .ok (.aload_n 1, 1) := by decide +kernel
theorem dX6_init_6 : decode cX6_init 6 = .ok (.putfield 9, 3) := by decide +kernel
theorem dX6_init_9 : decode cX6_init 9 = .ok (.aload_n 0, 1) := by decide +kernel
theorem dX6_init_10 : decode cX6_init 10 = .ok (.bipush 8, 2) := by decide +kernel
theorem dX6_init_12 : decode cX6_init 12 = .ok (.newarray .int, 2) := by decide +kernel
theorem dX6_init_14 : decode cX6_init 14 = .ok (.putfield 15, 3) := by decide +kernel
theorem dX6_init_17 : decode cX6_init 17 = .ok (.aload_n 0, 1) := by decide +kernel
theorem dX6_init_18 : decode cX6_init 18 = .ok (.bipush 8, 2) := by decide +kernel
theorem dX6_init_20 : decode cX6_init 20 = .ok (.newarray .int, 2) := by decide +kernel
theorem dX6_init_22 : decode cX6_init 22 = .ok (.putfield 19, 3) := by decide +kernel
theorem dX6_init_25 : decode cX6_init 25 = .ok (.return_, 1) := by decide +kernel
set_option maxHeartbeats 4000000 in
set_option maxRecDepth 100000 in
theorem tX6_init (l : Launch) (G : GG) (K : SK) (M : MM) (a0 : Nat) (h0 : isC K a0 6 0) (a1 : Nat) (h1 : isC K a1 0 0) : Ct l yX6_init cX6_init 2 none 1 2 16 G K M [.ref (G.1 + a0), .ref (G.1 + a1)] none (kX6_init K M a0 a1).1 (kX6_init K M a0 a1).2 := by
  generalize hf : kX6_init K M a0 a1 = pp
  refine z_enter (lv := [(0, .ref (G.1 + a0)), (1, .ref (G.1 + a1))]) (by decide +kernel) (Nat.le_of_ble_eq_true rfl) rfl ?_
  intro p e s m args below meth c C hnm hs0
  replace C : CX p s m args meth c cX6_init 2 none RX6 G := C
  unfold kX6_init at hf
  refine z_aload_n C 0 0 dX6_init_0 rfl rfl ?_
  refine z_objInit C q_ml_X6_3 q_oi q_oc dX6_init_1 (Nat.le_of_ble_eq_true rfl) (Nat.le_of_ble_eq_true rfl) ?_
  refine z_aload_n C 0 0 dX6_init_4 rfl rfl ?_
  refine z_aload_n C 1 1 dX6_init_5 rfl rfl ?_
  refine z_putRF C ok_X6 h0 0 (by decide) rfl rfl hnm rfl rfl rfl q_fl_X6_9 dX6_init_6 ?_
  refine z_K (fun K1 e2 => ?_)
  replace hf := bnd_out e2 hf
  have i4 : isC K1 a0 6 0 := by rw [e2]; exact isC_set h0
  have i5 : isC K1 a1 0 0 := by rw [e2]; exact isC_set h1
  refine z_aload_n C 0 0 dX6_init_9 rfl rfl ?_
  refine z_bipush C 8 dX6_init_10 (by decide) ?_
  refine z_newai C 8 q_ac_i (by decide) (by decide) (by decide) (by decide) (by decide) dX6_init_12 ?_
  refine z_K (fun K6 e7 => ?_)
  replace hf := bnd_out e7 hf
  have i9 : isC K6 a0 6 0 := by rw [e7]; exact isC_new i4
  have i10 : isC K6 a1 0 0 := by rw [e7]; exact isC_new i5
  have i11 : isC K6 K1.1 20 8 := by rw [e7]; exact isC_new0
  refine z_M (fun M12 e13 => ?_)
  replace hf := bnd_out e13 hf
  refine z_putRF C ok_X6 i9 2 (by decide) rfl rfl hnm rfl rfl rfl q_fl_X6_15 dX6_init_14 ?_
  refine z_K (fun K14 e15 => ?_)
  replace hf := bnd_out e15 hf
  have i17 : isC K14 a0 6 0 := by rw [e15]; exact isC_set i9
  have i18 : isC K14 a1 0 0 := by rw [e15]; exact isC_set i10
  have i19 : isC K14 K1.1 20 8 := by rw [e15]; exact isC_set i11
  refine z_aload_n C 0 0 dX6_init_17 rfl rfl ?_
  refine z_bipush C 8 dX6_init_18 (by decide) ?_
  refine z_newai C 8 q_ac_i (by decide) (by decide) (by decide) (by decide) (by decide) dX6_init_20 ?_
  refine z_K (fun K20 e21 => ?_)
  replace hf := bnd_out e21 hf
  have i23 : isC K20 a0 6 0 := by rw [e21]; exact isC_new i17
  have i24 : isC K20 a1 0 0 := by rw [e21]; exact isC_new i18
  have i25 : isC K20 K1.1 20 8 := by rw [e21]; exact isC_new i19
  have i26 : isC K20 K14.1 20 8 := by rw [e21]; exact isC_new0
  refine z_M (fun M27 e28 => ?_)
  replace hf := bnd_out e28 hf
  refine z_putRF C ok_X6 i23 3 (by decide) rfl rfl hnm rfl rfl rfl q_fl_X6_19 dX6_init_22 ?_
  refine z_K (fun K29 e30 => ?_)
  replace hf := bnd_out e30 hf
  have i32 : isC K29 a0 6 0 := by rw [e30]; exact isC_set i23
  have i33 : isC K29 a1 0 0 := by rw [e30]; exact isC_set i24
  have i34 : isC K29 K1.1 20 8 := by rw [e30]; exact isC_set i25
  have i35 : isC K29 K14.1 20 8 := by rw [e30]; exact isC_set i26
  subst hf
  exact z_vret C rfl dX6_init_25
theorem keep_X6_init (K : SK) (M : MM) (a0 : Nat) (a1 : Nat) : Keep K (kX6_init K M a0 a1).1 a0 := by
  unfold kX6_init
  have k0 : Keep K K a0 := Keep.rfl
  refine bnd_ind (P := fun q : SK × MM => Keep K q.1 a0) (fun K1 e2 => ?_)
  have k3 : Keep K K1 a0 := by rw [e2]; exact k0.set (Or.inl rfl)
  refine bnd_ind (P := fun q : SK × MM => Keep K q.1 a0) (fun K6 e7 => ?_)
  have k8 : Keep K K6 a0 := by rw [e7]; exact k3.new
  refine bnd_ind (P := fun q : SK × MM => Keep K q.1 a0) (fun M12 e13 => ?_)
  refine bnd_ind (P := fun q : SK × MM => Keep K q.1 a0) (fun K14 e15 => ?_)
  have k16 : Keep K K14 a0 := by rw [e15]; exact k8.set (Or.inl rfl)
  refine bnd_ind (P := fun q : SK × MM => Keep K q.1 a0) (fun K20 e21 => ?_)
  have k22 : Keep K K20 a0 := by rw [e21]; exact k16.new
  refine bnd_ind (P := fun q : SK × MM => Keep K q.1 a0) (fun M27 e28 => ?_)
  refine bnd_ind (P := fun q : SK × MM => Keep K q.1 a0) (fun K29 e30 => ?_)
  have k31 : Keep K K29 a0 := by rw [e30]; exact k22.set (Or.inl rfl)
  exact k31
theorem ov_X6_init {n0 : Nat} {K K' : SK} {M M' : MM} {a0 a1 a0' a1' : Nat} (h : Ov n0 K K') (ha0 : a0' = n0 + a0) (ha1 : a1' = n0 + a1) : Ov n0 (kX6_init K M a0 a1).1 (kX6_init K' M' a0' a1').1 := by
  unfold kX6_init
  refine bnd_ind2 (P := fun q q' : SK × MM => Ov n0 q.1 q'.1) (fun K1 K1' e2 e2' => ?_)
  have oK1 : Ov n0 K1 K1' := by rw [e2, e2']; exact h.set ha0 ha1
  refine bnd_ind2 (P := fun q q' : SK × MM => Ov n0 q.1 q'.1) (fun K6 K6' e7 e7' => ?_)
  have oK6 : Ov n0 K6 K6' := by rw [e7, e7']; exact oK1.new
  refine bnd_ind2 (P := fun q q' : SK × MM => Ov n0 q.1 q'.1) (fun M12 M12' _ _ => ?_)
  refine bnd_ind2 (P := fun q q' : SK × MM => Ov n0 q.1 q'.1) (fun K14 K14' e15 e15' => ?_)
  have oK14 : Ov n0 K14 K14' := by rw [e15, e15']; exact oK6.set ha0 oK1.1
  refine bnd_ind2 (P := fun q q' : SK × MM => Ov n0 q.1 q'.1) (fun K20 K20' e21 e21' => ?_)
  have oK20 : Ov n0 K20 K20' := by rw [e21, e21']; exact oK14.new
  refine bnd_ind2 (P := fun q q' : SK × MM => Ov n0 q.1 q'.1) (fun M27 M27' _ _ => ?_)
  refine bnd_ind2 (P := fun q q' : SK × MM => Ov n0 q.1 q'.1) (fun K29 K29' e30 e30' => ?_)
  have oK29 : Ov n0 K29 K29' := by rw [e30, e30']; exact oK20.set ha0 oK14.1
  exact oK29
set_option maxRecDepth 100000 in
theorem lkI_X6_init : LkI yX6_init cX6_init 2 1 := ⟨gw_of 476 rfl (by decide +kernel), gw_of 475 (by decide +kernel) (by decide +kernel), q_in2_X6, rfl, by decide +kernel, by decide +kernel, by decide +kernel⟩
theorem dX1_init_0 : decode cX1_init 0 = .ok (.aload_n 0, 1) := by decide +kernel
theorem dX1_init_1 : decode cX1_init 1 = .ok (.invokespecial 3, 3) := by decide +kernel
theorem dX1_init_4 : decode cX1_init 4 = .ok (.aload_n 0, 1) := by decide +kernel
theorem dX1_init_5 : decode cX1_init 5 = .ok (.aload_n 1, 1) := by decide +kernel
theorem dX1_init_6 : decode cX1_init 6 = .ok (.putfield 9, 3) := by decide +kernel
theorem dX1_init_9 : decode cX1_init 9 = .ok (.aload_n 0, 1) := by decide +kernel
theorem dX1_init_10 : decode cX1_init 10 = .ok (.sipush 128, 3) := by decide +kernel
theorem dX1_init_13 : decode cX1_init 13 = .ok (.newarray .int, 2) := by decide +kernel
theorem dX1_init_15 : decode cX1_init 15 = .ok (.putfield 15, 3) := by decide +kernel
theorem dX1_init_18 : decode cX1_init 18 = .ok (.aload_n 0, 1) := by decide +kernel
theorem dX1_init_19 : decode cX1_init 19 = .ok (.iconst (-1), 1) := by decide +kernel
theorem dX1_init_20 : decode cX1_init 20 = .ok (.putfield 19, 3) := by decide +kernel
theorem dX1_init_23 : decode cX1_init 23 = .ok (.return_, 1) := by decide +kernel
set_option maxHeartbeats 4000000 in
set_option maxRecDepth 100000 in
theorem tX1_init (l : Launch) (G : GG) (K : SK) (M : MM) (a0 : Nat) (h0 : isC K a0 1 0) (a1 : Nat) (h1 : isC K a1 0 0) : Ct l yX1_init cX1_init 2 none 1 1 128 G K M [.ref (G.1 + a0), .ref (G.1 + a1)] none (kX1_init K M a0 a1).1 (kX1_init K M a0 a1).2 := by
  generalize hf : kX1_init K M a0 a1 = pp
  refine z_enter (lv := [(0, .ref (G.1 + a0)), (1, .ref (G.1 + a1))]) (by decide +kernel) (Nat.le_of_ble_eq_true rfl) rfl ?_
  intro p e s m args below meth c C hnm hs0
  replace C : CX p s m args meth c cX1_init 2 none RX1 G := C
  unfold kX1_init at hf
  refine z_aload_n C 0 0 dX1_init_0 rfl rfl ?_
  refine z_objInit C q_ml_X1_3 q_oi q_oc dX1_init_1 (Nat.le_of_ble_eq_true rfl) (Nat.le_of_ble_eq_true rfl) ?_
  refine z_aload_n C 0 0 dX1_init_4 rfl rfl ?_
  refine z_aload_n C 1 1 dX1_init_5 rfl rfl ?_
  refine z_putRF C ok_X1 h0 3 (by decide) rfl rfl hnm rfl rfl rfl q_fl_X1_9 dX1_init_6 ?_
  refine z_K (fun K1 e2 => ?_)
  replace hf := bnd_out e2 hf
  have i4 : isC K1 a0 1 0 := by rw [e2]; exact isC_set h0
  have i5 : isC K1 a1 0 0 := by rw [e2]; exact isC_set h1
  refine z_aload_n C 0 0 dX1_init_9 rfl rfl ?_
  refine z_sipush C 128 dX1_init_10 (by decide) ?_
  refine z_newai C 128 q_ac_i (by decide) (by decide) (by decide) (by decide) (by decide) dX1_init_13 ?_
  refine z_K (fun K6 e7 => ?_)
  replace hf := bnd_out e7 hf
  have i9 : isC K6 a0 1 0 := by rw [e7]; exact isC_new i4
  have i10 : isC K6 a1 0 0 := by rw [e7]; exact isC_new i5
  have i11 : isC K6 K1.1 20 128 := by rw [e7]; exact isC_new0
  refine z_M (fun M12 e13 => ?_)
  replace hf := bnd_out e13 hf
  refine z_putRF C ok_X1 i9 2 (by decide) rfl rfl hnm rfl rfl rfl q_fl_X1_15 dX1_init_15 ?_
  refine z_K (fun K14 e15 => ?_)
  replace hf := bnd_out e15 hf
  have i17 : isC K14 a0 1 0 := by rw [e15]; exact isC_set i9
  have i18 : isC K14 a1 0 0 := by rw [e15]; exact isC_set i10
  have i19 : isC K14 K1.1 20 128 := by rw [e15]; exact isC_set i11
  refine z_aload_n C 0 0 dX1_init_18 rfl rfl ?_
  refine z_iconst C (-1) dX1_init_19 (by decide) ?_
  refine z_putI C ok_X1 i17 1 (by decide) rfl rfl rfl rfl q_fl_X1_19 dX1_init_20 ?_
  refine z_M (fun M20 e21 => ?_)
  replace hf := bnd_out e21 hf
  subst hf
  exact z_vret C rfl dX1_init_23
theorem keep_X1_init (K : SK) (M : MM) (a0 : Nat) (a1 : Nat) : Keep K (kX1_init K M a0 a1).1 a0 := by
  unfold kX1_init
  have k0 : Keep K K a0 := Keep.rfl
  refine bnd_ind (P := fun q : SK × MM => Keep K q.1 a0) (fun K1 e2 => ?_)
  have k3 : Keep K K1 a0 := by rw [e2]; exact k0.set (Or.inl rfl)
  refine bnd_ind (P := fun q : SK × MM => Keep K q.1 a0) (fun K6 e7 => ?_)
  have k8 : Keep K K6 a0 := by rw [e7]; exact k3.new
  refine bnd_ind (P := fun q : SK × MM => Keep K q.1 a0) (fun M12 e13 => ?_)
  refine bnd_ind (P := fun q : SK × MM => Keep K q.1 a0) (fun K14 e15 => ?_)
  have k16 : Keep K K14 a0 := by rw [e15]; exact k8.set (Or.inl rfl)
  refine bnd_ind (P := fun q : SK × MM => Keep K q.1 a0) (fun M20 e21 => ?_)
  exact k16
theorem ov_X1_init {n0 : Nat} {K K' : SK} {M M' : MM} {a0 a1 a0' a1' : Nat} (h : Ov n0 K K') (ha0 : a0' = n0 + a0) (ha1 : a1' = n0 + a1) : Ov n0 (kX1_init K M a0 a1).1 (kX1_init K' M' a0' a1').1 := by
  unfold kX1_init
  refine bnd_ind2 (P := fun q q' : SK × MM => Ov n0 q.1 q'.1) (fun K1 K1' e2 e2' => ?_)
  have oK1 : Ov n0 K1 K1' := by rw [e2, e2']; exact h.set ha0 ha1
  refine bnd_ind2 (P := fun q q' : SK × MM => Ov n0 q.1 q'.1) (fun K6 K6' e7 e7' => ?_)
  have oK6 : Ov n0 K6 K6' := by rw [e7, e7']; exact oK1.new
  refine bnd_ind2 (P := fun q q' : SK × MM => Ov n0 q.1 q'.1) (fun M12 M12' _ _ => ?_)
  refine bnd_ind2 (P := fun q q' : SK × MM => Ov n0 q.1 q'.1) (fun K14 K14' e15 e15' => ?_)
  have oK14 : Ov n0 K14 K14' := by rw [e15, e15']; exact oK6.set ha0 oK1.1
  refine bnd_ind2 (P := fun q q' : SK × MM => Ov n0 q.1 q'.1) (fun M20 M20' _ _ => ?_)
  exact oK14
set_option maxRecDepth 100000 in
theorem lkI_X1_init : LkI yX1_init cX1_init 2 1 := ⟨gw_of 498 rfl (by decide +kernel), gw_of 497 (by decide +kernel) (by decide +kernel), q_in2_X1, rfl, by decide +kernel, by decide +kernel, by decide +kernel⟩
theorem dX10_init_0 : decode cX10_init 0 = .ok (.aload_n 0, 1) := by decide +kernel
theorem dX10_init_1 : decode cX10_init 1 = .ok (.invokespecial 3, 3) := by decide +kernel
theorem dX10_init_4 : decode cX10_init 4 = .ok (.aload_n 0, 1) := by decide +kernel
theorem dX10_init_5 : decode cX10_init 5 = .ok (.aload_n 1, 1) := by decide +kernel
theorem dX10_init_6 : decode cX10_init 6 = .ok (.putfield 9, 3) := by decide +kernel
theorem dX10_init_9 : decode cX10_init 9 = .ok (.aload_n 0, 1) := by decide +kernel
theorem dX10_init_10 : decode cX10_init 10 = .ok (.bipush 64, 2) := by decide +kernel
theorem dX10_init_12 : decode cX10_init 12 = .ok (.newarray .int, 2) := by decide +kernel
theorem dX10_init_14 : decode cX10_init 14 = .ok (.putfield 15, 3) := by decide +kernel
theorem dX10_init_17 : decode cX10_init 17 = .ok (.aload_n 0, 1) := by decide +kernel
theorem dX10_init_18 : decode cX10_init 18 = .ok (.bipush 64, 2) := by decide +kernel
theorem dX10_init_20 : decode cX10_init 20 = .ok (.newarray .int, 2) := by decide +kernel
theorem dX10_init_22 : decode cX10_init 22 = .ok (.putfield 19, 3) := by decide +kernel
theorem dX10_init_25 : decode cX10_init 25 = .ok (.aload_n 0, 1) := by decide +kernel
theorem dX10_init_26 : decode cX10_init 26 = .ok (.bipush 64, 2) := by decide +kernel
theorem dX10_init_28 : decode cX10_init 28 = .ok (.newarray .int, 2) := by decide +kernel
theorem dX10_init_30 : decode cX10_init 30 = .ok (.putfield 22, 3) := by decide +kernel
theorem dX10_init_33 : decode cX10_init 33 = .ok (.aload_n 0, 1) := by decide +kernel
theorem dX10_init_34 : decode cX10_init 34 = .ok (.sipush 2048, 3) := by decide +kernel
theorem dX10_init_37 : decode cX10_init 37 = .ok (.newarray .int, 2) := by decide +kernel
theorem dX10_init_39 : decode cX10_init 39 = .ok (.putfield 25, 3) := by decide +kernel
theorem dX10_init_42 : decode cX10_init 42 = .ok (.return_, 1) := by decide +kernel
set_option maxHeartbeats 4000000 in
set_option maxRecDepth 100000 in
theorem tX10_init (l : Launch) (G : GG) (K : SK) (M : MM) (a0 : Nat) (h0 : isC K a0 10 0) (a1 : Nat) (h1 : isC K a1 0 0) : Ct l yX10_init cX10_init 2 none 1 4 2240 G K M [.ref (G.1 + a0), .ref (G.1 + a1)] none (kX10_init K M a0 a1).1 (kX10_init K M a0 a1).2 := by
  generalize hf : kX10_init K M a0 a1 = pp
  refine z_enter (lv := [(0, .ref (G.1 + a0)), (1, .ref (G.1 + a1))]) (by decide +kernel) (Nat.le_of_ble_eq_true rfl) rfl ?_
  intro p e s m args below meth c C hnm hs0
  replace C : CX p s m args meth c cX10_init 2 none RX10 G := C
  unfold kX10_init at hf
  refine z_aload_n C 0 0 dX10_init_0 rfl rfl ?_
  refine z_objInit C q_ml_X10_3 q_oi q_oc dX10_init_1 (Nat.le_of_ble_eq_true rfl) (Nat.le_of_ble_eq_true rfl) ?_
  refine z_aload_n C 0 0 dX10_init_4 rfl rfl ?_
  refine z_aload_n C 1 1 dX10_init_5 rfl rfl ?_
  refine z_putRF C ok_X10 h0 1 (by decide) rfl rfl hnm rfl rfl rfl q_fl_X10_9 dX10_init_6 ?_
  refine z_K (fun K1 e2 => ?_)
  replace hf := bnd_out e2 hf
  have i4 : isC K1 a0 10 0 := by rw [e2]; exact isC_set h0
  have i5 : isC K1 a1 0 0 := by rw [e2]; exact isC_set h1
  refine z_aload_n C 0 0 dX10_init_9 rfl rfl ?_
  refine z_bipush C 64 dX10_init_10 (by decide) ?_
  refine z_newai C 64 q_ac_i (by decide) (by decide) (by decide) (by decide) (by decide) dX10_init_12 ?_
  refine z_K (fun K6 e7 => ?_)
  replace hf := bnd_out e7 hf
  have i9 : isC K6 a0 10 0 := by rw [e7]; exact isC_new i4
  have i10 : isC K6 a1 0 0 := by rw [e7]; exact isC_new i5
  have i11 : isC K6 K1.1 20 64 := by rw [e7]; exact isC_new0
  refine z_M (fun M12 e13 => ?_)
  replace hf := bnd_out e13 hf
  refine z_putRF C ok_X10 i9 0 (by decide) rfl rfl hnm rfl rfl rfl q_fl_X10_15 dX10_init_14 ?_
  refine z_K (fun K14 e15 => ?_)
  replace hf := bnd_out e15 hf
  have i17 : isC K14 a0 10 0 := by rw [e15]; exact isC_set i9
  have i18 : isC K14 a1 0 0 := by rw [e15]; exact isC_set i10
  have i19 : isC K14 K1.1 20 64 := by rw [e15]; exact isC_set i11
  refine z_aload_n C 0 0 dX10_init_17 rfl rfl ?_
  refine z_bipush C 64 dX10_init_18 (by decide) ?_
  refine z_newai C 64 q_ac_i (by decide) (by decide) (by decide) (by decide) (by decide) dX10_init_20 ?_
  refine z_K (fun K20 e21 => ?_)
  replace hf := bnd_out e21 hf
  have i23 : isC K20 a0 10 0 := by rw [e21]; exact isC_new i17
  have i24 : isC K20 a1 0 0 := by rw [e21]; exact isC_new i18
  have i25 : isC K20 K1.1 20 64 := by rw [e21]; exact isC_new i19
  have i26 : isC K20 K14.1 20 64 := by rw [e21]; exact isC_new0
  refine z_M (fun M27 e28 => ?_)
  replace hf := bnd_out e28 hf
  refine z_putRF C ok_X10 i23 2 (by decide) rfl rfl hnm rfl rfl rfl q_fl_X10_19 dX10_init_22 ?_
  refine z_K (fun K29 e30 => ?_)
  replace hf := bnd_out e30 hf
  have i32 : isC K29 a0 10 0 := by rw [e30]; exact isC_set i23
  have i33 : isC K29 a1 0 0 := by rw [e30]; exact isC_set i24
  have i34 : isC K29 K1.1 20 64 := by rw [e30]; exact isC_set i25
  have i35 : isC K29 K14.1 20 64 := by rw [e30]; exact isC_set i26
  refine z_aload_n C 0 0 dX10_init_25 rfl rfl ?_
  refine z_bipush C 64 dX10_init_26 (by decide) ?_
  refine z_newai C 64 q_ac_i (by decide) (by decide) (by decide) (by decide) (by decide) dX10_init_28 ?_
  refine z_K (fun K36 e37 => ?_)
  replace hf := bnd_out e37 hf
  have i39 : isC K36 a0 10 0 := by rw [e37]; exact isC_new i32
  have i40 : isC K36 a1 0 0 := by rw [e37]; exact isC_new i33
  have i41 : isC K36 K1.1 20 64 := by rw [e37]; exact isC_new i34
  have i42 : isC K36 K14.1 20 64 := by rw [e37]; exact isC_new i35
  have i43 : isC K36 K29.1 20 64 := by rw [e37]; exact isC_new0
  refine z_M (fun M44 e45 => ?_)
  replace hf := bnd_out e45 hf
  refine z_putRF C ok_X10 i39 3 (by decide) rfl rfl hnm rfl rfl rfl q_fl_X10_22 dX10_init_30 ?_
  refine z_K (fun K46 e47 => ?_)
  replace hf := bnd_out e47 hf
  have i49 : isC K46 a0 10 0 := by rw [e47]; exact isC_set i39
  have i50 : isC K46 a1 0 0 := by rw [e47]; exact isC_set i40
  have i51 : isC K46 K1.1 20 64 := by rw [e47]; exact isC_set i41
  have i52 : isC K46 K14.1 20 64 := by rw [e47]; exact isC_set i42
  have i53 : isC K46 K29.1 20 64 := by rw [e47]; exact isC_set i43
  refine z_aload_n C 0 0 dX10_init_33 rfl rfl ?_
  refine z_sipush C 2048 dX10_init_34 (by decide) ?_
  refine z_newai C 2048 q_ac_i (by decide) (by decide) (by decide) (by decide) (by decide) dX10_init_37 ?_
  refine z_K (fun K54 e55 => ?_)
  replace hf := bnd_out e55 hf
  have i57 : isC K54 a0 10 0 := by rw [e55]; exact isC_new i49
  have i58 : isC K54 a1 0 0 := by rw [e55]; exact isC_new i50
  have i59 : isC K54 K1.1 20 64 := by rw [e55]; exact isC_new i51
  have i60 : isC K54 K14.1 20 64 := by rw [e55]; exact isC_new i52
  have i61 : isC K54 K29.1 20 64 := by rw [e55]; exact isC_new i53
  have i62 : isC K54 K46.1 20 2048 := by rw [e55]; exact isC_new0
  refine z_M (fun M63 e64 => ?_)
  replace hf := bnd_out e64 hf
  refine z_putRF C ok_X10 i57 4 (by decide) rfl rfl hnm rfl rfl rfl q_fl_X10_25 dX10_init_39 ?_
  refine z_K (fun K65 e66 => ?_)
  replace hf := bnd_out e66 hf
  have i68 : isC K65 a0 10 0 := by rw [e66]; exact isC_set i57
  have i69 : isC K65 a1 0 0 := by rw [e66]; exact isC_set i58
  have i70 : isC K65 K1.1 20 64 := by rw [e66]; exact isC_set i59
  have i71 : isC K65 K14.1 20 64 := by rw [e66]; exact isC_set i60
  have i72 : isC K65 K29.1 20 64 := by rw [e66]; exact isC_set i61
  have i73 : isC K65 K46.1 20 2048 := by rw [e66]; exact isC_set i62
  subst hf
  exact z_vret C rfl dX10_init_42
theorem keep_X10_init (K : SK) (M : MM) (a0 : Nat) (a1 : Nat) : Keep K (kX10_init K M a0 a1).1 a0 := by
  unfold kX10_init
  have k0 : Keep K K a0 := Keep.rfl
  refine bnd_ind (P := fun q : SK × MM => Keep K q.1 a0) (fun K1 e2 => ?_)
  have k3 : Keep K K1 a0 := by rw [e2]; exact k0.set (Or.inl rfl)
  refine bnd_ind (P := fun q : SK × MM => Keep K q.1 a0) (fun K6 e7 => ?_)
  have k8 : Keep K K6 a0 := by rw [e7]; exact k3.new
  refine bnd_ind (P := fun q : SK × MM => Keep K q.1 a0) (fun M12 e13 => ?_)
  refine bnd_ind (P := fun q : SK × MM => Keep K q.1 a0) (fun K14 e15 => ?_)
  have k16 : Keep K K14 a0 := by rw [e15]; exact k8.set (Or.inl rfl)
  refine bnd_ind (P := fun q : SK × MM => Keep K q.1 a0) (fun K20 e21 => ?_)
  have k22 : Keep K K20 a0 := by rw [e21]; exact k16.new
  refine bnd_ind (P := fun q : SK × MM => Keep K q.1 a0) (fun M27 e28 => ?_)
  refine bnd_ind (P := fun q : SK × MM => Keep K q.1 a0) (fun K29 e30 => ?_)
  have k31 : Keep K K29 a0 := by rw [e30]; exact k22.set (Or.inl rfl)
  refine bnd_ind (P := fun q : SK × MM => Keep K q.1 a0) (fun K36 e37 => ?_)
  have k38 : Keep K K36 a0 := by rw [e37]; exact k31.new
  refine bnd_ind (P := fun q : SK × MM => Keep K q.1 a0) (fun M44 e45 => ?_)
  refine bnd_ind (P := fun q : SK × MM => Keep K q.1 a0) (fun K46 e47 => ?_)
  have k48 : Keep K K46 a0 := by rw [e47]; exact k38.set (Or.inl rfl)
  refine bnd_ind (P := fun q : SK × MM => Keep K q.1 a0) (fun K54 e55 => ?_)
  have k56 : Keep K K54 a0 := by rw [e55]; exact k48.new
  refine bnd_ind (P := fun q : SK × MM => Keep K q.1 a0) (fun M63 e64 => ?_)
  refine bnd_ind (P := fun q : SK × MM => Keep K q.1 a0) (fun K65 e66 => ?_)
  have k67 : Keep K K65 a0 := by rw [e66]; exact k56.set (Or.inl rfl)
  exact k67
theorem ov_X10_init {n0 : Nat} {K K' : SK} {M M' : MM} {a0 a1 a0' a1' : Nat} (h : Ov n0 K K') (ha0 : a0' = n0 + a0) (ha1 : a1' = n0 + a1) : Ov n0 (kX10_init K M a0 a1).1 (kX10_init K' M' a0' a1').1 := by
  unfold kX10_init
  refine bnd_ind2 (P := fun q q' : SK × MM => Ov n0 q.1 q'.1) (fun K1 K1' e2 e2' => ?_)
  have oK1 : Ov n0 K1 K1' := by rw [e2, e2']; exact h.set ha0 ha1
  refine bnd_ind2 (P := fun q q' : SK × MM => Ov n0 q.1 q'.1) (fun K6 K6' e7 e7' => ?_)
  have oK6 : Ov n0 K6 K6' := by rw [e7, e7']; exact oK1.new
  refine bnd_ind2 (P := fun q q' : SK × MM => Ov n0 q.1 q'.1) (fun M12 M12' _ _ => ?_)
  refine bnd_ind2 (P := fun q q' : SK × MM => Ov n0 q.1 q'.1) (fun K14 K14' e15 e15' => ?_)
  have oK14 : Ov n0 K14 K14' := by rw [e15, e15']; exact oK6.set ha0 oK1.1
  refine bnd_ind2 (P := fun q q' : SK × MM => Ov n0 q.1 q'.1) (fun K20 K20' e21 e21' => ?_)
  have oK20 : Ov n0 K20 K20' := by rw [e21, e21']; exact oK14.new
  refine bnd_ind2 (P := fun q q' : SK × MM => Ov n0 q.1 q'.1) (fun M27 M27' _ _ => ?_)
  refine bnd_ind2 (P := fun q q' : SK × MM => Ov n0 q.1 q'.1) (fun K29 K29' e30 e30' => ?_)
  have oK29 : Ov n0 K29 K29' := by rw [e30, e30']; exact oK20.set ha0 oK14.1
  refine bnd_ind2 (P := fun q q' : SK × MM => Ov n0 q.1 q'.1) (fun K36 K36' e37 e37' => ?_)
  have oK36 : Ov n0 K36 K36' := by rw [e37, e37']; exact oK29.new
  refine bnd_ind2 (P := fun q q' : SK × MM => Ov n0 q.1 q'.1) (fun M44 M44' _ _ => ?_)
  refine bnd_ind2 (P := fun q q' : SK × MM => Ov n0 q.1 q'.1) (fun K46 K46' e47 e47' => ?_)
  have oK46 : Ov n0 K46 K46' := by rw [e47, e47']; exact oK36.set ha0 oK29.1
  refine bnd_ind2 (P := fun q q' : SK × MM => Ov n0 q.1 q'.1) (fun K54 K54' e55 e55' => ?_)
  have oK54 : Ov n0 K54 K54' := by rw [e55, e55']; exact oK46.new
  refine bnd_ind2 (P := fun q q' : SK × MM => Ov n0 q.1 q'.1) (fun M63 M63' _ _ => ?_)
  refine bnd_ind2 (P := fun q q' : SK × MM => Ov n0 q.1 q'.1) (fun K65 K65' e66 e66' => ?_)
  have oK65 : Ov n0 K65 K65' := by rw [e66, e66']; exact oK54.set ha0 oK46.1
  exact oK65
set_option maxRecDepth 100000 in
theorem lkI_X10_init : LkI yX10_init cX10_init 2 1 := ⟨gw_of 519 rfl (by decide +kernel), gw_of 518 (by decide +kernel) (by decide +kernel), q_in2_X10, rfl, by decide +kernel, by decide +kernel, by decide +kernel⟩
theorem dX3_init_0 : decode cX3_init 0 = .ok (.aload_n 0, 1) := by decide +kernel
theorem dX3_init_1 : decode cX3_init 1 = .ok (.invokespecial 3, 3) := by decide +kernel
theorem dX3_init_4 : decode cX3_init 4 = .ok (.aload_n 0, 1) := by decide +kernel
theorem dX3_init_5 : decode cX3_init 5 = .ok (.aload_n 1, 1) := by decide +kernel
theorem dX3_init_6 : decode cX3_init 6 = .ok (.putfield 9, 3) := by decide +kernel
theorem dX3_init_9 : decode cX3_init 9 = .ok (.aload_n 0, 1) := by decide +kernel
theorem dX3_init_10 : decode cX3_init 10 = .ok (.bipush 80, 2) := by decide +kernel
theorem dX3_init_12 : decode cX3_init 12 = .ok (.newarray .int, 2) := by decide +kernel
theorem dX3_init_14 : decode cX3_init 14 = .ok (.putfield 15, 3) := by decide +kernel
theorem dX3_init_17 : decode cX3_init 17 = .ok (.return_, 1) := by decide +kernel
set_option maxHeartbeats 4000000 in
set_option maxRecDepth 100000 in
theorem tX3_init (l : Launch) (G : GG) (K : SK) (M : MM) (a0 : Nat) (h0 : isC K a0 3 0) (a1 : Nat) (h1 : isC K a1 0 0) : Ct l yX3_init cX3_init 2 none 1 1 80 G K M [.ref (G.1 + a0), .ref (G.1 + a1)] none (kX3_init K M a0 a1).1 (kX3_init K M a0 a1).2 := by
  generalize hf : kX3_init K M a0 a1 = pp
  refine z_enter (lv := [(0, .ref (G.1 + a0)), (1, .ref (G.1 + a1))]) (by decide +kernel) (Nat.le_of_ble_eq_true rfl) rfl ?_
  intro p e s m args below meth c C hnm hs0
  replace C : CX p s m args meth c cX3_init 2 none RX3 G := C
  unfold kX3_init at hf
  refine z_aload_n C 0 0 dX3_init_0 rfl rfl ?_
  refine z_objInit C q_ml_X3_3 q_oi q_oc dX3_init_1 (Nat.le_of_ble_eq_true rfl) (Nat.le_of_ble_eq_true rfl) ?_
  refine z_aload_n C 0 0 dX3_init_4 rfl rfl ?_
  refine z_aload_n C 1 1 dX3_init_5 rfl rfl ?_
  refine z_putRF C ok_X3 h0 0 (by decide) rfl rfl hnm rfl rfl rfl q_fl_X3_9 dX3_init_6 ?_
  refine z_K (fun K1 e2 => ?_)
  replace hf := bnd_out e2 hf
  have i4 : isC K1 a0 3 0 := by rw [e2]; exact isC_set h0
  have i5 : isC K1 a1 0 0 := by rw [e2]; exact isC_set h1
  refine z_aload_n C 0 0 dX3_init_9 rfl rfl ?_
  refine z_bipush C 80 dX3_init_10 (by decide) ?_
  refine z_newai C 80 q_ac_i (by decide) (by decide) (by decide) (by decide) (by decide) dX3_init_12 ?_
  refine z_K (fun K6 e7 => ?_)
  replace hf := bnd_out e7 hf
  have i9 : isC K6 a0 3 0 := by rw [e7]; exact isC_new i4
  have i10 : isC K6 a1 0 0 := by rw [e7]; exact isC_new i5
  have i11 : isC K6 K1.1 20 80 := by rw [e7]; exact isC_new0
  refine z_M (fun M12 e13 => ?_)
  replace hf := bnd_out e13 hf
  refine z_putRF C ok_X3 i9 6 (by decide) rfl rfl hnm rfl rfl rfl q_fl_X3_15 dX3_init_14 ?_
  refine z_K (fun K14 e15 => ?_)
  replace hf := bnd_out e15 hf
  have i17 : isC K14 a0 3 0 := by rw [e15]; exact isC_set i9
  have i18 : isC K14 a1 0 0 := by rw [e15]; exact isC_set i10
  have i19 : isC K14 K1.1 20 80 := by rw [e15]; exact isC_set i11
  subst hf
  exact z_vret C rfl dX3_init_17
theorem keep_X3_init (K : SK) (M : MM) (a0 : Nat) (a1 : Nat) : Keep K (kX3_init K M a0 a1).1 a0 := by
  unfold kX3_init
  have k0 : Keep K K a0 := Keep.rfl
  refine bnd_ind (P := fun q : SK × MM => Keep K q.1 a0) (fun K1 e2 => ?_)
  have k3 : Keep K K1 a0 := by rw [e2]; exact k0.set (Or.inl rfl)
  refine bnd_ind (P := fun q : SK × MM => Keep K q.1 a0) (fun K6 e7 => ?_)
  have k8 : Keep K K6 a0 := by rw [e7]; exact k3.new
  refine bnd_ind (P := fun q : SK × MM => Keep K q.1 a0) (fun M12 e13 => ?_)
  refine bnd_ind (P := fun q : SK × MM => Keep K q.1 a0) (fun K14 e15 => ?_)
  have k16 : Keep K K14 a0 := by rw [e15]; exact k8.set (Or.inl rfl)
  exact k16
theorem ov_X3_init {n0 : Nat} {K K' : SK} {M M' : MM} {a0 a1 a0' a1' : Nat} (h : Ov n0 K K') (ha0 : a0' = n0 + a0) (ha1 : a1' = n0 + a1) : Ov n0 (kX3_init K M a0 a1).1 (kX3_init K' M' a0' a1').1 := by
  unfold kX3_init
  refine bnd_ind2 (P := fun q q' : SK × MM => Ov n0 q.1 q'.1) (fun K1 K1' e2 e2' => ?_)
  have oK1 : Ov n0 K1 K1' := by rw [e2, e2']; exact h.set ha0 ha1
  refine bnd_ind2 (P := fun q q' : SK × MM => Ov n0 q.1 q'.1) (fun K6 K6' e7 e7' => ?_)
  have oK6 : Ov n0 K6 K6' := by rw [e7, e7']; exact oK1.new
  refine bnd_ind2 (P := fun q q' : SK × MM => Ov n0 q.1 q'.1) (fun M12 M12' _ _ => ?_)
  refine bnd_ind2 (P := fun q q' : SK × MM => Ov n0 q.1 q'.1) (fun K14 K14' e15 e15' => ?_)
  have oK14 : Ov n0 K14 K14' := by rw [e15, e15']; exact oK6.set ha0 oK1.1
  exact oK14
set_option maxRecDepth 100000 in
theorem lkI_X3_init : LkI yX3_init cX3_init 2 1 := ⟨gw_of 542 rfl (by decide +kernel), gw_of 541 (by decide +kernel) (by decide +kernel), q_in2_X3, rfl, by decide +kernel, by decide +kernel, by decide +kernel⟩
theorem dX11_init_0 : decode cX11_init 0 = .ok (.aload_n 0, 1) := by decide +kernel
theorem dX11_init_1 : decode cX11_init 1 = .ok (.invokespecial 1, 3) := by decide +kernel
theorem dX11_init_4 : decode cX11_init 4 = .ok (.aload_n 0, 1) := by decide +kernel
theorem dX11_init_5 : decode cX11_init 5 = .ok (.new 7, 3) := by decide +kernel
theorem dX11_init_8 : decode cX11_init 8 = .ok (.dup, 1) := by decide +kernel
theorem dX11_init_9 : decode cX11_init 9 = .ok (.invokespecial 9, 3) := by decide +kernel
theorem dX11_init_12 : decode cX11_init 12 = .ok (.putfield 10, 3) := by decide +kernel
theorem dX11_init_15 : decode cX11_init 15 = .ok (.aload_n 0, 1) := by decide +kernel
theorem dX11_init_16 : decode cX11_init 16 = .ok (.iconst 3, 1) := by decide +kernel
theorem dX11_init_17 : decode cX11_init 17 = .ok (.anewarray 7, 3) := by decide +kernel
theorem dX11_init_20 : decode cX11_init 20 = .ok (.putfield 16, 3) := by decide +kernel
theorem dX11_init_23 : decode cX11_init 23 = .ok (.aload_n 0, 1) := by decide +kernel
theorem dX11_init_24 : decode cX11_init 24 = .ok (.new 20, 3) := by decide +kernel
theorem dX11_init_27 : decode cX11_init 27 = .ok (.dup, 1) := by decide +kernel
theorem dX11_init_28 : decode cX11_init 28 = .ok (.invokespecial 22, 3) := by decide +kernel
theorem dX11_init_31 : decode cX11_init 31 = .ok (.putfield 23, 3) := by decide +kernel
theorem dX11_init_34 : decode cX11_init 34 = .ok (.aload_n 0, 1) := by decide +kernel
theorem dX11_init_35 : decode cX11_init 35 = .ok (.new 27, 3) := by decide +kernel
theorem dX11_init_38 : decode cX11_init 38 = .ok (.dup, 1) := by decide +kernel
theorem dX11_init_39 : decode cX11_init 39 = .ok (.invokespecial 29, 3) := by decide +kernel
theorem dX11_init_42 : decode cX11_init 42 = .ok (.putfield 30, 3) := by decide +kernel
theorem dX11_init_45 : decode cX11_init 45 = .ok (.aload_n 0, 1) := by decide +kernel
theorem dX11_init_46 : decode cX11_init 46 = .ok (.new 34, 3) := by decide +kernel
theorem dX11_init_49 : decode cX11_init 49 = .ok (.dup, 1) := by decide +kernel
theorem dX11_init_50 : decode cX11_init 50 = .ok (.aload_n 0, 1) := by decide +kernel
theorem dX11_init_51 : decode cX11_init 51 = .ok (.getfield 30, 3) := by decide +kernel
theorem dX11_init_54 : decode cX11_init 54 = .ok (.invokespecial 36, 3) := by decide +kernel
theorem dX11_init_57 : decode cX11_init 57 = .ok (.putfield 39, 3) := by decide +kernel
theorem dX11_init_60 : decode cX11_init 60 = .ok (.aload_n 0, 1) := by decide +kernel
theorem dX11_init_61 : decode cX11_init 61 = .ok (.new 43, 3) := by decide +kernel
theorem dX11_init_64 : decode cX11_init 64 = .ok (.dup, 1) := by decide +kernel
theorem dX11_init_65 : decode cX11_init 65 = .ok (.aload_n 0, 1) := by decide +kernel
theorem dX11_init_66 : decode cX11_init 66 = .ok (.getfield 30, 3) := by decide +kernel
theorem dX11_init_69 : decode cX11_init 69 = .ok (.invokespecial 45, 3) := by decide +kernel
theorem dX11_init_72 : decode cX11_init 72 = .ok (.putfield 46, 3) := by decide +kernel
theorem dX11_init_75 : decode cX11_init 75 = .ok (.aload_n 0, 1) := by decide +kernel
theorem dX11_init_76 : decode cX11_init 76 = .ok (.new 50, 3) := by decide +kernel
theorem dX11_init_79 : decode cX11_init 79 = .ok (.dup, 1) := by decide +kernel
theorem dX11_init_80 : decode cX11_init 80 = .ok (.aload_n 0, 1) := by decide +kernel
theorem dX11_init_81 : decode cX11_init 81 = .ok (.getfield 30, 3) := by decide +kernel
theorem dX11_init_84 : decode cX11_init 84 = .ok (.invokespecial 52, 3) := by decide +kernel
theorem dX11_init_87 : decode cX11_init 87 = .ok (.putfield 53, 3) := by decide +kernel
theorem dX11_init_90 : decode cX11_init 90 = .ok (.aload_n 0, 1) := by decide +kernel
theorem dX11_init_91 : decode cX11_init 91 = .ok (.new 57, 3) := by decide +kernel
theorem dX11_init_94 : decode cX11_init 94 = .ok (.dup, 1) := by decide +kernel
theorem dX11_init_95 : decode cX11_init 95 = .ok (.aload_n 0, 1) := by decide +kernel
theorem dX11_init_96 : decode cX11_init 96 = .ok (.getfield 30, 3) := by decide +kernel
theorem dX11_init_99 : decode cX11_init 99 = .ok (.invokespecial 59, 3) := by decide +kernel
theorem dX11_init_102 : decode cX11_init 102 = .ok (.putfield 60, 3) := by decide +kernel
theorem dX11_init_105 : decode cX11_init 105 = .ok (.return_, 1) := by decide +kernel
set_option maxHeartbeats 4000000 in
set_option maxRecDepth 100000 in
theorem tX11_init (l : Launch) (G : GG) (K : SK) (M : MM) (a0 : Nat) (h0 : isC K a0 11 0) : Ct l yX11_init cX11_init 1 none 3 89 4651 G K M [.ref (G.1 + a0)] none (kX11_init K M a0).1 (kX11_init K M a0).2 := by
  generalize hf : kX11_init K M a0 = pp
  refine z_enter (lv := [(0, .ref (G.1 + a0))]) (by decide +kernel) (Nat.le_of_ble_eq_true rfl) rfl ?_
  intro p e s m args below meth c C hnm hs0
  replace C : CX p s m args meth c cX11_init 1 none RX11 G := C
  unfold kX11_init at hf
  refine z_aload_n C 0 0 dX11_init_0 rfl rfl ?_
  refine z_objInit C q_ml_X11_1 q_oi q_oc dX11_init_1 (Nat.le_of_ble_eq_true rfl) (Nat.le_of_ble_eq_true rfl) ?_
  refine z_aload_n C 0 0 dX11_init_4 rfl rfl ?_
  refine z_new C ok_X9 q_cl_X11_7 q_is_X9 q_in2_X9 df_X9 (by decide) (by decide) dX11_init_5 ?_
  refine z_K (fun K1 e2 => ?_)
  replace hf := bnd_out e2 hf
  have i4 : isC K1 a0 11 0 := by rw [e2]; exact isC_new h0
  have i5 : isC K1 K.1 9 0 := by rw [e2]; exact isC_new0
  refine z_M (fun M6 e7 => ?_)
  replace hf := bnd_out e7 hf
  refine z_dup C rfl dX11_init_8 ?_
  refine z_callI C [.ref (G.1 + K.1), .ref (G.1 + a0)] (tX9_init l G K1 M6 K.1 i5) lkI_X9_init q_ml_X11_9 rfl ⟨Nat.le_of_ble_eq_true rfl, Nat.le_of_ble_eq_true rfl⟩ rfl (Nat.le_of_ble_eq_true rfl) ⟨by decide, by decide⟩ dX11_init_9 ?_
  refine z_K (fun K8 e9 => ?_)
  replace hf := bnd_out e9 hf
  have i11 : isC K8 a0 11 0 := by rw [e9]; exact (keep_X9_init K1 M6 K.1).cell i4
  have i12 : isC K8 K.1 9 0 := by rw [e9]; exact (keep_X9_init K1 M6 K.1).cell i5
  refine z_M (fun M13 e14 => ?_)
  replace hf := bnd_out e14 hf
  refine z_putRF C ok_X11 i11 0 (by decide) rfl rfl hnm rfl rfl rfl q_fl_X11_10 dX11_init_12 ?_
  refine z_K (fun K15 e16 => ?_)
  replace hf := bnd_out e16 hf
  have i18 : isC K15 a0 11 0 := by rw [e16]; exact isC_set i11
  have i19 : isC K15 K.1 9 0 := by rw [e16]; exact isC_set i12
  refine z_aload_n C 0 0 dX11_init_15 rfl rfl ?_
  refine z_iconst C 3 dX11_init_16 (by decide) ?_
  refine z_anewa C 28 8 RX9 3 q_cl_X11_7 (List.mem_of_getElem? (i := 4) rfl) (by decide) rfl (by decide) (by decide) (by decide) (by decide) (by decide) dX11_init_17 ?_
  refine z_K (fun K20 e21 => ?_)
  replace hf := bnd_out e21 hf
  have i23 : isC K20 a0 11 0 := by rw [e21]; exact isC_new i18
  have i24 : isC K20 K.1 9 0 := by rw [e21]; exact isC_new i19
  have i25 : isC K20 K15.1 28 3 := by rw [e21]; exact isC_new0
  refine z_M (fun M26 e27 => ?_)
  replace hf := bnd_out e27 hf
  refine z_putRF C ok_X11 i23 1 (by decide) rfl rfl hnm rfl rfl rfl q_fl_X11_16 dX11_init_20 ?_
  refine z_K (fun K28 e29 => ?_)
  replace hf := bnd_out e29 hf
  have i31 : isC K28 a0 11 0 := by rw [e29]; exact isC_set i23
  have i32 : isC K28 K.1 9 0 := by rw [e29]; exact isC_set i24
  have i33 : isC K28 K15.1 28 3 := by rw [e29]; exact isC_set i25
  refine z_aload_n C 0 0 dX11_init_23 rfl rfl ?_
  refine z_new C ok_X7 q_cl_X11_20 q_is_X7 q_in2_X7 df_X7 (by decide) (by decide) dX11_init_24 ?_
  refine z_K (fun K34 e35 => ?_)
  replace hf := bnd_out e35 hf
  have i37 : isC K34 a0 11 0 := by rw [e35]; exact isC_new i31
  have i38 : isC K34 K.1 9 0 := by rw [e35]; exact isC_new i32
  have i39 : isC K34 K15.1 28 3 := by rw [e35]; exact isC_new i33
  have i40 : isC K34 K28.1 7 0 := by rw [e35]; exact isC_new0
  refine z_M (fun M41 e42 => ?_)
  replace hf := bnd_out e42 hf
  refine z_dup C rfl dX11_init_27 ?_
  refine z_callI C [.ref (G.1 + K28.1), .ref (G.1 + a0)] (tX7_init l G K34 M41 K28.1 i40) lkI_X7_init q_ml_X11_22 rfl ⟨Nat.le_of_ble_eq_true rfl, Nat.le_of_ble_eq_true rfl⟩ rfl (Nat.le_of_ble_eq_true rfl) ⟨by decide, by decide⟩ dX11_init_28 ?_
  refine z_K (fun K43 e44 => ?_)
  replace hf := bnd_out e44 hf
  have i46 : isC K43 a0 11 0 := by rw [e44]; exact (keep_X7_init K34 M41 K28.1).cell i37
  have i47 : isC K43 K.1 9 0 := by rw [e44]; exact (keep_X7_init K34 M41 K28.1).cell i38
  have i48 : isC K43 K15.1 28 3 := by rw [e44]; exact (keep_X7_init K34 M41 K28.1).cell i39
  have i49 : isC K43 K28.1 7 0 := by rw [e44]; exact (keep_X7_init K34 M41 K28.1).cell i40
  refine z_M (fun M50 e51 => ?_)
  replace hf := bnd_out e51 hf
  refine z_putRF C ok_X11 i46 2 (by decide) rfl rfl hnm rfl rfl rfl q_fl_X11_23 dX11_init_31 ?_
  refine z_K (fun K52 e53 => ?_)
  replace hf := bnd_out e53 hf
  have i55 : isC K52 a0 11 0 := by rw [e53]; exact isC_set i46
  have i56 : isC K52 K.1 9 0 := by rw [e53]; exact isC_set i47
  have i57 : isC K52 K15.1 28 3 := by rw [e53]; exact isC_set i48
  have i58 : isC K52 K28.1 7 0 := by rw [e53]; exact isC_set i49
  refine z_aload_n C 0 0 dX11_init_34 rfl rfl ?_
  refine z_new C ok_X0 q_cl_X11_27 q_is_X0 q_in2_X0 df_X0 (by decide) (by decide) dX11_init_35 ?_
  refine z_K (fun K59 e60 => ?_)
  replace hf := bnd_out e60 hf
  have i62 : isC K59 a0 11 0 := by rw [e60]; exact isC_new i55
  have i63 : isC K59 K.1 9 0 := by rw [e60]; exact isC_new i56
  have i64 : isC K59 K15.1 28 3 := by rw [e60]; exact isC_new i57
  have i65 : isC K59 K28.1 7 0 := by rw [e60]; exact isC_new i58
  have i66 : isC K59 K52.1 0 0 := by rw [e60]; exact isC_new0
  refine z_M (fun M67 e68 => ?_)
  replace hf := bnd_out e68 hf
  refine z_dup C rfl dX11_init_38 ?_
  refine z_callI C [.ref (G.1 + K52.1), .ref (G.1 + a0)] (tX0_init l G K59 M67 K52.1 i66) lkI_X0_init q_ml_X11_29 rfl ⟨Nat.le_of_ble_eq_true rfl, Nat.le_of_ble_eq_true rfl⟩ rfl (Nat.le_of_ble_eq_true rfl) ⟨by decide, by decide⟩ dX11_init_39 ?_
  refine z_K (fun K69 e70 => ?_)
  replace hf := bnd_out e70 hf
  have i72 : isC K69 a0 11 0 := by rw [e70]; exact (keep_X0_init K59 M67 K52.1).cell i62
  have i73 : isC K69 K.1 9 0 := by rw [e70]; exact (keep_X0_init K59 M67 K52.1).cell i63
  have i74 : isC K69 K15.1 28 3 := by rw [e70]; exact (keep_X0_init K59 M67 K52.1).cell i64
  have i75 : isC K69 K28.1 7 0 := by rw [e70]; exact (keep_X0_init K59 M67 K52.1).cell i65
  have i76 : isC K69 K52.1 0 0 := by rw [e70]; exact (keep_X0_init K59 M67 K52.1).cell i66
  refine z_M (fun M77 e78 => ?_)
  replace hf := bnd_out e78 hf
  refine z_putRF C ok_X11 i72 3 (by decide) rfl rfl hnm rfl rfl rfl q_fl_X11_30 dX11_init_42 ?_
  refine z_K (fun K79 e80 => ?_)
  replace hf := bnd_out e80 hf
  have i82 : isC K79 a0 11 0 := by rw [e80]; exact isC_set i72
  have i83 : isC K79 K.1 9 0 := by rw [e80]; exact isC_set i73
  have i84 : isC K79 K15.1 28 3 := by rw [e80]; exact isC_set i74
  have i85 : isC K79 K28.1 7 0 := by rw [e80]; exact isC_set i75
  have i86 : isC K79 K52.1 0 0 := by rw [e80]; exact isC_set i76
  have r87 : K79.2.2 a0 3 = some K52.1 := by rw [e80]; exact ref_set_eq
  refine z_aload_n C 0 0 dX11_init_45 rfl rfl ?_
  refine z_new C ok_X6 q_cl_X11_34 q_is_X6 q_in2_X6 df_X6 (by decide) (by decide) dX11_init_46 ?_
  refine z_K (fun K88 e89 => ?_)
  replace hf := bnd_out e89 hf
  have i91 : isC K88 a0 11 0 := by rw [e89]; exact isC_new i82
  have i92 : isC K88 K.1 9 0 := by rw [e89]; exact isC_new i83
  have i93 : isC K88 K15.1 28 3 := by rw [e89]; exact isC_new i84
  have i94 : isC K88 K28.1 7 0 := by rw [e89]; exact isC_new i85
  have i95 : isC K88 K52.1 0 0 := by rw [e89]; exact isC_new i86
  have r96 : K88.2.2 a0 3 = some K52.1 := by rw [e89]; exact ref_new i82 r87
  have i97 : isC K88 K79.1 6 0 := by rw [e89]; exact isC_new0
  refine z_M (fun M98 e99 => ?_)
  replace hf := bnd_out e99 hf
  refine z_dup C rfl dX11_init_49 ?_
  refine z_aload_n C 0 0 dX11_init_50 rfl rfl ?_
  refine z_getR C ok_X11 i91 3 K52.1 (by decide) rfl r96 q_fl_X11_30 dX11_init_51 ?_
  refine z_callI C [.ref (G.1 + K79.1), .ref (G.1 + a0)] (tX6_init l G K88 M98 K79.1 i97 K52.1 i95) lkI_X6_init q_ml_X11_36 rfl ⟨Nat.le_of_ble_eq_true rfl, Nat.le_of_ble_eq_true rfl⟩ rfl (Nat.le_of_ble_eq_true rfl) ⟨by decide, by decide⟩ dX11_init_54 ?_
  refine z_K (fun K100 e101 => ?_)
  replace hf := bnd_out e101 hf
  have i103 : isC K100 a0 11 0 := by rw [e101]; exact (keep_X6_init K88 M98 K79.1 K52.1).cell i91
  have i104 : isC K100 K.1 9 0 := by rw [e101]; exact (keep_X6_init K88 M98 K79.1 K52.1).cell i92
  have i105 : isC K100 K15.1 28 3 := by rw [e101]; exact (keep_X6_init K88 M98 K79.1 K52.1).cell i93
  have i106 : isC K100 K28.1 7 0 := by rw [e101]; exact (keep_X6_init K88 M98 K79.1 K52.1).cell i94
  have i107 : isC K100 K52.1 0 0 := by rw [e101]; exact (keep_X6_init K88 M98 K79.1 K52.1).cell i95
  have i108 : isC K100 K79.1 6 0 := by rw [e101]; exact (keep_X6_init K88 M98 K79.1 K52.1).cell i97
  have r109 : K100.2.2 a0 3 = some K52.1 := by rw [e101]; exact (keep_X6_init K88 M98 K79.1 K52.1).rf i91 (isC_ne i91 i97 (by decide)) r96
  refine z_M (fun M110 e111 => ?_)
  replace hf := bnd_out e111 hf
  refine z_putRF C ok_X11 i103 4 (by decide) rfl rfl hnm rfl rfl rfl q_fl_X11_39 dX11_init_57 ?_
  refine z_K (fun K112 e113 => ?_)
  replace hf := bnd_out e113 hf
  have i115 : isC K112 a0 11 0 := by rw [e113]; exact isC_set i103
  have i116 : isC K112 K.1 9 0 := by rw [e113]; exact isC_set i104
  have i117 : isC K112 K15.1 28 3 := by rw [e113]; exact isC_set i105
  have i118 : isC K112 K28.1 7 0 := by rw [e113]; exact isC_set i106
  have i119 : isC K112 K52.1 0 0 := by rw [e113]; exact isC_set i107
  have i120 : isC K112 K79.1 6 0 := by rw [e113]; exact isC_set i108
  have r121 : K112.2.2 a0 3 = some K52.1 := by rw [e113]; exact ref_set_ne (by decide) r109
  refine z_aload_n C 0 0 dX11_init_60 rfl rfl ?_
  refine z_new C ok_X1 q_cl_X11_43 q_is_X1 q_in2_X1 df_X1 (by decide) (by decide) dX11_init_61 ?_
  refine z_K (fun K122 e123 => ?_)
  replace hf := bnd_out e123 hf
  have i125 : isC K122 a0 11 0 := by rw [e123]; exact isC_new i115
  have i126 : isC K122 K.1 9 0 := by rw [e123]; exact isC_new i116
  have i127 : isC K122 K15.1 28 3 := by rw [e123]; exact isC_new i117
  have i128 : isC K122 K28.1 7 0 := by rw [e123]; exact isC_new i118
  have i129 : isC K122 K52.1 0 0 := by rw [e123]; exact isC_new i119
  have i130 : isC K122 K79.1 6 0 := by rw [e123]; exact isC_new i120
  have r131 : K122.2.2 a0 3 = some K52.1 := by rw [e123]; exact ref_new i115 r121
  have i132 : isC K122 K112.1 1 0 := by rw [e123]; exact isC_new0
  refine z_M (fun M133 e134 => ?_)
  replace hf := bnd_out e134 hf
  refine z_dup C rfl dX11_init_64 ?_
  refine z_aload_n C 0 0 dX11_init_65 rfl rfl ?_
  refine z_getR C ok_X11 i125 3 K52.1 (by decide) rfl r131 q_fl_X11_30 dX11_init_66 ?_
  refine z_callI C [.ref (G.1 + K112.1), .ref (G.1 + a0)] (tX1_init l G K122 M133 K112.1 i132 K52.1 i129) lkI_X1_init q_ml_X11_45 rfl ⟨Nat.le_of_ble_eq_true rfl, Nat.le_of_ble_eq_true rfl⟩ rfl (Nat.le_of_ble_eq_true rfl) ⟨by decide, by decide⟩ dX11_init_69 ?_
  refine z_K (fun K135 e136 => ?_)
  replace hf := bnd_out e136 hf
  have i138 : isC K135 a0 11 0 := by rw [e136]; exact (keep_X1_init K122 M133 K112.1 K52.1).cell i125
  have i139 : isC K135 K.1 9 0 := by rw [e136]; exact (keep_X1_init K122 M133 K112.1 K52.1).cell i126
  have i140 : isC K135 K15.1 28 3 := by rw [e136]; exact (keep_X1_init K122 M133 K112.1 K52.1).cell i127
  have i141 : isC K135 K28.1 7 0 := by rw [e136]; exact (keep_X1_init K122 M133 K112.1 K52.1).cell i128
  have i142 : isC K135 K52.1 0 0 := by rw [e136]; exact (keep_X1_init K122 M133 K112.1 K52.1).cell i129
  have i143 : isC K135 K79.1 6 0 := by rw [e136]; exact (keep_X1_init K122 M133 K112.1 K52.1).cell i130
  have i144 : isC K135 K112.1 1 0 := by rw [e136]; exact (keep_X1_init K122 M133 K112.1 K52.1).cell i132
  have r145 : K135.2.2 a0 3 = some K52.1 := by rw [e136]; exact (keep_X1_init K122 M133 K112.1 K52.1).rf i125 (isC_ne i125 i132 (by decide)) r131
  refine z_M (fun M146 e147 => ?_)
  replace hf := bnd_out e147 hf
  refine z_putRF C ok_X11 i138 5 (by decide) rfl rfl hnm rfl rfl rfl q_fl_X11_46 dX11_init_72 ?_
  refine z_K (fun K148 e149 => ?_)
  replace hf := bnd_out e149 hf
  have i151 : isC K148 a0 11 0 := by rw [e149]; exact isC_set i138
  have i152 : isC K148 K.1 9 0 := by rw [e149]; exact isC_set i139
  have i153 : isC K148 K15.1 28 3 := by rw [e149]; exact isC_set i140
  have i154 : isC K148 K28.1 7 0 := by rw [e149]; exact isC_set i141
  have i155 : isC K148 K52.1 0 0 := by rw [e149]; exact isC_set i142
  have i156 : isC K148 K79.1 6 0 := by rw [e149]; exact isC_set i143
  have i157 : isC K148 K112.1 1 0 := by rw [e149]; exact isC_set i144
  have r158 : K148.2.2 a0 3 = some K52.1 := by rw [e149]; exact ref_set_ne (by decide) r145
  refine z_aload_n C 0 0 dX11_init_75 rfl rfl ?_
  refine z_new C ok_X10 q_cl_X11_50 q_is_X10 q_in2_X10 df_X10 (by decide) (by decide) dX11_init_76 ?_
  refine z_K (fun K159 e160 => ?_)
  replace hf := bnd_out e160 hf
  have i162 : isC K159 a0 11 0 := by rw [e160]; exact isC_new i151
  have i163 : isC K159 K.1 9 0 := by rw [e160]; exact isC_new i152
  have i164 : isC K159 K15.1 28 3 := by rw [e160]; exact isC_new i153
  have i165 : isC K159 K28.1 7 0 := by rw [e160]; exact isC_new i154
  have i166 : isC K159 K52.1 0 0 := by rw [e160]; exact isC_new i155
  have i167 : isC K159 K79.1 6 0 := by rw [e160]; exact isC_new i156
  have i168 : isC K159 K112.1 1 0 := by rw [e160]; exact isC_new i157
  have r169 : K159.2.2 a0 3 = some K52.1 := by rw [e160]; exact ref_new i151 r158
  have i170 : isC K159 K148.1 10 0 := by rw [e160]; exact isC_new0
  refine z_M (fun M171 e172 => ?_)
  replace hf := bnd_out e172 hf
  refine z_dup C rfl dX11_init_79 ?_
  refine z_aload_n C 0 0 dX11_init_80 rfl rfl ?_
  refine z_getR C ok_X11 i162 3 K52.1 (by decide) rfl r169 q_fl_X11_30 dX11_init_81 ?_
  refine z_callI C [.ref (G.1 + K148.1), .ref (G.1 + a0)] (tX10_init l G K159 M171 K148.1 i170 K52.1 i166) lkI_X10_init q_ml_X11_52 rfl ⟨Nat.le_of_ble_eq_true rfl, Nat.le_of_ble_eq_true rfl⟩ rfl (Nat.le_of_ble_eq_true rfl) ⟨by decide, by decide⟩ dX11_init_84 ?_
  refine z_K (fun K173 e174 => ?_)
  replace hf := bnd_out e174 hf
  have i176 : isC K173 a0 11 0 := by rw [e174]; exact (keep_X10_init K159 M171 K148.1 K52.1).cell i162
  have i177 : isC K173 K.1 9 0 := by rw [e174]; exact (keep_X10_init K159 M171 K148.1 K52.1).cell i163
  have i178 : isC K173 K15.1 28 3 := by rw [e174]; exact (keep_X10_init K159 M171 K148.1 K52.1).cell i164
  have i179 : isC K173 K28.1 7 0 := by rw [e174]; exact (keep_X10_init K159 M171 K148.1 K52.1).cell i165
  have i180 : isC K173 K52.1 0 0 := by rw [e174]; exact (keep_X10_init K159 M171 K148.1 K52.1).cell i166
  have i181 : isC K173 K79.1 6 0 := by rw [e174]; exact (keep_X10_init K159 M171 K148.1 K52.1).cell i167
  have i182 : isC K173 K112.1 1 0 := by rw [e174]; exact (keep_X10_init K159 M171 K148.1 K52.1).cell i168
  have i183 : isC K173 K148.1 10 0 := by rw [e174]; exact (keep_X10_init K159 M171 K148.1 K52.1).cell i170
  have r184 : K173.2.2 a0 3 = some K52.1 := by rw [e174]; exact (keep_X10_init K159 M171 K148.1 K52.1).rf i162 (isC_ne i162 i170 (by decide)) r169
  refine z_M (fun M185 e186 => ?_)
  replace hf := bnd_out e186 hf
  refine z_putRF C ok_X11 i176 6 (by decide) rfl rfl hnm rfl rfl rfl q_fl_X11_53 dX11_init_87 ?_
  refine z_K (fun K187 e188 => ?_)
  replace hf := bnd_out e188 hf
  have i190 : isC K187 a0 11 0 := by rw [e188]; exact isC_set i176
  have i191 : isC K187 K.1 9 0 := by rw [e188]; exact isC_set i177
  have i192 : isC K187 K15.1 28 3 := by rw [e188]; exact isC_set i178
  have i193 : isC K187 K28.1 7 0 := by rw [e188]; exact isC_set i179
  have i194 : isC K187 K52.1 0 0 := by rw [e188]; exact isC_set i180
  have i195 : isC K187 K79.1 6 0 := by rw [e188]; exact isC_set i181
  have i196 : isC K187 K112.1 1 0 := by rw [e188]; exact isC_set i182
  have i197 : isC K187 K148.1 10 0 := by rw [e188]; exact isC_set i183
  have r198 : K187.2.2 a0 3 = some K52.1 := by rw [e188]; exact ref_set_ne (by decide) r184
  refine z_aload_n C 0 0 dX11_init_90 rfl rfl ?_
  refine z_new C ok_X3 q_cl_X11_57 q_is_X3 q_in2_X3 df_X3 (by decide) (by decide) dX11_init_91 ?_
  refine z_K (fun K199 e200 => ?_)
  replace hf := bnd_out e200 hf
  have i202 : isC K199 a0 11 0 := by rw [e200]; exact isC_new i190
  have i203 : isC K199 K.1 9 0 := by rw [e200]; exact isC_new i191
  have i204 : isC K199 K15.1 28 3 := by rw [e200]; exact isC_new i192
  have i205 : isC K199 K28.1 7 0 := by rw [e200]; exact isC_new i193
  have i206 : isC K199 K52.1 0 0 := by rw [e200]; exact isC_new i194
  have i207 : isC K199 K79.1 6 0 := by rw [e200]; exact isC_new i195
  have i208 : isC K199 K112.1 1 0 := by rw [e200]; exact isC_new i196
  have i209 : isC K199 K148.1 10 0 := by rw [e200]; exact isC_new i197
  have r210 : K199.2.2 a0 3 = some K52.1 := by rw [e200]; exact ref_new i190 r198
  have i211 : isC K199 K187.1 3 0 := by rw [e200]; exact isC_new0
  refine z_M (fun M212 e213 => ?_)
  replace hf := bnd_out e213 hf
  refine z_dup C rfl dX11_init_94 ?_
  refine z_aload_n C 0 0 dX11_init_95 rfl rfl ?_
  refine z_getR C ok_X11 i202 3 K52.1 (by decide) rfl r210 q_fl_X11_30 dX11_init_96 ?_
  refine z_callI C [.ref (G.1 + K187.1), .ref (G.1 + a0)] (tX3_init l G K199 M212 K187.1 i211 K52.1 i206) lkI_X3_init q_ml_X11_59 rfl ⟨Nat.le_of_ble_eq_true rfl, Nat.le_of_ble_eq_true rfl⟩ rfl (Nat.le_of_ble_eq_true rfl) ⟨by decide, by decide⟩ dX11_init_99 ?_
  refine z_K (fun K214 e215 => ?_)
  replace hf := bnd_out e215 hf
  have i217 : isC K214 a0 11 0 := by rw [e215]; exact (keep_X3_init K199 M212 K187.1 K52.1).cell i202
  have i218 : isC K214 K.1 9 0 := by rw [e215]; exact (keep_X3_init K199 M212 K187.1 K52.1).cell i203
  have i219 : isC K214 K15.1 28 3 := by rw [e215]; exact (keep_X3_init K199 M212 K187.1 K52.1).cell i204
  have i220 : isC K214 K28.1 7 0 := by rw [e215]; exact (keep_X3_init K199 M212 K187.1 K52.1).cell i205
  have i221 : isC K214 K52.1 0 0 := by rw [e215]; exact (keep_X3_init K199 M212 K187.1 K52.1).cell i206
  have i222 : isC K214 K79.1 6 0 := by rw [e215]; exact (keep_X3_init K199 M212 K187.1 K52.1).cell i207
  have i223 : isC K214 K112.1 1 0 := by rw [e215]; exact (keep_X3_init K199 M212 K187.1 K52.1).cell i208
  have i224 : isC K214 K148.1 10 0 := by rw [e215]; exact (keep_X3_init K199 M212 K187.1 K52.1).cell i209
  have i225 : isC K214 K187.1 3 0 := by rw [e215]; exact (keep_X3_init K199 M212 K187.1 K52.1).cell i211
  have r226 : K214.2.2 a0 3 = some K52.1 := by rw [e215]; exact (keep_X3_init K199 M212 K187.1 K52.1).rf i202 (isC_ne i202 i211 (by decide)) r210
  refine z_M (fun M227 e228 => ?_)
  replace hf := bnd_out e228 hf
  refine z_putRF C ok_X11 i217 7 (by decide) rfl rfl hnm rfl rfl rfl q_fl_X11_60 dX11_init_102 ?_
  refine z_K (fun K229 e230 => ?_)
  replace hf := bnd_out e230 hf
  have i232 : isC K229 a0 11 0 := by rw [e230]; exact isC_set i217
  have i233 : isC K229 K.1 9 0 := by rw [e230]; exact isC_set i218
  have i234 : isC K229 K15.1 28 3 := by rw [e230]; exact isC_set i219
  have i235 : isC K229 K28.1 7 0 := by rw [e230]; exact isC_set i220
  have i236 : isC K229 K52.1 0 0 := by rw [e230]; exact isC_set i221
  have i237 : isC K229 K79.1 6 0 := by rw [e230]; exact isC_set i222
  have i238 : isC K229 K112.1 1 0 := by rw [e230]; exact isC_set i223
  have i239 : isC K229 K148.1 10 0 := by rw [e230]; exact isC_set i224
  have i240 : isC K229 K187.1 3 0 := by rw [e230]; exact isC_set i225
  have r241 : K229.2.2 a0 3 = some K52.1 := by rw [e230]; exact ref_set_ne (by decide) r226
  subst hf
  exact z_vret C rfl dX11_init_105
theorem keep_X11_init (K : SK) (M : MM) (a0 : Nat) : Keep K (kX11_init K M a0).1 a0 := by
  unfold kX11_init
  have k0 : Keep K K a0 := Keep.rfl
  refine bnd_ind (P := fun q : SK × MM => Keep K q.1 a0) (fun K1 e2 => ?_)
  have k3 : Keep K K1 a0 := by rw [e2]; exact k0.new
  refine bnd_ind (P := fun q : SK × MM => Keep K q.1 a0) (fun M6 e7 => ?_)
  refine bnd_ind (P := fun q : SK × MM => Keep K q.1 a0) (fun K8 e9 => ?_)
  have k10 : Keep K K8 a0 := by rw [e9]; exact k3.sub (keep_X9_init K1 M6 K.1) (Or.inr k0.1)
  refine bnd_ind (P := fun q : SK × MM => Keep K q.1 a0) (fun M13 e14 => ?_)
  refine bnd_ind (P := fun q : SK × MM => Keep K q.1 a0) (fun K15 e16 => ?_)
  have k17 : Keep K K15 a0 := by rw [e16]; exact k10.set (Or.inl rfl)
  refine bnd_ind (P := fun q : SK × MM => Keep K q.1 a0) (fun K20 e21 => ?_)
  have k22 : Keep K K20 a0 := by rw [e21]; exact k17.new
  refine bnd_ind (P := fun q : SK × MM => Keep K q.1 a0) (fun M26 e27 => ?_)
  refine bnd_ind (P := fun q : SK × MM => Keep K q.1 a0) (fun K28 e29 => ?_)
  have k30 : Keep K K28 a0 := by rw [e29]; exact k22.set (Or.inl rfl)
  refine bnd_ind (P := fun q : SK × MM => Keep K q.1 a0) (fun K34 e35 => ?_)
  have k36 : Keep K K34 a0 := by rw [e35]; exact k30.new
  refine bnd_ind (P := fun q : SK × MM => Keep K q.1 a0) (fun M41 e42 => ?_)
  refine bnd_ind (P := fun q : SK × MM => Keep K q.1 a0) (fun K43 e44 => ?_)
  have k45 : Keep K K43 a0 := by rw [e44]; exact k36.sub (keep_X7_init K34 M41 K28.1) (Or.inr k30.1)
  refine bnd_ind (P := fun q : SK × MM => Keep K q.1 a0) (fun M50 e51 => ?_)
  refine bnd_ind (P := fun q : SK × MM => Keep K q.1 a0) (fun K52 e53 => ?_)
  have k54 : Keep K K52 a0 := by rw [e53]; exact k45.set (Or.inl rfl)
  refine bnd_ind (P := fun q : SK × MM => Keep K q.1 a0) (fun K59 e60 => ?_)
  have k61 : Keep K K59 a0 := by rw [e60]; exact k54.new
  refine bnd_ind (P := fun q : SK × MM => Keep K q.1 a0) (fun M67 e68 => ?_)
  refine bnd_ind (P := fun q : SK × MM => Keep K q.1 a0) (fun K69 e70 => ?_)
  have k71 : Keep K K69 a0 := by rw [e70]; exact k61.sub (keep_X0_init K59 M67 K52.1) (Or.inr k54.1)
  refine bnd_ind (P := fun q : SK × MM => Keep K q.1 a0) (fun M77 e78 => ?_)
  refine bnd_ind (P := fun q : SK × MM => Keep K q.1 a0) (fun K79 e80 => ?_)
  have k81 : Keep K K79 a0 := by rw [e80]; exact k71.set (Or.inl rfl)
  refine bnd_ind (P := fun q : SK × MM => Keep K q.1 a0) (fun K88 e89 => ?_)
  have k90 : Keep K K88 a0 := by rw [e89]; exact k81.new
  refine bnd_ind (P := fun q : SK × MM => Keep K q.1 a0) (fun M98 e99 => ?_)
  refine bnd_ind (P := fun q : SK × MM => Keep K q.1 a0) (fun K100 e101 => ?_)
  have k102 : Keep K K100 a0 := by rw [e101]; exact k90.sub (keep_X6_init K88 M98 K79.1 K52.1) (Or.inr k81.1)
  refine bnd_ind (P := fun q : SK × MM => Keep K q.1 a0) (fun M110 e111 => ?_)
  refine bnd_ind (P := fun q : SK × MM => Keep K q.1 a0) (fun K112 e113 => ?_)
  have k114 : Keep K K112 a0 := by rw [e113]; exact k102.set (Or.inl rfl)
  refine bnd_ind (P := fun q : SK × MM => Keep K q.1 a0) (fun K122 e123 => ?_)
  have k124 : Keep K K122 a0 := by rw [e123]; exact k114.new
  refine bnd_ind (P := fun q : SK × MM => Keep K q.1 a0) (fun M133 e134 => ?_)
  refine bnd_ind (P := fun q : SK × MM => Keep K q.1 a0) (fun K135 e136 => ?_)
  have k137 : Keep K K135 a0 := by rw [e136]; exact k124.sub (keep_X1_init K122 M133 K112.1 K52.1) (Or.inr k114.1)
  refine bnd_ind (P := fun q : SK × MM => Keep K q.1 a0) (fun M146 e147 => ?_)
  refine bnd_ind (P := fun q : SK × MM => Keep K q.1 a0) (fun K148 e149 => ?_)
  have k150 : Keep K K148 a0 := by rw [e149]; exact k137.set (Or.inl rfl)
  refine bnd_ind (P := fun q : SK × MM => Keep K q.1 a0) (fun K159 e160 => ?_)
  have k161 : Keep K K159 a0 := by rw [e160]; exact k150.new
  refine bnd_ind (P := fun q : SK × MM => Keep K q.1 a0) (fun M171 e172 => ?_)
  refine bnd_ind (P := fun q : SK × MM => Keep K q.1 a0) (fun K173 e174 => ?_)
  have k175 : Keep K K173 a0 := by rw [e174]; exact k161.sub (keep_X10_init K159 M171 K148.1 K52.1) (Or.inr k150.1)
  refine bnd_ind (P := fun q : SK × MM => Keep K q.1 a0) (fun M185 e186 => ?_)
  refine bnd_ind (P := fun q : SK × MM => Keep K q.1 a0) (fun K187 e188 => ?_)
  have k189 : Keep K K187 a0 := by rw [e188]; exact k175.set (Or.inl rfl)
  refine bnd_ind (P := fun q : SK × MM => Keep K q.1 a0) (fun K199 e200 => ?_)
  have k201 : Keep K K199 a0 := by rw [e200]; exact k189.new
  refine bnd_ind (P := fun q : SK × MM => Keep K q.1 a0) (fun M212 e213 => ?_)
  refine bnd_ind (P := fun q : SK × MM => Keep K q.1 a0) (fun K214 e215 => ?_)
  have k216 : Keep K K214 a0 := by rw [e215]; exact k201.sub (keep_X3_init K199 M212 K187.1 K52.1) (Or.inr k189.1)
  refine bnd_ind (P := fun q : SK × MM => Keep K q.1 a0) (fun M227 e228 => ?_)
  refine bnd_ind (P := fun q : SK × MM => Keep K q.1 a0) (fun K229 e230 => ?_)
  have k231 : Keep K K229 a0 := by rw [e230]; exact k216.set (Or.inl rfl)
  exact k231
theorem ov_X11_init {n0 : Nat} {K K' : SK} {M M' : MM} {a0 a0' : Nat} (h : Ov n0 K K') (ha0 : a0' = n0 + a0) : Ov n0 (kX11_init K M a0).1 (kX11_init K' M' a0').1 := by
  unfold kX11_init
  refine bnd_ind2 (P := fun q q' : SK × MM => Ov n0 q.1 q'.1) (fun K1 K1' e2 e2' => ?_)
  have oK1 : Ov n0 K1 K1' := by rw [e2, e2']; exact h.new
  refine bnd_ind2 (P := fun q q' : SK × MM => Ov n0 q.1 q'.1) (fun M6 M6' _ _ => ?_)
  refine bnd_ind2 (P := fun q q' : SK × MM => Ov n0 q.1 q'.1) (fun K8 K8' e9 e9' => ?_)
  have oK8 : Ov n0 K8 K8' := by rw [e9, e9']; exact ov_X9_init oK1 h.1
  refine bnd_ind2 (P := fun q q' : SK × MM => Ov n0 q.1 q'.1) (fun M13 M13' _ _ => ?_)
  refine bnd_ind2 (P := fun q q' : SK × MM => Ov n0 q.1 q'.1) (fun K15 K15' e16 e16' => ?_)
  have oK15 : Ov n0 K15 K15' := by rw [e16, e16']; exact oK8.set ha0 h.1
  refine bnd_ind2 (P := fun q q' : SK × MM => Ov n0 q.1 q'.1) (fun K20 K20' e21 e21' => ?_)
  have oK20 : Ov n0 K20 K20' := by rw [e21, e21']; exact oK15.new
  refine bnd_ind2 (P := fun q q' : SK × MM => Ov n0 q.1 q'.1) (fun M26 M26' _ _ => ?_)
  refine bnd_ind2 (P := fun q q' : SK × MM => Ov n0 q.1 q'.1) (fun K28 K28' e29 e29' => ?_)
  have oK28 : Ov n0 K28 K28' := by rw [e29, e29']; exact oK20.set ha0 oK15.1
  refine bnd_ind2 (P := fun q q' : SK × MM => Ov n0 q.1 q'.1) (fun K34 K34' e35 e35' => ?_)
  have oK34 : Ov n0 K34 K34' := by rw [e35, e35']; exact oK28.new
  refine bnd_ind2 (P := fun q q' : SK × MM => Ov n0 q.1 q'.1) (fun M41 M41' _ _ => ?_)
  refine bnd_ind2 (P := fun q q' : SK × MM => Ov n0 q.1 q'.1) (fun K43 K43' e44 e44' => ?_)
  have oK43 : Ov n0 K43 K43' := by rw [e44, e44']; exact ov_X7_init oK34 oK28.1
  refine bnd_ind2 (P := fun q q' : SK × MM => Ov n0 q.1 q'.1) (fun M50 M50' _ _ => ?_)
  refine bnd_ind2 (P := fun q q' : SK × MM => Ov n0 q.1 q'.1) (fun K52 K52' e53 e53' => ?_)
  have oK52 : Ov n0 K52 K52' := by rw [e53, e53']; exact oK43.set ha0 oK28.1
  refine bnd_ind2 (P := fun q q' : SK × MM => Ov n0 q.1 q'.1) (fun K59 K59' e60 e60' => ?_)
  have oK59 : Ov n0 K59 K59' := by rw [e60, e60']; exact oK52.new
  refine bnd_ind2 (P := fun q q' : SK × MM => Ov n0 q.1 q'.1) (fun M67 M67' _ _ => ?_)
  refine bnd_ind2 (P := fun q q' : SK × MM => Ov n0 q.1 q'.1) (fun K69 K69' e70 e70' => ?_)
  have oK69 : Ov n0 K69 K69' := by rw [e70, e70']; exact ov_X0_init oK59 oK52.1
  refine bnd_ind2 (P := fun q q' : SK × MM => Ov n0 q.1 q'.1) (fun M77 M77' _ _ => ?_)
  refine bnd_ind2 (P := fun q q' : SK × MM => Ov n0 q.1 q'.1) (fun K79 K79' e80 e80' => ?_)
  have oK79 : Ov n0 K79 K79' := by rw [e80, e80']; exact oK69.set ha0 oK52.1
  refine bnd_ind2 (P := fun q q' : SK × MM => Ov n0 q.1 q'.1) (fun K88 K88' e89 e89' => ?_)
  have oK88 : Ov n0 K88 K88' := by rw [e89, e89']; exact oK79.new
  refine bnd_ind2 (P := fun q q' : SK × MM => Ov n0 q.1 q'.1) (fun M98 M98' _ _ => ?_)
  refine bnd_ind2 (P := fun q q' : SK × MM => Ov n0 q.1 q'.1) (fun K100 K100' e101 e101' => ?_)
  have oK100 : Ov n0 K100 K100' := by rw [e101, e101']; exact ov_X6_init oK88 oK79.1 oK52.1
  refine bnd_ind2 (P := fun q q' : SK × MM => Ov n0 q.1 q'.1) (fun M110 M110' _ _ => ?_)
  refine bnd_ind2 (P := fun q q' : SK × MM => Ov n0 q.1 q'.1) (fun K112 K112' e113 e113' => ?_)
  have oK112 : Ov n0 K112 K112' := by rw [e113, e113']; exact oK100.set ha0 oK79.1
  refine bnd_ind2 (P := fun q q' : SK × MM => Ov n0 q.1 q'.1) (fun K122 K122' e123 e123' => ?_)
  have oK122 : Ov n0 K122 K122' := by rw [e123, e123']; exact oK112.new
  refine bnd_ind2 (P := fun q q' : SK × MM => Ov n0 q.1 q'.1) (fun M133 M133' _ _ => ?_)
  refine bnd_ind2 (P := fun q q' : SK × MM => Ov n0 q.1 q'.1) (fun K135 K135' e136 e136' => ?_)
  have oK135 : Ov n0 K135 K135' := by rw [e136, e136']; exact ov_X1_init oK122 oK112.1 oK52.1
  refine bnd_ind2 (P := fun q q' : SK × MM => Ov n0 q.1 q'.1) (fun M146 M146' _ _ => ?_)
  refine bnd_ind2 (P := fun q q' : SK × MM => Ov n0 q.1 q'.1) (fun K148 K148' e149 e149' => ?_)
  have oK148 : Ov n0 K148 K148' := by rw [e149, e149']; exact oK135.set ha0 oK112.1
  refine bnd_ind2 (P := fun q q' : SK × MM => Ov n0 q.1 q'.1) (fun K159 K159' e160 e160' => ?_)
  have oK159 : Ov n0 K159 K159' := by rw [e160, e160']; exact oK148.new
  refine bnd_ind2 (P := fun q q' : SK × MM => Ov n0 q.1 q'.1) (fun M171 M171' _ _ => ?_)
  refine bnd_ind2 (P := fun q q' : SK × MM => Ov n0 q.1 q'.1) (fun K173 K173' e174 e174' => ?_)
  have oK173 : Ov n0 K173 K173' := by rw [e174, e174']; exact ov_X10_init oK159 oK148.1 oK52.1
  refine bnd_ind2 (P := fun q q' : SK × MM => Ov n0 q.1 q'.1) (fun M185 M185' _ _ => ?_)
  refine bnd_ind2 (P := fun q q' : SK × MM => Ov n0 q.1 q'.1) (fun K187 K187' e188 e188' => ?_)
  have oK187 : Ov n0 K187 K187' := by rw [e188, e188']; exact oK173.set ha0 oK148.1
  refine bnd_ind2 (P := fun q q' : SK × MM => Ov n0 q.1 q'.1) (fun K199 K199' e200 e200' => ?_)
  have oK199 : Ov n0 K199 K199' := by rw [e200, e200']; exact oK187.new
  refine bnd_ind2 (P := fun q q' : SK × MM => Ov n0 q.1 q'.1) (fun M212 M212' _ _ => ?_)
  refine bnd_ind2 (P := fun q q' : SK × MM => Ov n0 q.1 q'.1) (fun K214 K214' e215 e215' => ?_)
  have oK214 : Ov n0 K214 K214' := by rw [e215, e215']; exact ov_X3_init oK199 oK187.1 oK52.1
  refine bnd_ind2 (P := fun q q' : SK × MM => Ov n0 q.1 q'.1) (fun M227 M227' _ _ => ?_)
  refine bnd_ind2 (P := fun q q' : SK × MM => Ov n0 q.1 q'.1) (fun K229 K229' e230 e230' => ?_)
  have oK229 : Ov n0 K229 K229' := by rw [e230, e230']; exact oK214.set ha0 oK187.1
  exact oK229
set_option maxRecDepth 100000 in
theorem lkI_X11_init : LkI yX11_init cX11_init 1 0 := ⟨gw_of 136 rfl (by decide +kernel), gw_of 135 (by decide +kernel) (by decide +kernel), q_in2_X11, rfl, by decide +kernel, by decide +kernel, by decide +kernel⟩
theorem dX12_init_0 : decode cX12_init 0 = .ok (.aload_n 0, 1) := by decide +kernel
theorem dX12_init_1 : decode cX12_init 1 = .ok (.invokespecial 1, 3) := by decide +kernel
theorem dX12_init_4 : decode cX12_init 4 = .ok (.aload_n 0, 1) := by decide +kernel
theorem dX12_init_5 : decode cX12_init 5 = .ok (.sipush 4520, 3) := by decide +kernel
theorem dX12_init_8 : decode cX12_init 8 = .ok (.newarray .int, 2) := by decide +kernel
theorem dX12_init_10 : decode cX12_init 10 = .ok (.putfield 7, 3) := by decide +kernel
theorem dX12_init_13 : decode cX12_init 13 = .ok (.aload_n 0, 1) := by decide +kernel
theorem dX12_init_14 : decode cX12_init 14 = .ok (.iconst 3, 1) := by decide +kernel
theorem dX12_init_15 : decode cX12_init 15 = .ok (.newarray .boolean, 2) := by decide +kernel
theorem dX12_init_17 : decode cX12_init 17 = .ok (.putfield 13, 3) := by decide +kernel
theorem dX12_init_20 : decode cX12_init 20 = .ok (.aload_n 0, 1) := by decide +kernel
theorem dX12_init_21 : decode cX12_init 21 = .ok (.bipush 124, 2) := by decide +kernel
theorem dX12_init_23 : decode cX12_init 23 = .ok (.newarray .int, 2) := by decide +kernel
theorem dX12_init_25 : decode cX12_init 25 = .ok (.putfield 17, 3) := by decide +kernel
theorem dX12_init_28 : decode cX12_init 28 = .ok (.aload_n 0, 1) := by decide +kernel
theorem dX12_init_29 : decode cX12_init 29 = .ok (.bipush 8, 2) := by decide +kernel
theorem dX12_init_31 : decode cX12_init 31 = .ok (.newarray .int, 2) := by decide +kernel
theorem dX12_init_33 : decode cX12_init 33 = .ok (.putfield 20, 3) := by decide +kernel
theorem dX12_init_36 : decode cX12_init 36 = .ok (.aload_n 0, 1) := by decide +kernel
theorem dX12_init_37 : decode cX12_init 37 = .ok (.bipush 8, 2) := by decide +kernel
theorem dX12_init_39 : decode cX12_init 39 = .ok (.newarray .int, 2) := by decide +kernel
theorem dX12_init_41 : decode cX12_init 41 = .ok (.putfield 23, 3) := by decide +kernel
theorem dX12_init_44 : decode cX12_init 44 = .ok (.aload_n 0, 1) := by decide +kernel
theorem dX12_init_45 : decode cX12_init 45 = .ok (.bipush 8, 2) := by decide +kernel
theorem dX12_init_47 : decode cX12_init 47 = .ok (.newarray .int, 2) := by decide +kernel
theorem dX12_init_49 : decode cX12_init 49 = .ok (.putfield 26, 3) := by decide +kernel
theorem dX12_init_52 : decode cX12_init 52 = .ok (.aload_n 0, 1) := by decide +kernel
theorem dX12_init_53 : decode cX12_init 53 = .ok (.bipush 8, 2) := by decide +kernel
theorem dX12_init_55 : decode cX12_init 55 = .ok (.newarray .int, 2) := by decide +kernel
theorem dX12_init_57 : decode cX12_init 57 = .ok (.putfield 29, 3) := by decide +kernel
theorem dX12_init_60 : decode cX12_init 60 = .ok (.aload_n 0, 1) := by decide +kernel
theorem dX12_init_61 : decode cX12_init 61 = .ok (.bipush 8, 2) := by decide +kernel
theorem dX12_init_63 : decode cX12_init 63 = .ok (.newarray .int, 2) := by decide +kernel
theorem dX12_init_65 : decode cX12_init 65 = .ok (.putfield 32, 3) := by decide +kernel
theorem dX12_init_68 : decode cX12_init 68 = .ok (.aload_n 0, 1) := by decide +kernel
theorem dX12_init_69 : decode cX12_init 69 = .ok (.bipush 8, 2) := by decide +kernel
theorem dX12_init_71 : decode cX12_init 71 = .ok (.newarray .int, 2) := by decide +kernel
theorem dX12_init_73 : decode cX12_init 73 = .ok (.putfield 35, 3) := by decide +kernel
theorem dX12_init_76 : decode cX12_init 76 = .ok (.aload_n 0, 1) := by decide +kernel
theorem dX12_init_77 : decode cX12_init 77 = .ok (.bipush 8, 2) := by decide +kernel
theorem dX12_init_79 : decode cX12_init 79 = .ok (.newarray .int, 2) := by decide +kernel
theorem dX12_init_81 : decode cX12_init 81 = .ok (.putfield 38, 3) := by decide +kernel
theorem dX12_init_84 : decode cX12_init 84 = .ok (.aload_n 0, 1) := by decide +kernel
theorem dX12_init_85 : decode cX12_init 85 = .ok (.bipush 8, 2) := by decide +kernel
theorem dX12_init_87 : decode cX12_init 87 = .ok (.newarray .boolean, 2) := by decide +kernel
theorem dX12_init_89 : decode cX12_init 89 = .ok (.putfield 41, 3) := by decide +kernel
theorem dX12_init_92 : decode cX12_init 92 = .ok (.aload_n 0, 1) := by decide +kernel
theorem dX12_init_93 : decode cX12_init 93 = .ok (.bipush 64, 2) := by decide +kernel
theorem dX12_init_95 : decode cX12_init 95 = .ok (.newarray .int, 2) := by decide +kernel
theorem dX12_init_97 : decode cX12_init 97 = .ok (.putfield 44, 3) := by decide +kernel
theorem dX12_init_100 : decode cX12_init 100 = .ok (.aload_n 0, 1) := by decide +kernel
theorem dX12_init_101 : decode cX12_init 101 = .ok (.bipush 8, 2) := by decide +kernel
theorem dX12_init_103 : decode cX12_init 103 = .ok (.newarray .int, 2) := by decide +kernel
theorem dX12_init_105 : decode cX12_init 105 = .ok (.putfield 47, 3) := by decide +kernel
theorem dX12_init_108 : decode cX12_init 108 = .ok (.aload_n 0, 1) := by decide +kernel
theorem dX12_init_109 : decode cX12_init 109 = .ok (.iconst 4, 1) := by decide +kernel
theorem dX12_init_110 : decode cX12_init 110 = .ok (.newarray .int, 2) := by decide +kernel
theorem dX12_init_112 : decode cX12_init 112 = .ok (.putfield 50, 3) := by decide +kernel
theorem dX12_init_115 : decode cX12_init 115 = .ok (.aload_n 0, 1) := by decide +kernel
theorem dX12_init_116 : decode cX12_init 116 = .ok (.iconst 4, 1) := by decide +kernel
theorem dX12_init_117 : decode cX12_init 117 = .ok (.newarray .int, 2) := by decide +kernel
theorem dX12_init_119 : decode cX12_init 119 = .ok (.putfield 53, 3) := by decide +kernel
theorem dX12_init_122 : decode cX12_init 122 = .ok (.aload_n 0, 1) := by decide +kernel
theorem dX12_init_123 : decode cX12_init 123 = .ok (.iconst 4, 1) := by decide +kernel
theorem dX12_init_124 : decode cX12_init 124 = .ok (.newarray .int, 2) := by decide +kernel
theorem dX12_init_126 : decode cX12_init 126 = .ok (.putfield 56, 3) := by decide +kernel
theorem dX12_init_129 : decode cX12_init 129 = .ok (.aload_n 0, 1) := by decide +kernel
theorem dX12_init_130 : decode cX12_init 130 = .ok (.bipush 8, 2) := by decide +kernel
theorem dX12_init_132 : decode cX12_init 132 = .ok (.newarray .int, 2) := by decide +kernel
theorem dX12_init_134 : decode cX12_init 134 = .ok (.putfield 59, 3) := by decide +kernel
theorem dX12_init_137 : decode cX12_init 137 = .ok (.aload_n 0, 1) := by decide +kernel
theorem dX12_init_138 : decode cX12_init 138 = .ok (.bipush 8, 2) := by decide +kernel
theorem dX12_init_140 : decode cX12_init 140 = .ok (.newarray .int, 2) := by decide +kernel
theorem dX12_init_142 : decode cX12_init 142 = .ok (.putfield 62, 3) := by decide +kernel
theorem dX12_init_145 : decode cX12_init 145 = .ok (.aload_n 0, 1) := by decide +kernel
theorem dX12_init_146 : decode cX12_init 146 = .ok (.sipush 128, 3) := by decide +kernel
theorem dX12_init_149 : decode cX12_init 149 = .ok (.newarray .int, 2) := by decide +kernel
theorem dX12_init_151 : decode cX12_init 151 = .ok (.putfield 65, 3) := by decide +kernel
theorem dX12_init_154 : decode cX12_init 154 = .ok (.aload_n 0, 1) := by decide +kernel
theorem dX12_init_155 : decode cX12_init 155 = .ok (.bipush 64, 2) := by decide +kernel
theorem dX12_init_157 : decode cX12_init 157 = .ok (.newarray .int, 2) := by decide +kernel
theorem dX12_init_159 : decode cX12_init 159 = .ok (.putfield 68, 3) := by decide +kernel
theorem dX12_init_162 : decode cX12_init 162 = .ok (.aload_n 0, 1) := by decide +kernel
theorem dX12_init_163 : decode cX12_init 163 = .ok (.bipush 64, 2) := by decide +kernel
theorem dX12_init_165 : decode cX12_init 165 = .ok (.newarray .int, 2) := by decide +kernel
theorem dX12_init_167 : decode cX12_init 167 = .ok (.putfield 71, 3) := by decide +kernel
theorem dX12_init_170 : decode cX12_init 170 = .ok (.aload_n 0, 1) := by decide +kernel
theorem dX12_init_171 : decode cX12_init 171 = .ok (.bipush 64, 2) := by decide +kernel
theorem dX12_init_173 : decode cX12_init 173 = .ok (.newarray .int, 2) := by decide +kernel
theorem dX12_init_175 : decode cX12_init 175 = .ok (.putfield 74, 3) := by decide +kernel
theorem dX12_init_178 : decode cX12_init 178 = .ok (.aload_n 0, 1) := by decide +kernel
theorem dX12_init_179 : decode cX12_init 179 = .ok (.sipush 2048, 3) := by decide +kernel
theorem dX12_init_182 : decode cX12_init 182 = .ok (.newarray .int, 2) := by decide +kernel
theorem dX12_init_184 : decode cX12_init 184 = .ok (.putfield 77, 3) := by decide +kernel
theorem dX12_init_187 : decode cX12_init 187 = .ok (.aload_n 0, 1) := by decide +kernel
theorem dX12_init_188 : decode cX12_init 188 = .ok (.bipush 80, 2) := by decide +kernel
theorem dX12_init_190 : decode cX12_init 190 = .ok (.newarray .int, 2) := by decide +kernel
theorem dX12_init_192 : decode cX12_init 192 = .ok (.putfield 80, 3) := by decide +kernel
theorem dX12_init_195 : decode cX12_init 195 = .ok (.aload_n 0, 1) := by decide +kernel
theorem dX12_init_196 : decode cX12_init 196 = .ok (.getfield 7, 3) := by decide +kernel
theorem dX12_init_199 : decode cX12_init 199 = .ok (.bipush 6, 2) := by decide +kernel
theorem dX12_init_201 : decode cX12_init 201 = .ok (.iconst (-1), 1) := by decide +kernel
theorem dX12_init_202 : decode cX12_init 202 = .ok (.iastore, 1) := by decide +kernel
theorem dX12_init_203 : decode cX12_init 203 = .ok (.return_, 1) := by decide +kernel
set_option maxHeartbeats 4000000 in
set_option maxRecDepth 100000 in
theorem tX12_init (l : Launch) (G : GG) (K : SK) (M : MM) (a0 : Nat) (h0 : isC K a0 12 0) : Ct l yX12_init cX12_init 1 none 1 24 7259 G K M [.ref (G.1 + a0)] none (kX12_init K M a0).1 (kX12_init K M a0).2 := by
  generalize hf : kX12_init K M a0 = pp
  refine z_enter (lv := [(0, .ref (G.1 + a0))]) (by decide +kernel) (Nat.le_of_ble_eq_true rfl) rfl ?_
  intro p e s m args below meth c C hnm hs0
  replace C : CX p s m args meth c cX12_init 1 none RX12 G := C
  unfold kX12_init at hf
  refine z_aload_n C 0 0 dX12_init_0 rfl rfl ?_
  refine z_objInit C q_ml_X12_1 q_oi q_oc dX12_init_1 (Nat.le_of_ble_eq_true rfl) (Nat.le_of_ble_eq_true rfl) ?_
  refine z_aload_n C 0 0 dX12_init_4 rfl rfl ?_
  refine z_sipush C 4520 dX12_init_5 (by decide) ?_
  refine z_newai C 4520 q_ac_i (by decide) (by decide) (by decide) (by decide) (by decide) dX12_init_8 ?_
  refine z_K (fun K1 e2 => ?_)
  replace hf := bnd_out e2 hf
  have i4 : isC K1 a0 12 0 := by rw [e2]; exact isC_new h0
  have i5 : isC K1 K.1 20 4520 := by rw [e2]; exact isC_new0
  refine z_M (fun M6 e7 => ?_)
  replace hf := bnd_out e7 hf
  refine z_putRF C ok_X12 i4 0 (by decide) rfl rfl hnm rfl rfl rfl q_fl_X12_7 dX12_init_10 ?_
  refine z_K (fun K8 e9 => ?_)
  replace hf := bnd_out e9 hf
  have i11 : isC K8 a0 12 0 := by rw [e9]; exact isC_set i4
  have i12 : isC K8 K.1 20 4520 := by rw [e9]; exact isC_set i5
  have r13 : K8.2.2 a0 0 = some K.1 := by rw [e9]; exact ref_set_eq
  refine z_aload_n C 0 0 dX12_init_13 rfl rfl ?_
  refine z_iconst C 3 dX12_init_14 (by decide) ?_
  refine z_newaz C 3 q_ac_z (by decide) (by decide) (by decide) (by decide) (by decide) dX12_init_15 ?_
  refine z_K (fun K14 e15 => ?_)
  replace hf := bnd_out e15 hf
  have i17 : isC K14 a0 12 0 := by rw [e15]; exact isC_new i11
  have i18 : isC K14 K.1 20 4520 := by rw [e15]; exact isC_new i12
  have r19 : K14.2.2 a0 0 = some K.1 := by rw [e15]; exact ref_new i11 r13
  have i20 : isC K14 K8.1 23 3 := by rw [e15]; exact isC_new0
  refine z_M (fun M21 e22 => ?_)
  replace hf := bnd_out e22 hf
  refine z_putRF C ok_X12 i17 1 (by decide) rfl rfl hnm rfl rfl rfl q_fl_X12_13 dX12_init_17 ?_
  refine z_K (fun K23 e24 => ?_)
  replace hf := bnd_out e24 hf
  have i26 : isC K23 a0 12 0 := by rw [e24]; exact isC_set i17
  have i27 : isC K23 K.1 20 4520 := by rw [e24]; exact isC_set i18
  have i28 : isC K23 K8.1 23 3 := by rw [e24]; exact isC_set i20
  have r29 : K23.2.2 a0 0 = some K.1 := by rw [e24]; exact ref_set_ne (by decide) r19
  refine z_aload_n C 0 0 dX12_init_20 rfl rfl ?_
  refine z_bipush C 124 dX12_init_21 (by decide) ?_
  refine z_newai C 124 q_ac_i (by decide) (by decide) (by decide) (by decide) (by decide) dX12_init_23 ?_
  refine z_K (fun K30 e31 => ?_)
  replace hf := bnd_out e31 hf
  have i33 : isC K30 a0 12 0 := by rw [e31]; exact isC_new i26
  have i34 : isC K30 K.1 20 4520 := by rw [e31]; exact isC_new i27
  have i35 : isC K30 K8.1 23 3 := by rw [e31]; exact isC_new i28
  have r36 : K30.2.2 a0 0 = some K.1 := by rw [e31]; exact ref_new i26 r29
  have i37 : isC K30 K23.1 20 124 := by rw [e31]; exact isC_new0
  refine z_M (fun M38 e39 => ?_)
  replace hf := bnd_out e39 hf
  refine z_putRF C ok_X12 i33 11 (by decide) rfl rfl hnm rfl rfl rfl q_fl_X12_17 dX12_init_25 ?_
  refine z_K (fun K40 e41 => ?_)
  replace hf := bnd_out e41 hf
  have i43 : isC K40 a0 12 0 := by rw [e41]; exact isC_set i33
  have i44 : isC K40 K.1 20 4520 := by rw [e41]; exact isC_set i34
  have i45 : isC K40 K8.1 23 3 := by rw [e41]; exact isC_set i35
  have i46 : isC K40 K23.1 20 124 := by rw [e41]; exact isC_set i37
  have r47 : K40.2.2 a0 0 = some K.1 := by rw [e41]; exact ref_set_ne (by decide) r36
  refine z_aload_n C 0 0 dX12_init_28 rfl rfl ?_
  refine z_bipush C 8 dX12_init_29 (by decide) ?_
  refine z_newai C 8 q_ac_i (by decide) (by decide) (by decide) (by decide) (by decide) dX12_init_31 ?_
  refine z_K (fun K48 e49 => ?_)
  replace hf := bnd_out e49 hf
  have i51 : isC K48 a0 12 0 := by rw [e49]; exact isC_new i43
  have i52 : isC K48 K.1 20 4520 := by rw [e49]; exact isC_new i44
  have i53 : isC K48 K8.1 23 3 := by rw [e49]; exact isC_new i45
  have i54 : isC K48 K23.1 20 124 := by rw [e49]; exact isC_new i46
  have r55 : K48.2.2 a0 0 = some K.1 := by rw [e49]; exact ref_new i43 r47
  have i56 : isC K48 K40.1 20 8 := by rw [e49]; exact isC_new0
  refine z_M (fun M57 e58 => ?_)
  replace hf := bnd_out e58 hf
  refine z_putRF C ok_X12 i51 15 (by decide) rfl rfl hnm rfl rfl rfl q_fl_X12_20 dX12_init_33 ?_
  refine z_K (fun K59 e60 => ?_)
  replace hf := bnd_out e60 hf
  have i62 : isC K59 a0 12 0 := by rw [e60]; exact isC_set i51
  have i63 : isC K59 K.1 20 4520 := by rw [e60]; exact isC_set i52
  have i64 : isC K59 K8.1 23 3 := by rw [e60]; exact isC_set i53
  have i65 : isC K59 K23.1 20 124 := by rw [e60]; exact isC_set i54
  have i66 : isC K59 K40.1 20 8 := by rw [e60]; exact isC_set i56
  have r67 : K59.2.2 a0 0 = some K.1 := by rw [e60]; exact ref_set_ne (by decide) r55
  refine z_aload_n C 0 0 dX12_init_36 rfl rfl ?_
  refine z_bipush C 8 dX12_init_37 (by decide) ?_
  refine z_newai C 8 q_ac_i (by decide) (by decide) (by decide) (by decide) (by decide) dX12_init_39 ?_
  refine z_K (fun K68 e69 => ?_)
  replace hf := bnd_out e69 hf
  have i71 : isC K68 a0 12 0 := by rw [e69]; exact isC_new i62
  have i72 : isC K68 K.1 20 4520 := by rw [e69]; exact isC_new i63
  have i73 : isC K68 K8.1 23 3 := by rw [e69]; exact isC_new i64
  have i74 : isC K68 K23.1 20 124 := by rw [e69]; exact isC_new i65
  have i75 : isC K68 K40.1 20 8 := by rw [e69]; exact isC_new i66
  have r76 : K68.2.2 a0 0 = some K.1 := by rw [e69]; exact ref_new i62 r67
  have i77 : isC K68 K59.1 20 8 := by rw [e69]; exact isC_new0
  refine z_M (fun M78 e79 => ?_)
  replace hf := bnd_out e79 hf
  refine z_putRF C ok_X12 i71 16 (by decide) rfl rfl hnm rfl rfl rfl q_fl_X12_23 dX12_init_41 ?_
  refine z_K (fun K80 e81 => ?_)
  replace hf := bnd_out e81 hf
  have i83 : isC K80 a0 12 0 := by rw [e81]; exact isC_set i71
  have i84 : isC K80 K.1 20 4520 := by rw [e81]; exact isC_set i72
  have i85 : isC K80 K8.1 23 3 := by rw [e81]; exact isC_set i73
  have i86 : isC K80 K23.1 20 124 := by rw [e81]; exact isC_set i74
  have i87 : isC K80 K40.1 20 8 := by rw [e81]; exact isC_set i75
  have i88 : isC K80 K59.1 20 8 := by rw [e81]; exact isC_set i77
  have r89 : K80.2.2 a0 0 = some K.1 := by rw [e81]; exact ref_set_ne (by decide) r76
  refine z_aload_n C 0 0 dX12_init_44 rfl rfl ?_
  refine z_bipush C 8 dX12_init_45 (by decide) ?_
  refine z_newai C 8 q_ac_i (by decide) (by decide) (by decide) (by decide) (by decide) dX12_init_47 ?_
  refine z_K (fun K90 e91 => ?_)
  replace hf := bnd_out e91 hf
  have i93 : isC K90 a0 12 0 := by rw [e91]; exact isC_new i83
  have i94 : isC K90 K.1 20 4520 := by rw [e91]; exact isC_new i84
  have i95 : isC K90 K8.1 23 3 := by rw [e91]; exact isC_new i85
  have i96 : isC K90 K23.1 20 124 := by rw [e91]; exact isC_new i86
  have i97 : isC K90 K40.1 20 8 := by rw [e91]; exact isC_new i87
  have i98 : isC K90 K59.1 20 8 := by rw [e91]; exact isC_new i88
  have r99 : K90.2.2 a0 0 = some K.1 := by rw [e91]; exact ref_new i83 r89
  have i100 : isC K90 K80.1 20 8 := by rw [e91]; exact isC_new0
  refine z_M (fun M101 e102 => ?_)
  replace hf := bnd_out e102 hf
  refine z_putRF C ok_X12 i93 17 (by decide) rfl rfl hnm rfl rfl rfl q_fl_X12_26 dX12_init_49 ?_
  refine z_K (fun K103 e104 => ?_)
  replace hf := bnd_out e104 hf
  have i106 : isC K103 a0 12 0 := by rw [e104]; exact isC_set i93
  have i107 : isC K103 K.1 20 4520 := by rw [e104]; exact isC_set i94
  have i108 : isC K103 K8.1 23 3 := by rw [e104]; exact isC_set i95
  have i109 : isC K103 K23.1 20 124 := by rw [e104]; exact isC_set i96
  have i110 : isC K103 K40.1 20 8 := by rw [e104]; exact isC_set i97
  have i111 : isC K103 K59.1 20 8 := by rw [e104]; exact isC_set i98
  have i112 : isC K103 K80.1 20 8 := by rw [e104]; exact isC_set i100
  have r113 : K103.2.2 a0 0 = some K.1 := by rw [e104]; exact ref_set_ne (by decide) r99
  refine z_aload_n C 0 0 dX12_init_52 rfl rfl ?_
  refine z_bipush C 8 dX12_init_53 (by decide) ?_
  refine z_newai C 8 q_ac_i (by decide) (by decide) (by decide) (by decide) (by decide) dX12_init_55 ?_
  refine z_K (fun K114 e115 => ?_)
  replace hf := bnd_out e115 hf
  have i117 : isC K114 a0 12 0 := by rw [e115]; exact isC_new i106
  have i118 : isC K114 K.1 20 4520 := by rw [e115]; exact isC_new i107
  have i119 : isC K114 K8.1 23 3 := by rw [e115]; exact isC_new i108
  have i120 : isC K114 K23.1 20 124 := by rw [e115]; exact isC_new i109
  have i121 : isC K114 K40.1 20 8 := by rw [e115]; exact isC_new i110
  have i122 : isC K114 K59.1 20 8 := by rw [e115]; exact isC_new i111
  have i123 : isC K114 K80.1 20 8 := by rw [e115]; exact isC_new i112
  have r124 : K114.2.2 a0 0 = some K.1 := by rw [e115]; exact ref_new i106 r113
  have i125 : isC K114 K103.1 20 8 := by rw [e115]; exact isC_new0
  refine z_M (fun M126 e127 => ?_)
  replace hf := bnd_out e127 hf
  refine z_putRF C ok_X12 i117 18 (by decide) rfl rfl hnm rfl rfl rfl q_fl_X12_29 dX12_init_57 ?_
  refine z_K (fun K128 e129 => ?_)
  replace hf := bnd_out e129 hf
  have i131 : isC K128 a0 12 0 := by rw [e129]; exact isC_set i117
  have i132 : isC K128 K.1 20 4520 := by rw [e129]; exact isC_set i118
  have i133 : isC K128 K8.1 23 3 := by rw [e129]; exact isC_set i119
  have i134 : isC K128 K23.1 20 124 := by rw [e129]; exact isC_set i120
  have i135 : isC K128 K40.1 20 8 := by rw [e129]; exact isC_set i121
  have i136 : isC K128 K59.1 20 8 := by rw [e129]; exact isC_set i122
  have i137 : isC K128 K80.1 20 8 := by rw [e129]; exact isC_set i123
  have i138 : isC K128 K103.1 20 8 := by rw [e129]; exact isC_set i125
  have r139 : K128.2.2 a0 0 = some K.1 := by rw [e129]; exact ref_set_ne (by decide) r124
  refine z_aload_n C 0 0 dX12_init_60 rfl rfl ?_
  refine z_bipush C 8 dX12_init_61 (by decide) ?_
  refine z_newai C 8 q_ac_i (by decide) (by decide) (by decide) (by decide) (by decide) dX12_init_63 ?_
  refine z_K (fun K140 e141 => ?_)
  replace hf := bnd_out e141 hf
  have i143 : isC K140 a0 12 0 := by rw [e141]; exact isC_new i131
  have i144 : isC K140 K.1 20 4520 := by rw [e141]; exact isC_new i132
  have i145 : isC K140 K8.1 23 3 := by rw [e141]; exact isC_new i133
  have i146 : isC K140 K23.1 20 124 := by rw [e141]; exact isC_new i134
  have i147 : isC K140 K40.1 20 8 := by rw [e141]; exact isC_new i135
  have i148 : isC K140 K59.1 20 8 := by rw [e141]; exact isC_new i136
  have i149 : isC K140 K80.1 20 8 := by rw [e141]; exact isC_new i137
  have i150 : isC K140 K103.1 20 8 := by rw [e141]; exact isC_new i138
  have r151 : K140.2.2 a0 0 = some K.1 := by rw [e141]; exact ref_new i131 r139
  have i152 : isC K140 K128.1 20 8 := by rw [e141]; exact isC_new0
  refine z_M (fun M153 e154 => ?_)
  replace hf := bnd_out e154 hf
  refine z_putRF C ok_X12 i143 19 (by decide) rfl rfl hnm rfl rfl rfl q_fl_X12_32 dX12_init_65 ?_
  refine z_K (fun K155 e156 => ?_)
  replace hf := bnd_out e156 hf
  have i158 : isC K155 a0 12 0 := by rw [e156]; exact isC_set i143
  have i159 : isC K155 K.1 20 4520 := by rw [e156]; exact isC_set i144
  have i160 : isC K155 K8.1 23 3 := by rw [e156]; exact isC_set i145
  have i161 : isC K155 K23.1 20 124 := by rw [e156]; exact isC_set i146
  have i162 : isC K155 K40.1 20 8 := by rw [e156]; exact isC_set i147
  have i163 : isC K155 K59.1 20 8 := by rw [e156]; exact isC_set i148
  have i164 : isC K155 K80.1 20 8 := by rw [e156]; exact isC_set i149
  have i165 : isC K155 K103.1 20 8 := by rw [e156]; exact isC_set i150
  have i166 : isC K155 K128.1 20 8 := by rw [e156]; exact isC_set i152
  have r167 : K155.2.2 a0 0 = some K.1 := by rw [e156]; exact ref_set_ne (by decide) r151
  refine z_aload_n C 0 0 dX12_init_68 rfl rfl ?_
  refine z_bipush C 8 dX12_init_69 (by decide) ?_
  refine z_newai C 8 q_ac_i (by decide) (by decide) (by decide) (by decide) (by decide) dX12_init_71 ?_
  refine z_K (fun K168 e169 => ?_)
  replace hf := bnd_out e169 hf
  have i171 : isC K168 a0 12 0 := by rw [e169]; exact isC_new i158
  have i172 : isC K168 K.1 20 4520 := by rw [e169]; exact isC_new i159
  have i173 : isC K168 K8.1 23 3 := by rw [e169]; exact isC_new i160
  have i174 : isC K168 K23.1 20 124 := by rw [e169]; exact isC_new i161
  have i175 : isC K168 K40.1 20 8 := by rw [e169]; exact isC_new i162
  have i176 : isC K168 K59.1 20 8 := by rw [e169]; exact isC_new i163
  have i177 : isC K168 K80.1 20 8 := by rw [e169]; exact isC_new i164
  have i178 : isC K168 K103.1 20 8 := by rw [e169]; exact isC_new i165
  have i179 : isC K168 K128.1 20 8 := by rw [e169]; exact isC_new i166
  have r180 : K168.2.2 a0 0 = some K.1 := by rw [e169]; exact ref_new i158 r167
  have i181 : isC K168 K155.1 20 8 := by rw [e169]; exact isC_new0
  refine z_M (fun M182 e183 => ?_)
  replace hf := bnd_out e183 hf
  refine z_putRF C ok_X12 i171 20 (by decide) rfl rfl hnm rfl rfl rfl q_fl_X12_35 dX12_init_73 ?_
  refine z_K (fun K184 e185 => ?_)
  replace hf := bnd_out e185 hf
  have i187 : isC K184 a0 12 0 := by rw [e185]; exact isC_set i171
  have i188 : isC K184 K.1 20 4520 := by rw [e185]; exact isC_set i172
  have i189 : isC K184 K8.1 23 3 := by rw [e185]; exact isC_set i173
  have i190 : isC K184 K23.1 20 124 := by rw [e185]; exact isC_set i174
  have i191 : isC K184 K40.1 20 8 := by rw [e185]; exact isC_set i175
  have i192 : isC K184 K59.1 20 8 := by rw [e185]; exact isC_set i176
  have i193 : isC K184 K80.1 20 8 := by rw [e185]; exact isC_set i177
  have i194 : isC K184 K103.1 20 8 := by rw [e185]; exact isC_set i178
  have i195 : isC K184 K128.1 20 8 := by rw [e185]; exact isC_set i179
  have i196 : isC K184 K155.1 20 8 := by rw [e185]; exact isC_set i181
  have r197 : K184.2.2 a0 0 = some K.1 := by rw [e185]; exact ref_set_ne (by decide) r180
  refine z_aload_n C 0 0 dX12_init_76 rfl rfl ?_
  refine z_bipush C 8 dX12_init_77 (by decide) ?_
  refine z_newai C 8 q_ac_i (by decide) (by decide) (by decide) (by decide) (by decide) dX12_init_79 ?_
  refine z_K (fun K198 e199 => ?_)
  replace hf := bnd_out e199 hf
  have i201 : isC K198 a0 12 0 := by rw [e199]; exact isC_new i187
  have i202 : isC K198 K.1 20 4520 := by rw [e199]; exact isC_new i188
  have i203 : isC K198 K8.1 23 3 := by rw [e199]; exact isC_new i189
  have i204 : isC K198 K23.1 20 124 := by rw [e199]; exact isC_new i190
  have i205 : isC K198 K40.1 20 8 := by rw [e199]; exact isC_new i191
  have i206 : isC K198 K59.1 20 8 := by rw [e199]; exact isC_new i192
  have i207 : isC K198 K80.1 20 8 := by rw [e199]; exact isC_new i193
  have i208 : isC K198 K103.1 20 8 := by rw [e199]; exact isC_new i194
  have i209 : isC K198 K128.1 20 8 := by rw [e199]; exact isC_new i195
  have i210 : isC K198 K155.1 20 8 := by rw [e199]; exact isC_new i196
  have r211 : K198.2.2 a0 0 = some K.1 := by rw [e199]; exact ref_new i187 r197
  have i212 : isC K198 K184.1 20 8 := by rw [e199]; exact isC_new0
  refine z_M (fun M213 e214 => ?_)
  replace hf := bnd_out e214 hf
  refine z_putRF C ok_X12 i201 21 (by decide) rfl rfl hnm rfl rfl rfl q_fl_X12_38 dX12_init_81 ?_
  refine z_K (fun K215 e216 => ?_)
  replace hf := bnd_out e216 hf
  have i218 : isC K215 a0 12 0 := by rw [e216]; exact isC_set i201
  have i219 : isC K215 K.1 20 4520 := by rw [e216]; exact isC_set i202
  have i220 : isC K215 K8.1 23 3 := by rw [e216]; exact isC_set i203
  have i221 : isC K215 K23.1 20 124 := by rw [e216]; exact isC_set i204
  have i222 : isC K215 K40.1 20 8 := by rw [e216]; exact isC_set i205
  have i223 : isC K215 K59.1 20 8 := by rw [e216]; exact isC_set i206
  have i224 : isC K215 K80.1 20 8 := by rw [e216]; exact isC_set i207
  have i225 : isC K215 K103.1 20 8 := by rw [e216]; exact isC_set i208
  have i226 : isC K215 K128.1 20 8 := by rw [e216]; exact isC_set i209
  have i227 : isC K215 K155.1 20 8 := by rw [e216]; exact isC_set i210
  have i228 : isC K215 K184.1 20 8 := by rw [e216]; exact isC_set i212
  have r229 : K215.2.2 a0 0 = some K.1 := by rw [e216]; exact ref_set_ne (by decide) r211
  refine z_aload_n C 0 0 dX12_init_84 rfl rfl ?_
  refine z_bipush C 8 dX12_init_85 (by decide) ?_
  refine z_newaz C 8 q_ac_z (by decide) (by decide) (by decide) (by decide) (by decide) dX12_init_87 ?_
  refine z_K (fun K230 e231 => ?_)
  replace hf := bnd_out e231 hf
  have i233 : isC K230 a0 12 0 := by rw [e231]; exact isC_new i218
  have i234 : isC K230 K.1 20 4520 := by rw [e231]; exact isC_new i219
  have i235 : isC K230 K8.1 23 3 := by rw [e231]; exact isC_new i220
  have i236 : isC K230 K23.1 20 124 := by rw [e231]; exact isC_new i221
  have i237 : isC K230 K40.1 20 8 := by rw [e231]; exact isC_new i222
  have i238 : isC K230 K59.1 20 8 := by rw [e231]; exact isC_new i223
  have i239 : isC K230 K80.1 20 8 := by rw [e231]; exact isC_new i224
  have i240 : isC K230 K103.1 20 8 := by rw [e231]; exact isC_new i225
  have i241 : isC K230 K128.1 20 8 := by rw [e231]; exact isC_new i226
  have i242 : isC K230 K155.1 20 8 := by rw [e231]; exact isC_new i227
  have i243 : isC K230 K184.1 20 8 := by rw [e231]; exact isC_new i228
  have r244 : K230.2.2 a0 0 = some K.1 := by rw [e231]; exact ref_new i218 r229
  have i245 : isC K230 K215.1 23 8 := by rw [e231]; exact isC_new0
  refine z_M (fun M246 e247 => ?_)
  replace hf := bnd_out e247 hf
  refine z_putRF C ok_X12 i233 22 (by decide) rfl rfl hnm rfl rfl rfl q_fl_X12_41 dX12_init_89 ?_
  refine z_K (fun K248 e249 => ?_)
  replace hf := bnd_out e249 hf
  have i251 : isC K248 a0 12 0 := by rw [e249]; exact isC_set i233
  have i252 : isC K248 K.1 20 4520 := by rw [e249]; exact isC_set i234
  have i253 : isC K248 K8.1 23 3 := by rw [e249]; exact isC_set i235
  have i254 : isC K248 K23.1 20 124 := by rw [e249]; exact isC_set i236
  have i255 : isC K248 K40.1 20 8 := by rw [e249]; exact isC_set i237
  have i256 : isC K248 K59.1 20 8 := by rw [e249]; exact isC_set i238
  have i257 : isC K248 K80.1 20 8 := by rw [e249]; exact isC_set i239
  have i258 : isC K248 K103.1 20 8 := by rw [e249]; exact isC_set i240
  have i259 : isC K248 K128.1 20 8 := by rw [e249]; exact isC_set i241
  have i260 : isC K248 K155.1 20 8 := by rw [e249]; exact isC_set i242
  have i261 : isC K248 K184.1 20 8 := by rw [e249]; exact isC_set i243
  have i262 : isC K248 K215.1 23 8 := by rw [e249]; exact isC_set i245
  have r263 : K248.2.2 a0 0 = some K.1 := by rw [e249]; exact ref_set_ne (by decide) r244
  refine z_aload_n C 0 0 dX12_init_92 rfl rfl ?_
  refine z_bipush C 64 dX12_init_93 (by decide) ?_
  refine z_newai C 64 q_ac_i (by decide) (by decide) (by decide) (by decide) (by decide) dX12_init_95 ?_
  refine z_K (fun K264 e265 => ?_)
  replace hf := bnd_out e265 hf
  have i267 : isC K264 a0 12 0 := by rw [e265]; exact isC_new i251
  have i268 : isC K264 K.1 20 4520 := by rw [e265]; exact isC_new i252
  have i269 : isC K264 K8.1 23 3 := by rw [e265]; exact isC_new i253
  have i270 : isC K264 K23.1 20 124 := by rw [e265]; exact isC_new i254
  have i271 : isC K264 K40.1 20 8 := by rw [e265]; exact isC_new i255
  have i272 : isC K264 K59.1 20 8 := by rw [e265]; exact isC_new i256
  have i273 : isC K264 K80.1 20 8 := by rw [e265]; exact isC_new i257
  have i274 : isC K264 K103.1 20 8 := by rw [e265]; exact isC_new i258
  have i275 : isC K264 K128.1 20 8 := by rw [e265]; exact isC_new i259
  have i276 : isC K264 K155.1 20 8 := by rw [e265]; exact isC_new i260
  have i277 : isC K264 K184.1 20 8 := by rw [e265]; exact isC_new i261
  have i278 : isC K264 K215.1 23 8 := by rw [e265]; exact isC_new i262
  have r279 : K264.2.2 a0 0 = some K.1 := by rw [e265]; exact ref_new i251 r263
  have i280 : isC K264 K248.1 20 64 := by rw [e265]; exact isC_new0
  refine z_M (fun M281 e282 => ?_)
  replace hf := bnd_out e282 hf
  refine z_putRF C ok_X12 i267 24 (by decide) rfl rfl hnm rfl rfl rfl q_fl_X12_44 dX12_init_97 ?_
  refine z_K (fun K283 e284 => ?_)
  replace hf := bnd_out e284 hf
  have i286 : isC K283 a0 12 0 := by rw [e284]; exact isC_set i267
  have i287 : isC K283 K.1 20 4520 := by rw [e284]; exact isC_set i268
  have i288 : isC K283 K8.1 23 3 := by rw [e284]; exact isC_set i269
  have i289 : isC K283 K23.1 20 124 := by rw [e284]; exact isC_set i270
  have i290 : isC K283 K40.1 20 8 := by rw [e284]; exact isC_set i271
  have i291 : isC K283 K59.1 20 8 := by rw [e284]; exact isC_set i272
  have i292 : isC K283 K80.1 20 8 := by rw [e284]; exact isC_set i273
  have i293 : isC K283 K103.1 20 8 := by rw [e284]; exact isC_set i274
  have i294 : isC K283 K128.1 20 8 := by rw [e284]; exact isC_set i275
  have i295 : isC K283 K155.1 20 8 := by rw [e284]; exact isC_set i276
  have i296 : isC K283 K184.1 20 8 := by rw [e284]; exact isC_set i277
  have i297 : isC K283 K215.1 23 8 := by rw [e284]; exact isC_set i278
  have i298 : isC K283 K248.1 20 64 := by rw [e284]; exact isC_set i280
  have r299 : K283.2.2 a0 0 = some K.1 := by rw [e284]; exact ref_set_ne (by decide) r279
  refine z_aload_n C 0 0 dX12_init_100 rfl rfl ?_
  refine z_bipush C 8 dX12_init_101 (by decide) ?_
  refine z_newai C 8 q_ac_i (by decide) (by decide) (by decide) (by decide) (by decide) dX12_init_103 ?_
  refine z_K (fun K300 e301 => ?_)
  replace hf := bnd_out e301 hf
  have i303 : isC K300 a0 12 0 := by rw [e301]; exact isC_new i286
  have i304 : isC K300 K.1 20 4520 := by rw [e301]; exact isC_new i287
  have i305 : isC K300 K8.1 23 3 := by rw [e301]; exact isC_new i288
  have i306 : isC K300 K23.1 20 124 := by rw [e301]; exact isC_new i289
  have i307 : isC K300 K40.1 20 8 := by rw [e301]; exact isC_new i290
  have i308 : isC K300 K59.1 20 8 := by rw [e301]; exact isC_new i291
  have i309 : isC K300 K80.1 20 8 := by rw [e301]; exact isC_new i292
  have i310 : isC K300 K103.1 20 8 := by rw [e301]; exact isC_new i293
  have i311 : isC K300 K128.1 20 8 := by rw [e301]; exact isC_new i294
  have i312 : isC K300 K155.1 20 8 := by rw [e301]; exact isC_new i295
  have i313 : isC K300 K184.1 20 8 := by rw [e301]; exact isC_new i296
  have i314 : isC K300 K215.1 23 8 := by rw [e301]; exact isC_new i297
  have i315 : isC K300 K248.1 20 64 := by rw [e301]; exact isC_new i298
  have r316 : K300.2.2 a0 0 = some K.1 := by rw [e301]; exact ref_new i286 r299
  have i317 : isC K300 K283.1 20 8 := by rw [e301]; exact isC_new0
  refine z_M (fun M318 e319 => ?_)
  replace hf := bnd_out e319 hf
  refine z_putRF C ok_X12 i303 25 (by decide) rfl rfl hnm rfl rfl rfl q_fl_X12_47 dX12_init_105 ?_
  refine z_K (fun K320 e321 => ?_)
  replace hf := bnd_out e321 hf
  have i323 : isC K320 a0 12 0 := by rw [e321]; exact isC_set i303
  have i324 : isC K320 K.1 20 4520 := by rw [e321]; exact isC_set i304
  have i325 : isC K320 K8.1 23 3 := by rw [e321]; exact isC_set i305
  have i326 : isC K320 K23.1 20 124 := by rw [e321]; exact isC_set i306
  have i327 : isC K320 K40.1 20 8 := by rw [e321]; exact isC_set i307
  have i328 : isC K320 K59.1 20 8 := by rw [e321]; exact isC_set i308
  have i329 : isC K320 K80.1 20 8 := by rw [e321]; exact isC_set i309
  have i330 : isC K320 K103.1 20 8 := by rw [e321]; exact isC_set i310
  have i331 : isC K320 K128.1 20 8 := by rw [e321]; exact isC_set i311
  have i332 : isC K320 K155.1 20 8 := by rw [e321]; exact isC_set i312
  have i333 : isC K320 K184.1 20 8 := by rw [e321]; exact isC_set i313
  have i334 : isC K320 K215.1 23 8 := by rw [e321]; exact isC_set i314
  have i335 : isC K320 K248.1 20 64 := by rw [e321]; exact isC_set i315
  have i336 : isC K320 K283.1 20 8 := by rw [e321]; exact isC_set i317
  have r337 : K320.2.2 a0 0 = some K.1 := by rw [e321]; exact ref_set_ne (by decide) r316
  refine z_aload_n C 0 0 dX12_init_108 rfl rfl ?_
  refine z_iconst C 4 dX12_init_109 (by decide) ?_
  refine z_newai C 4 q_ac_i (by decide) (by decide) (by decide) (by decide) (by decide) dX12_init_110 ?_
  refine z_K (fun K338 e339 => ?_)
  replace hf := bnd_out e339 hf
  have i341 : isC K338 a0 12 0 := by rw [e339]; exact isC_new i323
  have i342 : isC K338 K.1 20 4520 := by rw [e339]; exact isC_new i324
  have i343 : isC K338 K8.1 23 3 := by rw [e339]; exact isC_new i325
  have i344 : isC K338 K23.1 20 124 := by rw [e339]; exact isC_new i326
  have i345 : isC K338 K40.1 20 8 := by rw [e339]; exact isC_new i327
  have i346 : isC K338 K59.1 20 8 := by rw [e339]; exact isC_new i328
  have i347 : isC K338 K80.1 20 8 := by rw [e339]; exact isC_new i329
  have i348 : isC K338 K103.1 20 8 := by rw [e339]; exact isC_new i330
  have i349 : isC K338 K128.1 20 8 := by rw [e339]; exact isC_new i331
  have i350 : isC K338 K155.1 20 8 := by rw [e339]; exact isC_new i332
  have i351 : isC K338 K184.1 20 8 := by rw [e339]; exact isC_new i333
  have i352 : isC K338 K215.1 23 8 := by rw [e339]; exact isC_new i334
  have i353 : isC K338 K248.1 20 64 := by rw [e339]; exact isC_new i335
  have i354 : isC K338 K283.1 20 8 := by rw [e339]; exact isC_new i336
  have r355 : K338.2.2 a0 0 = some K.1 := by rw [e339]; exact ref_new i323 r337
  have i356 : isC K338 K320.1 20 4 := by rw [e339]; exact isC_new0
  refine z_M (fun M357 e358 => ?_)
  replace hf := bnd_out e358 hf
  refine z_putRF C ok_X12 i341 28 (by decide) rfl rfl hnm rfl rfl rfl q_fl_X12_50 dX12_init_112 ?_
  refine z_K (fun K359 e360 => ?_)
  replace hf := bnd_out e360 hf
  have i362 : isC K359 a0 12 0 := by rw [e360]; exact isC_set i341
  have i363 : isC K359 K.1 20 4520 := by rw [e360]; exact isC_set i342
  have i364 : isC K359 K8.1 23 3 := by rw [e360]; exact isC_set i343
  have i365 : isC K359 K23.1 20 124 := by rw [e360]; exact isC_set i344
  have i366 : isC K359 K40.1 20 8 := by rw [e360]; exact isC_set i345
  have i367 : isC K359 K59.1 20 8 := by rw [e360]; exact isC_set i346
  have i368 : isC K359 K80.1 20 8 := by rw [e360]; exact isC_set i347
  have i369 : isC K359 K103.1 20 8 := by rw [e360]; exact isC_set i348
  have i370 : isC K359 K128.1 20 8 := by rw [e360]; exact isC_set i349
  have i371 : isC K359 K155.1 20 8 := by rw [e360]; exact isC_set i350
  have i372 : isC K359 K184.1 20 8 := by rw [e360]; exact isC_set i351
  have i373 : isC K359 K215.1 23 8 := by rw [e360]; exact isC_set i352
  have i374 : isC K359 K248.1 20 64 := by rw [e360]; exact isC_set i353
  have i375 : isC K359 K283.1 20 8 := by rw [e360]; exact isC_set i354
  have i376 : isC K359 K320.1 20 4 := by rw [e360]; exact isC_set i356
  have r377 : K359.2.2 a0 0 = some K.1 := by rw [e360]; exact ref_set_ne (by decide) r355
  refine z_aload_n C 0 0 dX12_init_115 rfl rfl ?_
  refine z_iconst C 4 dX12_init_116 (by decide) ?_
  refine z_newai C 4 q_ac_i (by decide) (by decide) (by decide) (by decide) (by decide) dX12_init_117 ?_
  refine z_K (fun K378 e379 => ?_)
  replace hf := bnd_out e379 hf
  have i381 : isC K378 a0 12 0 := by rw [e379]; exact isC_new i362
  have i382 : isC K378 K.1 20 4520 := by rw [e379]; exact isC_new i363
  have i383 : isC K378 K8.1 23 3 := by rw [e379]; exact isC_new i364
  have i384 : isC K378 K23.1 20 124 := by rw [e379]; exact isC_new i365
  have i385 : isC K378 K40.1 20 8 := by rw [e379]; exact isC_new i366
  have i386 : isC K378 K59.1 20 8 := by rw [e379]; exact isC_new i367
  have i387 : isC K378 K80.1 20 8 := by rw [e379]; exact isC_new i368
  have i388 : isC K378 K103.1 20 8 := by rw [e379]; exact isC_new i369
  have i389 : isC K378 K128.1 20 8 := by rw [e379]; exact isC_new i370
  have i390 : isC K378 K155.1 20 8 := by rw [e379]; exact isC_new i371
  have i391 : isC K378 K184.1 20 8 := by rw [e379]; exact isC_new i372
  have i392 : isC K378 K215.1 23 8 := by rw [e379]; exact isC_new i373
  have i393 : isC K378 K248.1 20 64 := by rw [e379]; exact isC_new i374
  have i394 : isC K378 K283.1 20 8 := by rw [e379]; exact isC_new i375
  have i395 : isC K378 K320.1 20 4 := by rw [e379]; exact isC_new i376
  have r396 : K378.2.2 a0 0 = some K.1 := by rw [e379]; exact ref_new i362 r377
  have i397 : isC K378 K359.1 20 4 := by rw [e379]; exact isC_new0
  refine z_M (fun M398 e399 => ?_)
  replace hf := bnd_out e399 hf
  refine z_putRF C ok_X12 i381 29 (by decide) rfl rfl hnm rfl rfl rfl q_fl_X12_53 dX12_init_119 ?_
  refine z_K (fun K400 e401 => ?_)
  replace hf := bnd_out e401 hf
  have i403 : isC K400 a0 12 0 := by rw [e401]; exact isC_set i381
  have i404 : isC K400 K.1 20 4520 := by rw [e401]; exact isC_set i382
  have i405 : isC K400 K8.1 23 3 := by rw [e401]; exact isC_set i383
  have i406 : isC K400 K23.1 20 124 := by rw [e401]; exact isC_set i384
  have i407 : isC K400 K40.1 20 8 := by rw [e401]; exact isC_set i385
  have i408 : isC K400 K59.1 20 8 := by rw [e401]; exact isC_set i386
  have i409 : isC K400 K80.1 20 8 := by rw [e401]; exact isC_set i387
  have i410 : isC K400 K103.1 20 8 := by rw [e401]; exact isC_set i388
  have i411 : isC K400 K128.1 20 8 := by rw [e401]; exact isC_set i389
  have i412 : isC K400 K155.1 20 8 := by rw [e401]; exact isC_set i390
  have i413 : isC K400 K184.1 20 8 := by rw [e401]; exact isC_set i391
  have i414 : isC K400 K215.1 23 8 := by rw [e401]; exact isC_set i392
  have i415 : isC K400 K248.1 20 64 := by rw [e401]; exact isC_set i393
  have i416 : isC K400 K283.1 20 8 := by rw [e401]; exact isC_set i394
  have i417 : isC K400 K320.1 20 4 := by rw [e401]; exact isC_set i395
  have i418 : isC K400 K359.1 20 4 := by rw [e401]; exact isC_set i397
  have r419 : K400.2.2 a0 0 = some K.1 := by rw [e401]; exact ref_set_ne (by decide) r396
  refine z_aload_n C 0 0 dX12_init_122 rfl rfl ?_
  refine z_iconst C 4 dX12_init_123 (by decide) ?_
  refine z_newai C 4 q_ac_i (by decide) (by decide) (by decide) (by decide) (by decide) dX12_init_124 ?_
  refine z_K (fun K420 e421 => ?_)
  replace hf := bnd_out e421 hf
  have i423 : isC K420 a0 12 0 := by rw [e421]; exact isC_new i403
  have i424 : isC K420 K.1 20 4520 := by rw [e421]; exact isC_new i404
  have i425 : isC K420 K8.1 23 3 := by rw [e421]; exact isC_new i405
  have i426 : isC K420 K23.1 20 124 := by rw [e421]; exact isC_new i406
  have i427 : isC K420 K40.1 20 8 := by rw [e421]; exact isC_new i407
  have i428 : isC K420 K59.1 20 8 := by rw [e421]; exact isC_new i408
  have i429 : isC K420 K80.1 20 8 := by rw [e421]; exact isC_new i409
  have i430 : isC K420 K103.1 20 8 := by rw [e421]; exact isC_new i410
  have i431 : isC K420 K128.1 20 8 := by rw [e421]; exact isC_new i411
  have i432 : isC K420 K155.1 20 8 := by rw [e421]; exact isC_new i412
  have i433 : isC K420 K184.1 20 8 := by rw [e421]; exact isC_new i413
  have i434 : isC K420 K215.1 23 8 := by rw [e421]; exact isC_new i414
  have i435 : isC K420 K248.1 20 64 := by rw [e421]; exact isC_new i415
  have i436 : isC K420 K283.1 20 8 := by rw [e421]; exact isC_new i416
  have i437 : isC K420 K320.1 20 4 := by rw [e421]; exact isC_new i417
  have i438 : isC K420 K359.1 20 4 := by rw [e421]; exact isC_new i418
  have r439 : K420.2.2 a0 0 = some K.1 := by rw [e421]; exact ref_new i403 r419
  have i440 : isC K420 K400.1 20 4 := by rw [e421]; exact isC_new0
  refine z_M (fun M441 e442 => ?_)
  replace hf := bnd_out e442 hf
  refine z_putRF C ok_X12 i423 30 (by decide) rfl rfl hnm rfl rfl rfl q_fl_X12_56 dX12_init_126 ?_
  refine z_K (fun K443 e444 => ?_)
  replace hf := bnd_out e444 hf
  have i446 : isC K443 a0 12 0 := by rw [e444]; exact isC_set i423
  have i447 : isC K443 K.1 20 4520 := by rw [e444]; exact isC_set i424
  have i448 : isC K443 K8.1 23 3 := by rw [e444]; exact isC_set i425
  have i449 : isC K443 K23.1 20 124 := by rw [e444]; exact isC_set i426
  have i450 : isC K443 K40.1 20 8 := by rw [e444]; exact isC_set i427
  have i451 : isC K443 K59.1 20 8 := by rw [e444]; exact isC_set i428
  have i452 : isC K443 K80.1 20 8 := by rw [e444]; exact isC_set i429
  have i453 : isC K443 K103.1 20 8 := by rw [e444]; exact isC_set i430
  have i454 : isC K443 K128.1 20 8 := by rw [e444]; exact isC_set i431
  have i455 : isC K443 K155.1 20 8 := by rw [e444]; exact isC_set i432
  have i456 : isC K443 K184.1 20 8 := by rw [e444]; exact isC_set i433
  have i457 : isC K443 K215.1 23 8 := by rw [e444]; exact isC_set i434
  have i458 : isC K443 K248.1 20 64 := by rw [e444]; exact isC_set i435
  have i459 : isC K443 K283.1 20 8 := by rw [e444]; exact isC_set i436
  have i460 : isC K443 K320.1 20 4 := by rw [e444]; exact isC_set i437
  have i461 : isC K443 K359.1 20 4 := by rw [e444]; exact isC_set i438
  have i462 : isC K443 K400.1 20 4 := by rw [e444]; exact isC_set i440
  have r463 : K443.2.2 a0 0 = some K.1 := by rw [e444]; exact ref_set_ne (by decide) r439
  refine z_aload_n C 0 0 dX12_init_129 rfl rfl ?_
  refine z_bipush C 8 dX12_init_130 (by decide) ?_
  refine z_newai C 8 q_ac_i (by decide) (by decide) (by decide) (by decide) (by decide) dX12_init_132 ?_
  refine z_K (fun K464 e465 => ?_)
  replace hf := bnd_out e465 hf
  have i467 : isC K464 a0 12 0 := by rw [e465]; exact isC_new i446
  have i468 : isC K464 K.1 20 4520 := by rw [e465]; exact isC_new i447
  have i469 : isC K464 K8.1 23 3 := by rw [e465]; exact isC_new i448
  have i470 : isC K464 K23.1 20 124 := by rw [e465]; exact isC_new i449
  have i471 : isC K464 K40.1 20 8 := by rw [e465]; exact isC_new i450
  have i472 : isC K464 K59.1 20 8 := by rw [e465]; exact isC_new i451
  have i473 : isC K464 K80.1 20 8 := by rw [e465]; exact isC_new i452
  have i474 : isC K464 K103.1 20 8 := by rw [e465]; exact isC_new i453
  have i475 : isC K464 K128.1 20 8 := by rw [e465]; exact isC_new i454
  have i476 : isC K464 K155.1 20 8 := by rw [e465]; exact isC_new i455
  have i477 : isC K464 K184.1 20 8 := by rw [e465]; exact isC_new i456
  have i478 : isC K464 K215.1 23 8 := by rw [e465]; exact isC_new i457
  have i479 : isC K464 K248.1 20 64 := by rw [e465]; exact isC_new i458
  have i480 : isC K464 K283.1 20 8 := by rw [e465]; exact isC_new i459
  have i481 : isC K464 K320.1 20 4 := by rw [e465]; exact isC_new i460
  have i482 : isC K464 K359.1 20 4 := by rw [e465]; exact isC_new i461
  have i483 : isC K464 K400.1 20 4 := by rw [e465]; exact isC_new i462
  have r484 : K464.2.2 a0 0 = some K.1 := by rw [e465]; exact ref_new i446 r463
  have i485 : isC K464 K443.1 20 8 := by rw [e465]; exact isC_new0
  refine z_M (fun M486 e487 => ?_)
  replace hf := bnd_out e487 hf
  refine z_putRF C ok_X12 i467 34 (by decide) rfl rfl hnm rfl rfl rfl q_fl_X12_59 dX12_init_134 ?_
  refine z_K (fun K488 e489 => ?_)
  replace hf := bnd_out e489 hf
  have i491 : isC K488 a0 12 0 := by rw [e489]; exact isC_set i467
  have i492 : isC K488 K.1 20 4520 := by rw [e489]; exact isC_set i468
  have i493 : isC K488 K8.1 23 3 := by rw [e489]; exact isC_set i469
  have i494 : isC K488 K23.1 20 124 := by rw [e489]; exact isC_set i470
  have i495 : isC K488 K40.1 20 8 := by rw [e489]; exact isC_set i471
  have i496 : isC K488 K59.1 20 8 := by rw [e489]; exact isC_set i472
  have i497 : isC K488 K80.1 20 8 := by rw [e489]; exact isC_set i473
  have i498 : isC K488 K103.1 20 8 := by rw [e489]; exact isC_set i474
  have i499 : isC K488 K128.1 20 8 := by rw [e489]; exact isC_set i475
  have i500 : isC K488 K155.1 20 8 := by rw [e489]; exact isC_set i476
  have i501 : isC K488 K184.1 20 8 := by rw [e489]; exact isC_set i477
  have i502 : isC K488 K215.1 23 8 := by rw [e489]; exact isC_set i478
  have i503 : isC K488 K248.1 20 64 := by rw [e489]; exact isC_set i479
  have i504 : isC K488 K283.1 20 8 := by rw [e489]; exact isC_set i480
  have i505 : isC K488 K320.1 20 4 := by rw [e489]; exact isC_set i481
  have i506 : isC K488 K359.1 20 4 := by rw [e489]; exact isC_set i482
  have i507 : isC K488 K400.1 20 4 := by rw [e489]; exact isC_set i483
  have i508 : isC K488 K443.1 20 8 := by rw [e489]; exact isC_set i485
  have r509 : K488.2.2 a0 0 = some K.1 := by rw [e489]; exact ref_set_ne (by decide) r484
  refine z_aload_n C 0 0 dX12_init_137 rfl rfl ?_
  refine z_bipush C 8 dX12_init_138 (by decide) ?_
  refine z_newai C 8 q_ac_i (by decide) (by decide) (by decide) (by decide) (by decide) dX12_init_140 ?_
  refine z_K (fun K510 e511 => ?_)
  replace hf := bnd_out e511 hf
  have i513 : isC K510 a0 12 0 := by rw [e511]; exact isC_new i491
  have i514 : isC K510 K.1 20 4520 := by rw [e511]; exact isC_new i492
  have i515 : isC K510 K8.1 23 3 := by rw [e511]; exact isC_new i493
  have i516 : isC K510 K23.1 20 124 := by rw [e511]; exact isC_new i494
  have i517 : isC K510 K40.1 20 8 := by rw [e511]; exact isC_new i495
  have i518 : isC K510 K59.1 20 8 := by rw [e511]; exact isC_new i496
  have i519 : isC K510 K80.1 20 8 := by rw [e511]; exact isC_new i497
  have i520 : isC K510 K103.1 20 8 := by rw [e511]; exact isC_new i498
  have i521 : isC K510 K128.1 20 8 := by rw [e511]; exact isC_new i499
  have i522 : isC K510 K155.1 20 8 := by rw [e511]; exact isC_new i500
  have i523 : isC K510 K184.1 20 8 := by rw [e511]; exact isC_new i501
  have i524 : isC K510 K215.1 23 8 := by rw [e511]; exact isC_new i502
  have i525 : isC K510 K248.1 20 64 := by rw [e511]; exact isC_new i503
  have i526 : isC K510 K283.1 20 8 := by rw [e511]; exact isC_new i504
  have i527 : isC K510 K320.1 20 4 := by rw [e511]; exact isC_new i505
  have i528 : isC K510 K359.1 20 4 := by rw [e511]; exact isC_new i506
  have i529 : isC K510 K400.1 20 4 := by rw [e511]; exact isC_new i507
  have i530 : isC K510 K443.1 20 8 := by rw [e511]; exact isC_new i508
  have r531 : K510.2.2 a0 0 = some K.1 := by rw [e511]; exact ref_new i491 r509
  have i532 : isC K510 K488.1 20 8 := by rw [e511]; exact isC_new0
  refine z_M (fun M533 e534 => ?_)
  replace hf := bnd_out e534 hf
  refine z_putRF C ok_X12 i513 35 (by decide) rfl rfl hnm rfl rfl rfl q_fl_X12_62 dX12_init_142 ?_
  refine z_K (fun K535 e536 => ?_)
  replace hf := bnd_out e536 hf
  have i538 : isC K535 a0 12 0 := by rw [e536]; exact isC_set i513
  have i539 : isC K535 K.1 20 4520 := by rw [e536]; exact isC_set i514
  have i540 : isC K535 K8.1 23 3 := by rw [e536]; exact isC_set i515
  have i541 : isC K535 K23.1 20 124 := by rw [e536]; exact isC_set i516
  have i542 : isC K535 K40.1 20 8 := by rw [e536]; exact isC_set i517
  have i543 : isC K535 K59.1 20 8 := by rw [e536]; exact isC_set i518
  have i544 : isC K535 K80.1 20 8 := by rw [e536]; exact isC_set i519
  have i545 : isC K535 K103.1 20 8 := by rw [e536]; exact isC_set i520
  have i546 : isC K535 K128.1 20 8 := by rw [e536]; exact isC_set i521
  have i547 : isC K535 K155.1 20 8 := by rw [e536]; exact isC_set i522
  have i548 : isC K535 K184.1 20 8 := by rw [e536]; exact isC_set i523
  have i549 : isC K535 K215.1 23 8 := by rw [e536]; exact isC_set i524
  have i550 : isC K535 K248.1 20 64 := by rw [e536]; exact isC_set i525
  have i551 : isC K535 K283.1 20 8 := by rw [e536]; exact isC_set i526
  have i552 : isC K535 K320.1 20 4 := by rw [e536]; exact isC_set i527
  have i553 : isC K535 K359.1 20 4 := by rw [e536]; exact isC_set i528
  have i554 : isC K535 K400.1 20 4 := by rw [e536]; exact isC_set i529
  have i555 : isC K535 K443.1 20 8 := by rw [e536]; exact isC_set i530
  have i556 : isC K535 K488.1 20 8 := by rw [e536]; exact isC_set i532
  have r557 : K535.2.2 a0 0 = some K.1 := by rw [e536]; exact ref_set_ne (by decide) r531
  refine z_aload_n C 0 0 dX12_init_145 rfl rfl ?_
  refine z_sipush C 128 dX12_init_146 (by decide) ?_
  refine z_newai C 128 q_ac_i (by decide) (by decide) (by decide) (by decide) (by decide) dX12_init_149 ?_
  refine z_K (fun K558 e559 => ?_)
  replace hf := bnd_out e559 hf
  have i561 : isC K558 a0 12 0 := by rw [e559]; exact isC_new i538
  have i562 : isC K558 K.1 20 4520 := by rw [e559]; exact isC_new i539
  have i563 : isC K558 K8.1 23 3 := by rw [e559]; exact isC_new i540
  have i564 : isC K558 K23.1 20 124 := by rw [e559]; exact isC_new i541
  have i565 : isC K558 K40.1 20 8 := by rw [e559]; exact isC_new i542
  have i566 : isC K558 K59.1 20 8 := by rw [e559]; exact isC_new i543
  have i567 : isC K558 K80.1 20 8 := by rw [e559]; exact isC_new i544
  have i568 : isC K558 K103.1 20 8 := by rw [e559]; exact isC_new i545
  have i569 : isC K558 K128.1 20 8 := by rw [e559]; exact isC_new i546
  have i570 : isC K558 K155.1 20 8 := by rw [e559]; exact isC_new i547
  have i571 : isC K558 K184.1 20 8 := by rw [e559]; exact isC_new i548
  have i572 : isC K558 K215.1 23 8 := by rw [e559]; exact isC_new i549
  have i573 : isC K558 K248.1 20 64 := by rw [e559]; exact isC_new i550
  have i574 : isC K558 K283.1 20 8 := by rw [e559]; exact isC_new i551
  have i575 : isC K558 K320.1 20 4 := by rw [e559]; exact isC_new i552
  have i576 : isC K558 K359.1 20 4 := by rw [e559]; exact isC_new i553
  have i577 : isC K558 K400.1 20 4 := by rw [e559]; exact isC_new i554
  have i578 : isC K558 K443.1 20 8 := by rw [e559]; exact isC_new i555
  have i579 : isC K558 K488.1 20 8 := by rw [e559]; exact isC_new i556
  have r580 : K558.2.2 a0 0 = some K.1 := by rw [e559]; exact ref_new i538 r557
  have i581 : isC K558 K535.1 20 128 := by rw [e559]; exact isC_new0
  refine z_M (fun M582 e583 => ?_)
  replace hf := bnd_out e583 hf
  refine z_putRF C ok_X12 i561 36 (by decide) rfl rfl hnm rfl rfl rfl q_fl_X12_65 dX12_init_151 ?_
  refine z_K (fun K584 e585 => ?_)
  replace hf := bnd_out e585 hf
  have i587 : isC K584 a0 12 0 := by rw [e585]; exact isC_set i561
  have i588 : isC K584 K.1 20 4520 := by rw [e585]; exact isC_set i562
  have i589 : isC K584 K8.1 23 3 := by rw [e585]; exact isC_set i563
  have i590 : isC K584 K23.1 20 124 := by rw [e585]; exact isC_set i564
  have i591 : isC K584 K40.1 20 8 := by rw [e585]; exact isC_set i565
  have i592 : isC K584 K59.1 20 8 := by rw [e585]; exact isC_set i566
  have i593 : isC K584 K80.1 20 8 := by rw [e585]; exact isC_set i567
  have i594 : isC K584 K103.1 20 8 := by rw [e585]; exact isC_set i568
  have i595 : isC K584 K128.1 20 8 := by rw [e585]; exact isC_set i569
  have i596 : isC K584 K155.1 20 8 := by rw [e585]; exact isC_set i570
  have i597 : isC K584 K184.1 20 8 := by rw [e585]; exact isC_set i571
  have i598 : isC K584 K215.1 23 8 := by rw [e585]; exact isC_set i572
  have i599 : isC K584 K248.1 20 64 := by rw [e585]; exact isC_set i573
  have i600 : isC K584 K283.1 20 8 := by rw [e585]; exact isC_set i574
  have i601 : isC K584 K320.1 20 4 := by rw [e585]; exact isC_set i575
  have i602 : isC K584 K359.1 20 4 := by rw [e585]; exact isC_set i576
  have i603 : isC K584 K400.1 20 4 := by rw [e585]; exact isC_set i577
  have i604 : isC K584 K443.1 20 8 := by rw [e585]; exact isC_set i578
  have i605 : isC K584 K488.1 20 8 := by rw [e585]; exact isC_set i579
  have i606 : isC K584 K535.1 20 128 := by rw [e585]; exact isC_set i581
  have r607 : K584.2.2 a0 0 = some K.1 := by rw [e585]; exact ref_set_ne (by decide) r580
  refine z_aload_n C 0 0 dX12_init_154 rfl rfl ?_
  refine z_bipush C 64 dX12_init_155 (by decide) ?_
  refine z_newai C 64 q_ac_i (by decide) (by decide) (by decide) (by decide) (by decide) dX12_init_157 ?_
  refine z_K (fun K608 e609 => ?_)
  replace hf := bnd_out e609 hf
  have i611 : isC K608 a0 12 0 := by rw [e609]; exact isC_new i587
  have i612 : isC K608 K.1 20 4520 := by rw [e609]; exact isC_new i588
  have i613 : isC K608 K8.1 23 3 := by rw [e609]; exact isC_new i589
  have i614 : isC K608 K23.1 20 124 := by rw [e609]; exact isC_new i590
  have i615 : isC K608 K40.1 20 8 := by rw [e609]; exact isC_new i591
  have i616 : isC K608 K59.1 20 8 := by rw [e609]; exact isC_new i592
  have i617 : isC K608 K80.1 20 8 := by rw [e609]; exact isC_new i593
  have i618 : isC K608 K103.1 20 8 := by rw [e609]; exact isC_new i594
  have i619 : isC K608 K128.1 20 8 := by rw [e609]; exact isC_new i595
  have i620 : isC K608 K155.1 20 8 := by rw [e609]; exact isC_new i596
  have i621 : isC K608 K184.1 20 8 := by rw [e609]; exact isC_new i597
  have i622 : isC K608 K215.1 23 8 := by rw [e609]; exact isC_new i598
  have i623 : isC K608 K248.1 20 64 := by rw [e609]; exact isC_new i599
  have i624 : isC K608 K283.1 20 8 := by rw [e609]; exact isC_new i600
  have i625 : isC K608 K320.1 20 4 := by rw [e609]; exact isC_new i601
  have i626 : isC K608 K359.1 20 4 := by rw [e609]; exact isC_new i602
  have i627 : isC K608 K400.1 20 4 := by rw [e609]; exact isC_new i603
  have i628 : isC K608 K443.1 20 8 := by rw [e609]; exact isC_new i604
  have i629 : isC K608 K488.1 20 8 := by rw [e609]; exact isC_new i605
  have i630 : isC K608 K535.1 20 128 := by rw [e609]; exact isC_new i606
  have r631 : K608.2.2 a0 0 = some K.1 := by rw [e609]; exact ref_new i587 r607
  have i632 : isC K608 K584.1 20 64 := by rw [e609]; exact isC_new0
  refine z_M (fun M633 e634 => ?_)
  replace hf := bnd_out e634 hf
  refine z_putRF C ok_X12 i611 37 (by decide) rfl rfl hnm rfl rfl rfl q_fl_X12_68 dX12_init_159 ?_
  refine z_K (fun K635 e636 => ?_)
  replace hf := bnd_out e636 hf
  have i638 : isC K635 a0 12 0 := by rw [e636]; exact isC_set i611
  have i639 : isC K635 K.1 20 4520 := by rw [e636]; exact isC_set i612
  have i640 : isC K635 K8.1 23 3 := by rw [e636]; exact isC_set i613
  have i641 : isC K635 K23.1 20 124 := by rw [e636]; exact isC_set i614
  have i642 : isC K635 K40.1 20 8 := by rw [e636]; exact isC_set i615
  have i643 : isC K635 K59.1 20 8 := by rw [e636]; exact isC_set i616
  have i644 : isC K635 K80.1 20 8 := by rw [e636]; exact isC_set i617
  have i645 : isC K635 K103.1 20 8 := by rw [e636]; exact isC_set i618
  have i646 : isC K635 K128.1 20 8 := by rw [e636]; exact isC_set i619
  have i647 : isC K635 K155.1 20 8 := by rw [e636]; exact isC_set i620
  have i648 : isC K635 K184.1 20 8 := by rw [e636]; exact isC_set i621
  have i649 : isC K635 K215.1 23 8 := by rw [e636]; exact isC_set i622
  have i650 : isC K635 K248.1 20 64 := by rw [e636]; exact isC_set i623
  have i651 : isC K635 K283.1 20 8 := by rw [e636]; exact isC_set i624
  have i652 : isC K635 K320.1 20 4 := by rw [e636]; exact isC_set i625
  have i653 : isC K635 K359.1 20 4 := by rw [e636]; exact isC_set i626
  have i654 : isC K635 K400.1 20 4 := by rw [e636]; exact isC_set i627
  have i655 : isC K635 K443.1 20 8 := by rw [e636]; exact isC_set i628
  have i656 : isC K635 K488.1 20 8 := by rw [e636]; exact isC_set i629
  have i657 : isC K635 K535.1 20 128 := by rw [e636]; exact isC_set i630
  have i658 : isC K635 K584.1 20 64 := by rw [e636]; exact isC_set i632
  have r659 : K635.2.2 a0 0 = some K.1 := by rw [e636]; exact ref_set_ne (by decide) r631
  refine z_aload_n C 0 0 dX12_init_162 rfl rfl ?_
  refine z_bipush C 64 dX12_init_163 (by decide) ?_
  refine z_newai C 64 q_ac_i (by decide) (by decide) (by decide) (by decide) (by decide) dX12_init_165 ?_
  refine z_K (fun K660 e661 => ?_)
  replace hf := bnd_out e661 hf
  have i663 : isC K660 a0 12 0 := by rw [e661]; exact isC_new i638
  have i664 : isC K660 K.1 20 4520 := by rw [e661]; exact isC_new i639
  have i665 : isC K660 K8.1 23 3 := by rw [e661]; exact isC_new i640
  have i666 : isC K660 K23.1 20 124 := by rw [e661]; exact isC_new i641
  have i667 : isC K660 K40.1 20 8 := by rw [e661]; exact isC_new i642
  have i668 : isC K660 K59.1 20 8 := by rw [e661]; exact isC_new i643
  have i669 : isC K660 K80.1 20 8 := by rw [e661]; exact isC_new i644
  have i670 : isC K660 K103.1 20 8 := by rw [e661]; exact isC_new i645
  have i671 : isC K660 K128.1 20 8 := by rw [e661]; exact isC_new i646
  have i672 : isC K660 K155.1 20 8 := by rw [e661]; exact isC_new i647
  have i673 : isC K660 K184.1 20 8 := by rw [e661]; exact isC_new i648
  have i674 : isC K660 K215.1 23 8 := by rw [e661]; exact isC_new i649
  have i675 : isC K660 K248.1 20 64 := by rw [e661]; exact isC_new i650
  have i676 : isC K660 K283.1 20 8 := by rw [e661]; exact isC_new i651
  have i677 : isC K660 K320.1 20 4 := by rw [e661]; exact isC_new i652
  have i678 : isC K660 K359.1 20 4 := by rw [e661]; exact isC_new i653
  have i679 : isC K660 K400.1 20 4 := by rw [e661]; exact isC_new i654
  have i680 : isC K660 K443.1 20 8 := by rw [e661]; exact isC_new i655
  have i681 : isC K660 K488.1 20 8 := by rw [e661]; exact isC_new i656
  have i682 : isC K660 K535.1 20 128 := by rw [e661]; exact isC_new i657
  have i683 : isC K660 K584.1 20 64 := by rw [e661]; exact isC_new i658
  have r684 : K660.2.2 a0 0 = some K.1 := by rw [e661]; exact ref_new i638 r659
  have i685 : isC K660 K635.1 20 64 := by rw [e661]; exact isC_new0
  refine z_M (fun M686 e687 => ?_)
  replace hf := bnd_out e687 hf
  refine z_putRF C ok_X12 i663 38 (by decide) rfl rfl hnm rfl rfl rfl q_fl_X12_71 dX12_init_167 ?_
  refine z_K (fun K688 e689 => ?_)
  replace hf := bnd_out e689 hf
  have i691 : isC K688 a0 12 0 := by rw [e689]; exact isC_set i663
  have i692 : isC K688 K.1 20 4520 := by rw [e689]; exact isC_set i664
  have i693 : isC K688 K8.1 23 3 := by rw [e689]; exact isC_set i665
  have i694 : isC K688 K23.1 20 124 := by rw [e689]; exact isC_set i666
  have i695 : isC K688 K40.1 20 8 := by rw [e689]; exact isC_set i667
  have i696 : isC K688 K59.1 20 8 := by rw [e689]; exact isC_set i668
  have i697 : isC K688 K80.1 20 8 := by rw [e689]; exact isC_set i669
  have i698 : isC K688 K103.1 20 8 := by rw [e689]; exact isC_set i670
  have i699 : isC K688 K128.1 20 8 := by rw [e689]; exact isC_set i671
  have i700 : isC K688 K155.1 20 8 := by rw [e689]; exact isC_set i672
  have i701 : isC K688 K184.1 20 8 := by rw [e689]; exact isC_set i673
  have i702 : isC K688 K215.1 23 8 := by rw [e689]; exact isC_set i674
  have i703 : isC K688 K248.1 20 64 := by rw [e689]; exact isC_set i675
  have i704 : isC K688 K283.1 20 8 := by rw [e689]; exact isC_set i676
  have i705 : isC K688 K320.1 20 4 := by rw [e689]; exact isC_set i677
  have i706 : isC K688 K359.1 20 4 := by rw [e689]; exact isC_set i678
  have i707 : isC K688 K400.1 20 4 := by rw [e689]; exact isC_set i679
  have i708 : isC K688 K443.1 20 8 := by rw [e689]; exact isC_set i680
  have i709 : isC K688 K488.1 20 8 := by rw [e689]; exact isC_set i681
  have i710 : isC K688 K535.1 20 128 := by rw [e689]; exact isC_set i682
  have i711 : isC K688 K584.1 20 64 := by rw [e689]; exact isC_set i683
  have i712 : isC K688 K635.1 20 64 := by rw [e689]; exact isC_set i685
  have r713 : K688.2.2 a0 0 = some K.1 := by rw [e689]; exact ref_set_ne (by decide) r684
  refine z_aload_n C 0 0 dX12_init_170 rfl rfl ?_
  refine z_bipush C 64 dX12_init_171 (by decide) ?_
  refine z_newai C 64 q_ac_i (by decide) (by decide) (by decide) (by decide) (by decide) dX12_init_173 ?_
  refine z_K (fun K714 e715 => ?_)
  replace hf := bnd_out e715 hf
  have i717 : isC K714 a0 12 0 := by rw [e715]; exact isC_new i691
  have i718 : isC K714 K.1 20 4520 := by rw [e715]; exact isC_new i692
  have i719 : isC K714 K8.1 23 3 := by rw [e715]; exact isC_new i693
  have i720 : isC K714 K23.1 20 124 := by rw [e715]; exact isC_new i694
  have i721 : isC K714 K40.1 20 8 := by rw [e715]; exact isC_new i695
  have i722 : isC K714 K59.1 20 8 := by rw [e715]; exact isC_new i696
  have i723 : isC K714 K80.1 20 8 := by rw [e715]; exact isC_new i697
  have i724 : isC K714 K103.1 20 8 := by rw [e715]; exact isC_new i698
  have i725 : isC K714 K128.1 20 8 := by rw [e715]; exact isC_new i699
  have i726 : isC K714 K155.1 20 8 := by rw [e715]; exact isC_new i700
  have i727 : isC K714 K184.1 20 8 := by rw [e715]; exact isC_new i701
  have i728 : isC K714 K215.1 23 8 := by rw [e715]; exact isC_new i702
  have i729 : isC K714 K248.1 20 64 := by rw [e715]; exact isC_new i703
  have i730 : isC K714 K283.1 20 8 := by rw [e715]; exact isC_new i704
  have i731 : isC K714 K320.1 20 4 := by rw [e715]; exact isC_new i705
  have i732 : isC K714 K359.1 20 4 := by rw [e715]; exact isC_new i706
  have i733 : isC K714 K400.1 20 4 := by rw [e715]; exact isC_new i707
  have i734 : isC K714 K443.1 20 8 := by rw [e715]; exact isC_new i708
  have i735 : isC K714 K488.1 20 8 := by rw [e715]; exact isC_new i709
  have i736 : isC K714 K535.1 20 128 := by rw [e715]; exact isC_new i710
  have i737 : isC K714 K584.1 20 64 := by rw [e715]; exact isC_new i711
  have i738 : isC K714 K635.1 20 64 := by rw [e715]; exact isC_new i712
  have r739 : K714.2.2 a0 0 = some K.1 := by rw [e715]; exact ref_new i691 r713
  have i740 : isC K714 K688.1 20 64 := by rw [e715]; exact isC_new0
  refine z_M (fun M741 e742 => ?_)
  replace hf := bnd_out e742 hf
  refine z_putRF C ok_X12 i717 39 (by decide) rfl rfl hnm rfl rfl rfl q_fl_X12_74 dX12_init_175 ?_
  refine z_K (fun K743 e744 => ?_)
  replace hf := bnd_out e744 hf
  have i746 : isC K743 a0 12 0 := by rw [e744]; exact isC_set i717
  have i747 : isC K743 K.1 20 4520 := by rw [e744]; exact isC_set i718
  have i748 : isC K743 K8.1 23 3 := by rw [e744]; exact isC_set i719
  have i749 : isC K743 K23.1 20 124 := by rw [e744]; exact isC_set i720
  have i750 : isC K743 K40.1 20 8 := by rw [e744]; exact isC_set i721
  have i751 : isC K743 K59.1 20 8 := by rw [e744]; exact isC_set i722
  have i752 : isC K743 K80.1 20 8 := by rw [e744]; exact isC_set i723
  have i753 : isC K743 K103.1 20 8 := by rw [e744]; exact isC_set i724
  have i754 : isC K743 K128.1 20 8 := by rw [e744]; exact isC_set i725
  have i755 : isC K743 K155.1 20 8 := by rw [e744]; exact isC_set i726
  have i756 : isC K743 K184.1 20 8 := by rw [e744]; exact isC_set i727
  have i757 : isC K743 K215.1 23 8 := by rw [e744]; exact isC_set i728
  have i758 : isC K743 K248.1 20 64 := by rw [e744]; exact isC_set i729
  have i759 : isC K743 K283.1 20 8 := by rw [e744]; exact isC_set i730
  have i760 : isC K743 K320.1 20 4 := by rw [e744]; exact isC_set i731
  have i761 : isC K743 K359.1 20 4 := by rw [e744]; exact isC_set i732
  have i762 : isC K743 K400.1 20 4 := by rw [e744]; exact isC_set i733
  have i763 : isC K743 K443.1 20 8 := by rw [e744]; exact isC_set i734
  have i764 : isC K743 K488.1 20 8 := by rw [e744]; exact isC_set i735
  have i765 : isC K743 K535.1 20 128 := by rw [e744]; exact isC_set i736
  have i766 : isC K743 K584.1 20 64 := by rw [e744]; exact isC_set i737
  have i767 : isC K743 K635.1 20 64 := by rw [e744]; exact isC_set i738
  have i768 : isC K743 K688.1 20 64 := by rw [e744]; exact isC_set i740
  have r769 : K743.2.2 a0 0 = some K.1 := by rw [e744]; exact ref_set_ne (by decide) r739
  refine z_aload_n C 0 0 dX12_init_178 rfl rfl ?_
  refine z_sipush C 2048 dX12_init_179 (by decide) ?_
  refine z_newai C 2048 q_ac_i (by decide) (by decide) (by decide) (by decide) (by decide) dX12_init_182 ?_
  refine z_K (fun K770 e771 => ?_)
  replace hf := bnd_out e771 hf
  have i773 : isC K770 a0 12 0 := by rw [e771]; exact isC_new i746
  have i774 : isC K770 K.1 20 4520 := by rw [e771]; exact isC_new i747
  have i775 : isC K770 K8.1 23 3 := by rw [e771]; exact isC_new i748
  have i776 : isC K770 K23.1 20 124 := by rw [e771]; exact isC_new i749
  have i777 : isC K770 K40.1 20 8 := by rw [e771]; exact isC_new i750
  have i778 : isC K770 K59.1 20 8 := by rw [e771]; exact isC_new i751
  have i779 : isC K770 K80.1 20 8 := by rw [e771]; exact isC_new i752
  have i780 : isC K770 K103.1 20 8 := by rw [e771]; exact isC_new i753
  have i781 : isC K770 K128.1 20 8 := by rw [e771]; exact isC_new i754
  have i782 : isC K770 K155.1 20 8 := by rw [e771]; exact isC_new i755
  have i783 : isC K770 K184.1 20 8 := by rw [e771]; exact isC_new i756
  have i784 : isC K770 K215.1 23 8 := by rw [e771]; exact isC_new i757
  have i785 : isC K770 K248.1 20 64 := by rw [e771]; exact isC_new i758
  have i786 : isC K770 K283.1 20 8 := by rw [e771]; exact isC_new i759
  have i787 : isC K770 K320.1 20 4 := by rw [e771]; exact isC_new i760
  have i788 : isC K770 K359.1 20 4 := by rw [e771]; exact isC_new i761
  have i789 : isC K770 K400.1 20 4 := by rw [e771]; exact isC_new i762
  have i790 : isC K770 K443.1 20 8 := by rw [e771]; exact isC_new i763
  have i791 : isC K770 K488.1 20 8 := by rw [e771]; exact isC_new i764
  have i792 : isC K770 K535.1 20 128 := by rw [e771]; exact isC_new i765
  have i793 : isC K770 K584.1 20 64 := by rw [e771]; exact isC_new i766
  have i794 : isC K770 K635.1 20 64 := by rw [e771]; exact isC_new i767
  have i795 : isC K770 K688.1 20 64 := by rw [e771]; exact isC_new i768
  have r796 : K770.2.2 a0 0 = some K.1 := by rw [e771]; exact ref_new i746 r769
  have i797 : isC K770 K743.1 20 2048 := by rw [e771]; exact isC_new0
  refine z_M (fun M798 e799 => ?_)
  replace hf := bnd_out e799 hf
  refine z_putRF C ok_X12 i773 40 (by decide) rfl rfl hnm rfl rfl rfl q_fl_X12_77 dX12_init_184 ?_
  refine z_K (fun K800 e801 => ?_)
  replace hf := bnd_out e801 hf
  have i803 : isC K800 a0 12 0 := by rw [e801]; exact isC_set i773
  have i804 : isC K800 K.1 20 4520 := by rw [e801]; exact isC_set i774
  have i805 : isC K800 K8.1 23 3 := by rw [e801]; exact isC_set i775
  have i806 : isC K800 K23.1 20 124 := by rw [e801]; exact isC_set i776
  have i807 : isC K800 K40.1 20 8 := by rw [e801]; exact isC_set i777
  have i808 : isC K800 K59.1 20 8 := by rw [e801]; exact isC_set i778
  have i809 : isC K800 K80.1 20 8 := by rw [e801]; exact isC_set i779
  have i810 : isC K800 K103.1 20 8 := by rw [e801]; exact isC_set i780
  have i811 : isC K800 K128.1 20 8 := by rw [e801]; exact isC_set i781
  have i812 : isC K800 K155.1 20 8 := by rw [e801]; exact isC_set i782
  have i813 : isC K800 K184.1 20 8 := by rw [e801]; exact isC_set i783
  have i814 : isC K800 K215.1 23 8 := by rw [e801]; exact isC_set i784
  have i815 : isC K800 K248.1 20 64 := by rw [e801]; exact isC_set i785
  have i816 : isC K800 K283.1 20 8 := by rw [e801]; exact isC_set i786
  have i817 : isC K800 K320.1 20 4 := by rw [e801]; exact isC_set i787
  have i818 : isC K800 K359.1 20 4 := by rw [e801]; exact isC_set i788
  have i819 : isC K800 K400.1 20 4 := by rw [e801]; exact isC_set i789
  have i820 : isC K800 K443.1 20 8 := by rw [e801]; exact isC_set i790
  have i821 : isC K800 K488.1 20 8 := by rw [e801]; exact isC_set i791
  have i822 : isC K800 K535.1 20 128 := by rw [e801]; exact isC_set i792
  have i823 : isC K800 K584.1 20 64 := by rw [e801]; exact isC_set i793
  have i824 : isC K800 K635.1 20 64 := by rw [e801]; exact isC_set i794
  have i825 : isC K800 K688.1 20 64 := by rw [e801]; exact isC_set i795
  have i826 : isC K800 K743.1 20 2048 := by rw [e801]; exact isC_set i797
  have r827 : K800.2.2 a0 0 = some K.1 := by rw [e801]; exact ref_set_ne (by decide) r796
  refine z_aload_n C 0 0 dX12_init_187 rfl rfl ?_
  refine z_bipush C 80 dX12_init_188 (by decide) ?_
  refine z_newai C 80 q_ac_i (by decide) (by decide) (by decide) (by decide) (by decide) dX12_init_190 ?_
  refine z_K (fun K828 e829 => ?_)
  replace hf := bnd_out e829 hf
  have i831 : isC K828 a0 12 0 := by rw [e829]; exact isC_new i803
  have i832 : isC K828 K.1 20 4520 := by rw [e829]; exact isC_new i804
  have i833 : isC K828 K8.1 23 3 := by rw [e829]; exact isC_new i805
  have i834 : isC K828 K23.1 20 124 := by rw [e829]; exact isC_new i806
  have i835 : isC K828 K40.1 20 8 := by rw [e829]; exact isC_new i807
  have i836 : isC K828 K59.1 20 8 := by rw [e829]; exact isC_new i808
  have i837 : isC K828 K80.1 20 8 := by rw [e829]; exact isC_new i809
  have i838 : isC K828 K103.1 20 8 := by rw [e829]; exact isC_new i810
  have i839 : isC K828 K128.1 20 8 := by rw [e829]; exact isC_new i811
  have i840 : isC K828 K155.1 20 8 := by rw [e829]; exact isC_new i812
  have i841 : isC K828 K184.1 20 8 := by rw [e829]; exact isC_new i813
  have i842 : isC K828 K215.1 23 8 := by rw [e829]; exact isC_new i814
  have i843 : isC K828 K248.1 20 64 := by rw [e829]; exact isC_new i815
  have i844 : isC K828 K283.1 20 8 := by rw [e829]; exact isC_new i816
  have i845 : isC K828 K320.1 20 4 := by rw [e829]; exact isC_new i817
  have i846 : isC K828 K359.1 20 4 := by rw [e829]; exact isC_new i818
  have i847 : isC K828 K400.1 20 4 := by rw [e829]; exact isC_new i819
  have i848 : isC K828 K443.1 20 8 := by rw [e829]; exact isC_new i820
  have i849 : isC K828 K488.1 20 8 := by rw [e829]; exact isC_new i821
  have i850 : isC K828 K535.1 20 128 := by rw [e829]; exact isC_new i822
  have i851 : isC K828 K584.1 20 64 := by rw [e829]; exact isC_new i823
  have i852 : isC K828 K635.1 20 64 := by rw [e829]; exact isC_new i824
  have i853 : isC K828 K688.1 20 64 := by rw [e829]; exact isC_new i825
  have i854 : isC K828 K743.1 20 2048 := by rw [e829]; exact isC_new i826
  have r855 : K828.2.2 a0 0 = some K.1 := by rw [e829]; exact ref_new i803 r827
  have i856 : isC K828 K800.1 20 80 := by rw [e829]; exact isC_new0
  refine z_M (fun M857 e858 => ?_)
  replace hf := bnd_out e858 hf
  refine z_putRF C ok_X12 i831 42 (by decide) rfl rfl hnm rfl rfl rfl q_fl_X12_80 dX12_init_192 ?_
  refine z_K (fun K859 e860 => ?_)
  replace hf := bnd_out e860 hf
  have i862 : isC K859 a0 12 0 := by rw [e860]; exact isC_set i831
  have i863 : isC K859 K.1 20 4520 := by rw [e860]; exact isC_set i832
  have i864 : isC K859 K8.1 23 3 := by rw [e860]; exact isC_set i833
  have i865 : isC K859 K23.1 20 124 := by rw [e860]; exact isC_set i834
  have i866 : isC K859 K40.1 20 8 := by rw [e860]; exact isC_set i835
  have i867 : isC K859 K59.1 20 8 := by rw [e860]; exact isC_set i836
  have i868 : isC K859 K80.1 20 8 := by rw [e860]; exact isC_set i837
  have i869 : isC K859 K103.1 20 8 := by rw [e860]; exact isC_set i838
  have i870 : isC K859 K128.1 20 8 := by rw [e860]; exact isC_set i839
  have i871 : isC K859 K155.1 20 8 := by rw [e860]; exact isC_set i840
  have i872 : isC K859 K184.1 20 8 := by rw [e860]; exact isC_set i841
  have i873 : isC K859 K215.1 23 8 := by rw [e860]; exact isC_set i842
  have i874 : isC K859 K248.1 20 64 := by rw [e860]; exact isC_set i843
  have i875 : isC K859 K283.1 20 8 := by rw [e860]; exact isC_set i844
  have i876 : isC K859 K320.1 20 4 := by rw [e860]; exact isC_set i845
  have i877 : isC K859 K359.1 20 4 := by rw [e860]; exact isC_set i846
  have i878 : isC K859 K400.1 20 4 := by rw [e860]; exact isC_set i847
  have i879 : isC K859 K443.1 20 8 := by rw [e860]; exact isC_set i848
  have i880 : isC K859 K488.1 20 8 := by rw [e860]; exact isC_set i849
  have i881 : isC K859 K535.1 20 128 := by rw [e860]; exact isC_set i850
  have i882 : isC K859 K584.1 20 64 := by rw [e860]; exact isC_set i851
  have i883 : isC K859 K635.1 20 64 := by rw [e860]; exact isC_set i852
  have i884 : isC K859 K688.1 20 64 := by rw [e860]; exact isC_set i853
  have i885 : isC K859 K743.1 20 2048 := by rw [e860]; exact isC_set i854
  have i886 : isC K859 K800.1 20 80 := by rw [e860]; exact isC_set i856
  have r887 : K859.2.2 a0 0 = some K.1 := by rw [e860]; exact ref_set_ne (by decide) r855
  refine z_aload_n C 0 0 dX12_init_195 rfl rfl ?_
  refine z_getR C ok_X12 i862 0 K.1 (by decide) rfl r887 q_fl_X12_7 dX12_init_196 ?_
  refine z_bipush C 6 dX12_init_199 (by decide) ?_
  refine z_iconst C (-1) dX12_init_201 (by decide) ?_
  refine z_iast C i863 (inb_in (by decide)) dX12_init_202 ?_
  refine z_M (fun M888 e889 => ?_)
  replace hf := bnd_out e889 hf
  subst hf
  exact z_vret C rfl dX12_init_203
theorem keep_X12_init (K : SK) (M : MM) (a0 : Nat) : Keep K (kX12_init K M a0).1 a0 := by
  unfold kX12_init
  have k0 : Keep K K a0 := Keep.rfl
  refine bnd_ind (P := fun q : SK × MM => Keep K q.1 a0) (fun K1 e2 => ?_)
  have k3 : Keep K K1 a0 := by rw [e2]; exact k0.new
  refine bnd_ind (P := fun q : SK × MM => Keep K q.1 a0) (fun M6 e7 => ?_)
  refine bnd_ind (P := fun q : SK × MM => Keep K q.1 a0) (fun K8 e9 => ?_)
  have k10 : Keep K K8 a0 := by rw [e9]; exact k3.set (Or.inl rfl)
  refine bnd_ind (P := fun q : SK × MM => Keep K q.1 a0) (fun K14 e15 => ?_)
  have k16 : Keep K K14 a0 := by rw [e15]; exact k10.new
  refine bnd_ind (P := fun q : SK × MM => Keep K q.1 a0) (fun M21 e22 => ?_)
  refine bnd_ind (P := fun q : SK × MM => Keep K q.1 a0) (fun K23 e24 => ?_)
  have k25 : Keep K K23 a0 := by rw [e24]; exact k16.set (Or.inl rfl)
  refine bnd_ind (P := fun q : SK × MM => Keep K q.1 a0) (fun K30 e31 => ?_)
  have k32 : Keep K K30 a0 := by rw [e31]; exact k25.new
  refine bnd_ind (P := fun q : SK × MM => Keep K q.1 a0) (fun M38 e39 => ?_)
  refine bnd_ind (P := fun q : SK × MM => Keep K q.1 a0) (fun K40 e41 => ?_)
  have k42 : Keep K K40 a0 := by rw [e41]; exact k32.set (Or.inl rfl)
  refine bnd_ind (P := fun q : SK × MM => Keep K q.1 a0) (fun K48 e49 => ?_)
  have k50 : Keep K K48 a0 := by rw [e49]; exact k42.new
  refine bnd_ind (P := fun q : SK × MM => Keep K q.1 a0) (fun M57 e58 => ?_)
  refine bnd_ind (P := fun q : SK × MM => Keep K q.1 a0) (fun K59 e60 => ?_)
  have k61 : Keep K K59 a0 := by rw [e60]; exact k50.set (Or.inl rfl)
  refine bnd_ind (P := fun q : SK × MM => Keep K q.1 a0) (fun K68 e69 => ?_)
  have k70 : Keep K K68 a0 := by rw [e69]; exact k61.new
  refine bnd_ind (P := fun q : SK × MM => Keep K q.1 a0) (fun M78 e79 => ?_)
  refine bnd_ind (P := fun q : SK × MM => Keep K q.1 a0) (fun K80 e81 => ?_)
  have k82 : Keep K K80 a0 := by rw [e81]; exact k70.set (Or.inl rfl)
  refine bnd_ind (P := fun q : SK × MM => Keep K q.1 a0) (fun K90 e91 => ?_)
  have k92 : Keep K K90 a0 := by rw [e91]; exact k82.new
  refine bnd_ind (P := fun q : SK × MM => Keep K q.1 a0) (fun M101 e102 => ?_)
  refine bnd_ind (P := fun q : SK × MM => Keep K q.1 a0) (fun K103 e104 => ?_)
  have k105 : Keep K K103 a0 := by rw [e104]; exact k92.set (Or.inl rfl)
  refine bnd_ind (P := fun q : SK × MM => Keep K q.1 a0) (fun K114 e115 => ?_)
  have k116 : Keep K K114 a0 := by rw [e115]; exact k105.new
  refine bnd_ind (P := fun q : SK × MM => Keep K q.1 a0) (fun M126 e127 => ?_)
  refine bnd_ind (P := fun q : SK × MM => Keep K q.1 a0) (fun K128 e129 => ?_)
  have k130 : Keep K K128 a0 := by rw [e129]; exact k116.set (Or.inl rfl)
  refine bnd_ind (P := fun q : SK × MM => Keep K q.1 a0) (fun K140 e141 => ?_)
  have k142 : Keep K K140 a0 := by rw [e141]; exact k130.new
  refine bnd_ind (P := fun q : SK × MM => Keep K q.1 a0) (fun M153 e154 => ?_)
  refine bnd_ind (P := fun q : SK × MM => Keep K q.1 a0) (fun K155 e156 => ?_)
  have k157 : Keep K K155 a0 := by rw [e156]; exact k142.set (Or.inl rfl)
  refine bnd_ind (P := fun q : SK × MM => Keep K q.1 a0) (fun K168 e169 => ?_)
  have k170 : Keep K K168 a0 := by rw [e169]; exact k157.new
  refine bnd_ind (P := fun q : SK × MM => Keep K q.1 a0) (fun M182 e183 => ?_)
  refine bnd_ind (P := fun q : SK × MM => Keep K q.1 a0) (fun K184 e185 => ?_)
  have k186 : Keep K K184 a0 := by rw [e185]; exact k170.set (Or.inl rfl)
  refine bnd_ind (P := fun q : SK × MM => Keep K q.1 a0) (fun K198 e199 => ?_)
  have k200 : Keep K K198 a0 := by rw [e199]; exact k186.new
  refine bnd_ind (P := fun q : SK × MM => Keep K q.1 a0) (fun M213 e214 => ?_)
  refine bnd_ind (P := fun q : SK × MM => Keep K q.1 a0) (fun K215 e216 => ?_)
  have k217 : Keep K K215 a0 := by rw [e216]; exact k200.set (Or.inl rfl)
  refine bnd_ind (P := fun q : SK × MM => Keep K q.1 a0) (fun K230 e231 => ?_)
  have k232 : Keep K K230 a0 := by rw [e231]; exact k217.new
  refine bnd_ind (P := fun q : SK × MM => Keep K q.1 a0) (fun M246 e247 => ?_)
  refine bnd_ind (P := fun q : SK × MM => Keep K q.1 a0) (fun K248 e249 => ?_)
  have k250 : Keep K K248 a0 := by rw [e249]; exact k232.set (Or.inl rfl)
  refine bnd_ind (P := fun q : SK × MM => Keep K q.1 a0) (fun K264 e265 => ?_)
  have k266 : Keep K K264 a0 := by rw [e265]; exact k250.new
  refine bnd_ind (P := fun q : SK × MM => Keep K q.1 a0) (fun M281 e282 => ?_)
  refine bnd_ind (P := fun q : SK × MM => Keep K q.1 a0) (fun K283 e284 => ?_)
  have k285 : Keep K K283 a0 := by rw [e284]; exact k266.set (Or.inl rfl)
  refine bnd_ind (P := fun q : SK × MM => Keep K q.1 a0) (fun K300 e301 => ?_)
  have k302 : Keep K K300 a0 := by rw [e301]; exact k285.new
  refine bnd_ind (P := fun q : SK × MM => Keep K q.1 a0) (fun M318 e319 => ?_)
  refine bnd_ind (P := fun q : SK × MM => Keep K q.1 a0) (fun K320 e321 => ?_)
  have k322 : Keep K K320 a0 := by rw [e321]; exact k302.set (Or.inl rfl)
  refine bnd_ind (P := fun q : SK × MM => Keep K q.1 a0) (fun K338 e339 => ?_)
  have k340 : Keep K K338 a0 := by rw [e339]; exact k322.new
  refine bnd_ind (P := fun q : SK × MM => Keep K q.1 a0) (fun M357 e358 => ?_)
  refine bnd_ind (P := fun q : SK × MM => Keep K q.1 a0) (fun K359 e360 => ?_)
  have k361 : Keep K K359 a0 := by rw [e360]; exact k340.set (Or.inl rfl)
  refine bnd_ind (P := fun q : SK × MM => Keep K q.1 a0) (fun K378 e379 => ?_)
  have k380 : Keep K K378 a0 := by rw [e379]; exact k361.new
  refine bnd_ind (P := fun q : SK × MM => Keep K q.1 a0) (fun M398 e399 => ?_)
  refine bnd_ind (P := fun q : SK × MM => Keep K q.1 a0) (fun K400 e401 => ?_)
  have k402 : Keep K K400 a0 := by rw [e401]; exact k380.set (Or.inl rfl)
  refine bnd_ind (P := fun q : SK × MM => Keep K q.1 a0) (fun K420 e421 => ?_)
  have k422 : Keep K K420 a0 := by rw [e421]; exact k402.new
  refine bnd_ind (P := fun q : SK × MM => Keep K q.1 a0) (fun M441 e442 => ?_)
  refine bnd_ind (P := fun q : SK × MM => Keep K q.1 a0) (fun K443 e444 => ?_)
  have k445 : Keep K K443 a0 := by rw [e444]; exact k422.set (Or.inl rfl)
  refine bnd_ind (P := fun q : SK × MM => Keep K q.1 a0) (fun K464 e465 => ?_)
  have k466 : Keep K K464 a0 := by rw [e465]; exact k445.new
  refine bnd_ind (P := fun q : SK × MM => Keep K q.1 a0) (fun M486 e487 => ?_)
  refine bnd_ind (P := fun q : SK × MM => Keep K q.1 a0) (fun K488 e489 => ?_)
  have k490 : Keep K K488 a0 := by rw [e489]; exact k466.set (Or.inl rfl)
  refine bnd_ind (P := fun q : SK × MM => Keep K q.1 a0) (fun K510 e511 => ?_)
  have k512 : Keep K K510 a0 := by rw [e511]; exact k490.new
  refine bnd_ind (P := fun q : SK × MM => Keep K q.1 a0) (fun M533 e534 => ?_)
  refine bnd_ind (P := fun q : SK × MM => Keep K q.1 a0) (fun K535 e536 => ?_)
  have k537 : Keep K K535 a0 := by rw [e536]; exact k512.set (Or.inl rfl)
  refine bnd_ind (P := fun q : SK × MM => Keep K q.1 a0) (fun K558 e559 => ?_)
  have k560 : Keep K K558 a0 := by rw [e559]; exact k537.new
  refine bnd_ind (P := fun q : SK × MM => Keep K q.1 a0) (fun M582 e583 => ?_)
  refine bnd_ind (P := fun q : SK × MM => Keep K q.1 a0) (fun K584 e585 => ?_)
  have k586 : Keep K K584 a0 := by rw [e585]; exact k560.set (Or.inl rfl)
  refine bnd_ind (P := fun q : SK × MM => Keep K q.1 a0) (fun K608 e609 => ?_)
  have k610 : Keep K K608 a0 := by rw [e609]; exact k586.new
  refine bnd_ind (P := fun q : SK × MM => Keep K q.1 a0) (fun M633 e634 => ?_)
  refine bnd_ind (P := fun q : SK × MM => Keep K q.1 a0) (fun K635 e636 => ?_)
  have k637 : Keep K K635 a0 := by rw [e636]; exact k610.set (Or.inl rfl)
  refine bnd_ind (P := fun q : SK × MM => Keep K q.1 a0) (fun K660 e661 => ?_)
  have k662 : Keep K K660 a0 := by rw [e661]; exact k637.new
  refine bnd_ind (P := fun q : SK × MM => Keep K q.1 a0) (fun M686 e687 => ?_)
  refine bnd_ind (P := fun q : SK × MM => Keep K q.1 a0) (fun K688 e689 => ?_)
  have k690 : Keep K K688 a0 := by rw [e689]; exact k662.set (Or.inl rfl)
  refine bnd_ind (P := fun q : SK × MM => Keep K q.1 a0) (fun K714 e715 => ?_)
  have k716 : Keep K K714 a0 := by rw [e715]; exact k690.new
  refine bnd_ind (P := fun q : SK × MM => Keep K q.1 a0) (fun M741 e742 => ?_)
  refine bnd_ind (P := fun q : SK × MM => Keep K q.1 a0) (fun K743 e744 => ?_)
  have k745 : Keep K K743 a0 := by rw [e744]; exact k716.set (Or.inl rfl)
  refine bnd_ind (P := fun q : SK × MM => Keep K q.1 a0) (fun K770 e771 => ?_)
  have k772 : Keep K K770 a0 := by rw [e771]; exact k745.new
  refine bnd_ind (P := fun q : SK × MM => Keep K q.1 a0) (fun M798 e799 => ?_)
  refine bnd_ind (P := fun q : SK × MM => Keep K q.1 a0) (fun K800 e801 => ?_)
  have k802 : Keep K K800 a0 := by rw [e801]; exact k772.set (Or.inl rfl)
  refine bnd_ind (P := fun q : SK × MM => Keep K q.1 a0) (fun K828 e829 => ?_)
  have k830 : Keep K K828 a0 := by rw [e829]; exact k802.new
  refine bnd_ind (P := fun q : SK × MM => Keep K q.1 a0) (fun M857 e858 => ?_)
  refine bnd_ind (P := fun q : SK × MM => Keep K q.1 a0) (fun K859 e860 => ?_)
  have k861 : Keep K K859 a0 := by rw [e860]; exact k830.set (Or.inl rfl)
  refine bnd_ind (P := fun q : SK × MM => Keep K q.1 a0) (fun M888 e889 => ?_)
  exact k861
theorem ov_X12_init {n0 : Nat} {K K' : SK} {M M' : MM} {a0 a0' : Nat} (h : Ov n0 K K') (ha0 : a0' = n0 + a0) : Ov n0 (kX12_init K M a0).1 (kX12_init K' M' a0').1 := by
  unfold kX12_init
  refine bnd_ind2 (P := fun q q' : SK × MM => Ov n0 q.1 q'.1) (fun K1 K1' e2 e2' => ?_)
  have oK1 : Ov n0 K1 K1' := by rw [e2, e2']; exact h.new
  refine bnd_ind2 (P := fun q q' : SK × MM => Ov n0 q.1 q'.1) (fun M6 M6' _ _ => ?_)
  refine bnd_ind2 (P := fun q q' : SK × MM => Ov n0 q.1 q'.1) (fun K8 K8' e9 e9' => ?_)
  have oK8 : Ov n0 K8 K8' := by rw [e9, e9']; exact oK1.set ha0 h.1
  refine bnd_ind2 (P := fun q q' : SK × MM => Ov n0 q.1 q'.1) (fun K14 K14' e15 e15' => ?_)
  have oK14 : Ov n0 K14 K14' := by rw [e15, e15']; exact oK8.new
  refine bnd_ind2 (P := fun q q' : SK × MM => Ov n0 q.1 q'.1) (fun M21 M21' _ _ => ?_)
  refine bnd_ind2 (P := fun q q' : SK × MM => Ov n0 q.1 q'.1) (fun K23 K23' e24 e24' => ?_)
  have oK23 : Ov n0 K23 K23' := by rw [e24, e24']; exact oK14.set ha0 oK8.1
  refine bnd_ind2 (P := fun q q' : SK × MM => Ov n0 q.1 q'.1) (fun K30 K30' e31 e31' => ?_)
  have oK30 : Ov n0 K30 K30' := by rw [e31, e31']; exact oK23.new
  refine bnd_ind2 (P := fun q q' : SK × MM => Ov n0 q.1 q'.1) (fun M38 M38' _ _ => ?_)
  refine bnd_ind2 (P := fun q q' : SK × MM => Ov n0 q.1 q'.1) (fun K40 K40' e41 e41' => ?_)
  have oK40 : Ov n0 K40 K40' := by rw [e41, e41']; exact oK30.set ha0 oK23.1
  refine bnd_ind2 (P := fun q q' : SK × MM => Ov n0 q.1 q'.1) (fun K48 K48' e49 e49' => ?_)
  have oK48 : Ov n0 K48 K48' := by rw [e49, e49']; exact oK40.new
  refine bnd_ind2 (P := fun q q' : SK × MM => Ov n0 q.1 q'.1) (fun M57 M57' _ _ => ?_)
  refine bnd_ind2 (P := fun q q' : SK × MM => Ov n0 q.1 q'.1) (fun K59 K59' e60 e60' => ?_)
  have oK59 : Ov n0 K59 K59' := by rw [e60, e60']; exact oK48.set ha0 oK40.1
  refine bnd_ind2 (P := fun q q' : SK × MM => Ov n0 q.1 q'.1) (fun K68 K68' e69 e69' => ?_)
  have oK68 : Ov n0 K68 K68' := by rw [e69, e69']; exact oK59.new
  refine bnd_ind2 (P := fun q q' : SK × MM => Ov n0 q.1 q'.1) (fun M78 M78' _ _ => ?_)
  refine bnd_ind2 (P := fun q q' : SK × MM => Ov n0 q.1 q'.1) (fun K80 K80' e81 e81' => ?_)
  have oK80 : Ov n0 K80 K80' := by rw [e81, e81']; exact oK68.set ha0 oK59.1
  refine bnd_ind2 (P := fun q q' : SK × MM => Ov n0 q.1 q'.1) (fun K90 K90' e91 e91' => ?_)
  have oK90 : Ov n0 K90 K90' := by rw [e91, e91']; exact oK80.new
  refine bnd_ind2 (P := fun q q' : SK × MM => Ov n0 q.1 q'.1) (fun M101 M101' _ _ => ?_)
  refine bnd_ind2 (P := fun q q' : SK × MM => Ov n0 q.1 q'.1) (fun K103 K103' e104 e104' => ?_)
  have oK103 : Ov n0 K103 K103' := by rw [e104, e104']; exact oK90.set ha0 oK80.1
  refine bnd_ind2 (P := fun q q' : SK × MM => Ov n0 q.1 q'.1) (fun K114 K114' e115 e115' => ?_)
  have oK114 : Ov n0 K114 K114' := by rw [e115, e115']; exact oK103.new
  refine bnd_ind2 (P := fun q q' : SK × MM => Ov n0 q.1 q'.1) (fun M126 M126' _ _ => ?_)
  refine bnd_ind2 (P := fun q q' : SK × MM => Ov n0 q.1 q'.1) (fun K128 K128' e129 e129' => ?_)
  have oK128 : Ov n0 K128 K128' := by rw [e129, e129']; exact oK114.set ha0 oK103.1
  refine bnd_ind2 (P := fun q q' : SK × MM => Ov n0 q.1 q'.1) (fun K140 K140' e141 e141' => ?_)
  have oK140 : Ov n0 K140 K140' := by rw [e141, e141']; exact oK128.new
  refine bnd_ind2 (P := fun q q' : SK × MM => Ov n0 q.1 q'.1) (fun M153 M153' _ _ => ?_)
  refine bnd_ind2 (P := fun q q' : SK × MM => Ov n0 q.1 q'.1) (fun K155 K155' e156 e156' => ?_)
  have oK155 : Ov n0 K155 K155' := by rw [e156, e156']; exact oK140.set ha0 oK128.1
  refine bnd_ind2 (P := fun q q' : SK × MM => Ov n0 q.1 q'.1) (fun K168 K168' e169 e169' => ?_)
  have oK168 : Ov n0 K168 K168' := by rw [e169, e169']; exact oK155.new
  refine bnd_ind2 (P := fun q q' : SK × MM => Ov n0 q.1 q'.1) (fun M182 M182' _ _ => ?_)
  refine bnd_ind2 (P := fun q q' : SK × MM => Ov n0 q.1 q'.1) (fun K184 K184' e185 e185' => ?_)
  have oK184 : Ov n0 K184 K184' := by rw [e185, e185']; exact oK168.set ha0 oK155.1
  refine bnd_ind2 (P := fun q q' : SK × MM => Ov n0 q.1 q'.1) (fun K198 K198' e199 e199' => ?_)
  have oK198 : Ov n0 K198 K198' := by rw [e199, e199']; exact oK184.new
  refine bnd_ind2 (P := fun q q' : SK × MM => Ov n0 q.1 q'.1) (fun M213 M213' _ _ => ?_)
  refine bnd_ind2 (P := fun q q' : SK × MM => Ov n0 q.1 q'.1) (fun K215 K215' e216 e216' => ?_)
  have oK215 : Ov n0 K215 K215' := by rw [e216, e216']; exact oK198.set ha0 oK184.1
  refine bnd_ind2 (P := fun q q' : SK × MM => Ov n0 q.1 q'.1) (fun K230 K230' e231 e231' => ?_)
  have oK230 : Ov n0 K230 K230' := by rw [e231, e231']; exact oK215.new
  refine bnd_ind2 (P := fun q q' : SK × MM => Ov n0 q.1 q'.1) (fun M246 M246' _ _ => ?_)
  refine bnd_ind2 (P := fun q q' : SK × MM => Ov n0 q.1 q'.1) (fun K248 K248' e249 e249' => ?_)
  have oK248 : Ov n0 K248 K248' := by rw [e249, e249']; exact oK230.set ha0 oK215.1
  refine bnd_ind2 (P := fun q q' : SK × MM => Ov n0 q.1 q'.1) (fun K264 K264' e265 e265' => ?_)
  have oK264 : Ov n0 K264 K264' := by rw [e265, e265']; exact oK248.new
  refine bnd_ind2 (P := fun q q' : SK × MM => Ov n0 q.1 q'.1) (fun M281 M281' _ _ => ?_)
  refine bnd_ind2 (P := fun q q' : SK × MM => Ov n0 q.1 q'.1) (fun K283 K283' e284 e284' => ?_)
  have oK283 : Ov n0 K283 K283' := by rw [e284, e284']; exact oK264.set ha0 oK248.1
  refine bnd_ind2 (P := fun q q' : SK × MM => Ov n0 q.1 q'.1) (fun K300 K300' e301 e301' => ?_)
  have oK300 : Ov n0 K300 K300' := by rw [e301, e301']; exact oK283.new
  refine bnd_ind2 (P := fun q q' : SK × MM => Ov n0 q.1 q'.1) (fun M318 M318' _ _ => ?_)
  refine bnd_ind2 (P := fun q q' : SK × MM => Ov n0 q.1 q'.1) (fun K320 K320' e321 e321' => ?_)
  have oK320 : Ov n0 K320 K320' := by rw [e321, e321']; exact oK300.set ha0 oK283.1
  refine bnd_ind2 (P := fun q q' : SK × MM => Ov n0 q.1 q'.1) (fun K338 K338' e339 e339' => ?_)
  have oK338 : Ov n0 K338 K338' := by rw [e339, e339']; exact oK320.new
  refine bnd_ind2 (P := fun q q' : SK × MM => Ov n0 q.1 q'.1) (fun M357 M357' _ _ => ?_)
  refine bnd_ind2 (P := fun q q' : SK × MM => Ov n0 q.1 q'.1) (fun K359 K359' e360 e360' => ?_)
  have oK359 : Ov n0 K359 K359' := by rw [e360, e360']; exact oK338.set ha0 oK320.1
  refine bnd_ind2 (P := fun q q' : SK × MM => Ov n0 q.1 q'.1) (fun K378 K378' e379 e379' => ?_)
  have oK378 : Ov n0 K378 K378' := by rw [e379, e379']; exact oK359.new
  refine bnd_ind2 (P := fun q q' : SK × MM => Ov n0 q.1 q'.1) (fun M398 M398' _ _ => ?_)
  refine bnd_ind2 (P := fun q q' : SK × MM => Ov n0 q.1 q'.1) (fun K400 K400' e401 e401' => ?_)
  have oK400 : Ov n0 K400 K400' := by rw [e401, e401']; exact oK378.set ha0 oK359.1
  refine bnd_ind2 (P := fun q q' : SK × MM => Ov n0 q.1 q'.1) (fun K420 K420' e421 e421' => ?_)
  have oK420 : Ov n0 K420 K420' := by rw [e421, e421']; exact oK400.new
  refine bnd_ind2 (P := fun q q' : SK × MM => Ov n0 q.1 q'.1) (fun M441 M441' _ _ => ?_)
  refine bnd_ind2 (P := fun q q' : SK × MM => Ov n0 q.1 q'.1) (fun K443 K443' e444 e444' => ?_)
  have oK443 : Ov n0 K443 K443' := by rw [e444, e444']; exact oK420.set ha0 oK400.1
  refine bnd_ind2 (P := fun q q' : SK × MM => Ov n0 q.1 q'.1) (fun K464 K464' e465 e465' => ?_)
  have oK464 : Ov n0 K464 K464' := by rw [e465, e465']; exact oK443.new
  refine bnd_ind2 (P := fun q q' : SK × MM => Ov n0 q.1 q'.1) (fun M486 M486' _ _ => ?_)
  refine bnd_ind2 (P := fun q q' : SK × MM => Ov n0 q.1 q'.1) (fun K488 K488' e489 e489' => ?_)
  have oK488 : Ov n0 K488 K488' := by rw [e489, e489']; exact oK464.set ha0 oK443.1
  refine bnd_ind2 (P := fun q q' : SK × MM => Ov n0 q.1 q'.1) (fun K510 K510' e511 e511' => ?_)
  have oK510 : Ov n0 K510 K510' := by rw [e511, e511']; exact oK488.new
  refine bnd_ind2 (P := fun q q' : SK × MM => Ov n0 q.1 q'.1) (fun M533 M533' _ _ => ?_)
  refine bnd_ind2 (P := fun q q' : SK × MM => Ov n0 q.1 q'.1) (fun K535 K535' e536 e536' => ?_)
  have oK535 : Ov n0 K535 K535' := by rw [e536, e536']; exact oK510.set ha0 oK488.1
  refine bnd_ind2 (P := fun q q' : SK × MM => Ov n0 q.1 q'.1) (fun K558 K558' e559 e559' => ?_)
  have oK558 : Ov n0 K558 K558' := by rw [e559, e559']; exact oK535.new
  refine bnd_ind2 (P := fun q q' : SK × MM => Ov n0 q.1 q'.1) (fun M582 M582' _ _ => ?_)
  refine bnd_ind2 (P := fun q q' : SK × MM => Ov n0 q.1 q'.1) (fun K584 K584' e585 e585' => ?_)
  have oK584 : Ov n0 K584 K584' := by rw [e585, e585']; exact oK558.set ha0 oK535.1
  refine bnd_ind2 (P := fun q q' : SK × MM => Ov n0 q.1 q'.1) (fun K608 K608' e609 e609' => ?_)
  have oK608 : Ov n0 K608 K608' := by rw [e609, e609']; exact oK584.new
  refine bnd_ind2 (P := fun q q' : SK × MM => Ov n0 q.1 q'.1) (fun M633 M633' _ _ => ?_)
  refine bnd_ind2 (P := fun q q' : SK × MM => Ov n0 q.1 q'.1) (fun K635 K635' e636 e636' => ?_)
  have oK635 : Ov n0 K635 K635' := by rw [e636, e636']; exact oK608.set ha0 oK584.1
  refine bnd_ind2 (P := fun q q' : SK × MM => Ov n0 q.1 q'.1) (fun K660 K660' e661 e661' => ?_)
  have oK660 : Ov n0 K660 K660' := by rw [e661, e661']; exact oK635.new
  refine bnd_ind2 (P := fun q q' : SK × MM => Ov n0 q.1 q'.1) (fun M686 M686' _ _ => ?_)
  refine bnd_ind2 (P := fun q q' : SK × MM => Ov n0 q.1 q'.1) (fun K688 K688' e689 e689' => ?_)
  have oK688 : Ov n0 K688 K688' := by rw [e689, e689']; exact oK660.set ha0 oK635.1
  refine bnd_ind2 (P := fun q q' : SK × MM => Ov n0 q.1 q'.1) (fun K714 K714' e715 e715' => ?_)
  have oK714 : Ov n0 K714 K714' := by rw [e715, e715']; exact oK688.new
  refine bnd_ind2 (P := fun q q' : SK × MM => Ov n0 q.1 q'.1) (fun M741 M741' _ _ => ?_)
  refine bnd_ind2 (P := fun q q' : SK × MM => Ov n0 q.1 q'.1) (fun K743 K743' e744 e744' => ?_)
  have oK743 : Ov n0 K743 K743' := by rw [e744, e744']; exact oK714.set ha0 oK688.1
  refine bnd_ind2 (P := fun q q' : SK × MM => Ov n0 q.1 q'.1) (fun K770 K770' e771 e771' => ?_)
  have oK770 : Ov n0 K770 K770' := by rw [e771, e771']; exact oK743.new
  refine bnd_ind2 (P := fun q q' : SK × MM => Ov n0 q.1 q'.1) (fun M798 M798' _ _ => ?_)
  refine bnd_ind2 (P := fun q q' : SK × MM => Ov n0 q.1 q'.1) (fun K800 K800' e801 e801' => ?_)
  have oK800 : Ov n0 K800 K800' := by rw [e801, e801']; exact oK770.set ha0 oK743.1
  refine bnd_ind2 (P := fun q q' : SK × MM => Ov n0 q.1 q'.1) (fun K828 K828' e829 e829' => ?_)
  have oK828 : Ov n0 K828 K828' := by rw [e829, e829']; exact oK800.new
  refine bnd_ind2 (P := fun q q' : SK × MM => Ov n0 q.1 q'.1) (fun M857 M857' _ _ => ?_)
  refine bnd_ind2 (P := fun q q' : SK × MM => Ov n0 q.1 q'.1) (fun K859 K859' e860 e860' => ?_)
  have oK859 : Ov n0 K859 K859' := by rw [e860, e860']; exact oK828.set ha0 oK800.1
  refine bnd_ind2 (P := fun q q' : SK × MM => Ov n0 q.1 q'.1) (fun M888 M888' _ _ => ?_)
  exact oK859
set_option maxRecDepth 100000 in
theorem lkI_X12_init : LkI yX12_init cX12_init 1 0 := ⟨gw_of 1351 rfl (by decide +kernel), gw_of 1350 (by decide +kernel) (by decide +kernel), q_in2_X12, rfl, by decide +kernel, by decide +kernel, by decide +kernel⟩
