theorem q_is_X11 : Cond.instantiable RX11 8 ∈ GW := gw_of 133 (by decide +kernel) (by decide +kernel)
theorem q_is_X12 : Cond.instantiable RX12 44 ∈ GW := gw_of 1348 (by decide +kernel) (by decide +kernel)
theorem q_cl_L_7 : Cond.classLink RL 7 RX11 ∈ GW := gw_of 132 (by decide +kernel) (by decide +kernel)
theorem q_cl_L_10 : Cond.classLink RL 10 RX12 ∈ GW := gw_of 1347 (by decide +kernel) (by decide +kernel)
theorem q_ml_L_9 : Cond.methodLink RL 9 yX11_init ∈ GW := gw_of 134 (by decide +kernel) (by decide +kernel)
theorem q_ml_L_12 : Cond.methodLink RL 12 yX12_init ∈ GW := gw_of 1349 (by decide +kernel) (by decide +kernel)
theorem q_ls_0 : Cond.laysStatic RX7 "FIRST_LINE" "[I" ∈ lw_tbl := List.mem_of_getElem? (i := 648) (by decide +kernel)
theorem q_ls_1 : Cond.laysStatic RX7 "NUMBERS" "[I" ∈ lw_tbl := List.mem_of_getElem? (i := 742) (by decide +kernel)
theorem q_ls_2 : Cond.laysStatic RX7 "GREATEST" "[I" ∈ lw_tbl := List.mem_of_getElem? (i := 751) (by decide +kernel)
theorem q_ls_3 : Cond.laysStatic RX0 "RIGHT" "[I" ∈ lw_tbl := List.mem_of_getElem? (i := 900) (by decide +kernel)
theorem q_ls_4 : Cond.laysStatic RX0 "DOWN" "[I" ∈ lw_tbl := List.mem_of_getElem? (i := 902) (by decide +kernel)
theorem q_ls_5 : Cond.laysStatic "java/lang/String" "COMPACT_STRINGS" "Z" ∈ lw_tbl := List.mem_of_getElem? (i := 686) (by decide +kernel)
theorem q_ls_6 : Cond.laysStatic "jdk/internal/util/Preconditions" "SIOOBE_FORMATTER" "Ljava/util/function/BiFunction;" ∈ lw_tbl := List.mem_of_getElem? (i := 702) (by decide +kernel)
theorem q_in_str : Cond.initialized "java/lang/String" ∈ GW := gw_of 126 (by decide +kernel) (by decide +kernel)
theorem q_in_pre : Cond.initialized "jdk/internal/util/Preconditions" ∈ GW := gw_of 128 (by decide +kernel) (by decide +kernel)
theorem q_ao_X5 : Cond.arrayOver (.object RX5) ∈ lw_tbl := List.mem_of_getElem? (i := 147) (by decide +kernel)
theorem q_ao_X4 : Cond.arrayOver (.object RX4) ∈ lw_tbl := List.mem_of_getElem? (i := 149) (by decide +kernel)
theorem q_ao_X2 : Cond.arrayOver (.object RX2) ∈ lw_tbl := List.mem_of_getElem? (i := 151) (by decide +kernel)
theorem q_ao_X8 : Cond.arrayOver (.object RX8) ∈ lw_tbl := List.mem_of_getElem? (i := 153) (by decide +kernel)
theorem q_ao_X9 : Cond.arrayOver (.object RX9) ∈ lw_tbl := List.mem_of_getElem? (i := 357) (by decide +kernel)
theorem q_sr : ∀ w, w < 21 → Cond.stringRef RX7 (strIx w) (strTx w) ∈ lw_tbl := by
  intro w hw
  have h1 : ∀ w, w < 21 → lw_tbl[652 + w]? = some (Cond.stringRef RX7 (strIx w) (strTx w)) := by decide +kernel
  exact List.mem_of_getElem? (h1 w hw)
def nfl1 : List Cond := flatC (Jvm.Cond.and given_1 narrow_1)
theorem n_ar_0 : Cond.arrayOf (.static (st_tab 0).1 (st_tab 0).2.1 "[I") .int ∈ nfl1 := by decide +kernel
theorem n_ln_0 : Cond.eq (.length (.static (st_tab 0).1 (st_tab 0).2.1 "[I")) (.int (Int32.ofNat 5)) ∈ nfl1 := by decide +kernel
theorem n_el_0 : ∀ j, j < 5 → Cond.eq (.elem (.static (st_tab 0).1 (st_tab 0).2.1 "[I") (.int (Int32.ofNat j))) (.int (st_val 0 j)) ∈ nfl1 := by decide +kernel
theorem n_ar_1 : Cond.arrayOf (.static (st_tab 1).1 (st_tab 1).2.1 "[I") .int ∈ nfl1 := by decide +kernel
theorem n_ln_1 : Cond.eq (.length (.static (st_tab 1).1 (st_tab 1).2.1 "[I")) (.int (Int32.ofNat 20)) ∈ nfl1 := by decide +kernel
theorem n_el_1 : ∀ j, j < 20 → Cond.eq (.elem (.static (st_tab 1).1 (st_tab 1).2.1 "[I") (.int (Int32.ofNat j))) (.int (st_val 1 j)) ∈ nfl1 := by decide +kernel
theorem n_ar_2 : Cond.arrayOf (.static (st_tab 2).1 (st_tab 2).2.1 "[I") .int ∈ nfl1 := by decide +kernel
theorem n_ln_2 : Cond.eq (.length (.static (st_tab 2).1 (st_tab 2).2.1 "[I")) (.int (Int32.ofNat 100)) ∈ nfl1 := by decide +kernel
theorem n_el_2 : ∀ j, j < 100 → Cond.eq (.elem (.static (st_tab 2).1 (st_tab 2).2.1 "[I") (.int (Int32.ofNat j))) (.int (st_val 2 j)) ∈ nfl1 := by decide +kernel
theorem n_ar_3 : Cond.arrayOf (.static (st_tab 3).1 (st_tab 3).2.1 "[I") .int ∈ nfl1 := by decide +kernel
theorem n_ln_3 : Cond.eq (.length (.static (st_tab 3).1 (st_tab 3).2.1 "[I")) (.int (Int32.ofNat 8)) ∈ nfl1 := by decide +kernel
theorem n_el_3 : ∀ j, j < 8 → Cond.eq (.elem (.static (st_tab 3).1 (st_tab 3).2.1 "[I") (.int (Int32.ofNat j))) (.int (st_val 3 j)) ∈ nfl1 := by decide +kernel
theorem n_ar_4 : Cond.arrayOf (.static (st_tab 4).1 (st_tab 4).2.1 "[I") .int ∈ nfl1 := by decide +kernel
theorem n_ln_4 : Cond.eq (.length (.static (st_tab 4).1 (st_tab 4).2.1 "[I")) (.int (Int32.ofNat 8)) ∈ nfl1 := by decide +kernel
theorem n_el_4 : ∀ j, j < 8 → Cond.eq (.elem (.static (st_tab 4).1 (st_tab 4).2.1 "[I") (.int (Int32.ofNat j))) (.int (st_val 4 j)) ∈ nfl1 := by decide +kernel
theorem n_cs : Cond.eq (.static "java/lang/String" "COMPACT_STRINGS" "Z") (.int 1) ∈ nfl1 := by decide +kernel
theorem n_si : Cond.isRef (.static "jdk/internal/util/Preconditions" "SIOOBE_FORMATTER" "Ljava/util/function/BiFunction;") ∈ nfl1 := by decide +kernel
theorem n_s1 : ∀ w, w < 21 → Cond.exactly (.string RX7 (strIx w)) "java/lang/String" ∈ nfl1 := by decide +kernel
theorem n_s2 : ∀ w, w < 21 → Cond.eq (.field (.string RX7 (strIx w)) "java/lang/String" "coder" "B") (.int 0) ∈ nfl1 := by decide +kernel
theorem n_s3 : ∀ w, w < 21 → Cond.arrayOf (.field (.string RX7 (strIx w)) "java/lang/String" "value" "[B") .byte ∈ nfl1 := by decide +kernel
theorem n_s4 : ∀ w, w < 21 → Cond.eq (.length (.field (.string RX7 (strIx w)) "java/lang/String" "value" "[B")) (.int (Int32.ofNat (strLen.getD w 0))) ∈ nfl1 := by decide +kernel
def bs5 : List Nat := [234, 242, 251, 263, 274, 287, 302, 315, 333, 350, 366, 383, 403, 423, 442, 464, 487, 511, 537, 563, 0]
theorem n_s5a : ∀ w, w < 21 → ∀ j, j < strLen.getD w 0 → nfl1[bs5.getD w 0 + j]? = some (Cond.eq (.elem (.field (.string RX7 (strIx w)) "java/lang/String" "value" "[B") (.int (Int32.ofNat j))) (.int ((strByt.getD w []).getD j 0))) := by decide +kernel
theorem n_s5 : ∀ w, w < 21 → ∀ j, j < strLen.getD w 0 → Cond.eq (.elem (.field (.string RX7 (strIx w)) "java/lang/String" "value" "[B") (.int (Int32.ofNat j))) (.int ((strByt.getD w []).getD j 0)) ∈ nfl1 := fun w hw j hj => List.mem_of_getElem? (n_s5a w hw j hj)
def bs6 : List (List Nat) := [[], [246], [257, 258], [267, 268, 269], [279, 280, 281, 282], [293, 294, 295, 296, 297], [305, 306, 307, 308, 309, 310], [322, 323, 324, 325, 326, 327, 328], [338, 339, 340, 341, 342, 343, 344, 345], [353, 354, 355, 356, 357, 358, 359, 360, 361], [369, 370, 371, 372, 373, 374, 375, 376, 377, 378], [388, 389, 390, 391, 392, 393, 394, 395, 396, 397, 398], [407, 408, 409, 410, 411, 412, 413, 414, 415, 416, 417, 418], [425, 426, 427, 428, 429, 430, 431, 432, 433, 434, 435, 436, 437], [446, 447, 448, 449, 450, 451, 452, 453, 454, 455, 456, 457, 458, 459], [468, 469, 470, 471, 472, 473, 474, 475, 476, 477, 478, 479, 480, 481, 482], [491, 492, 493, 494, 495, 496, 497, 498, 499, 500, 501, 502, 503, 504, 505, 506], [516, 517, 518, 519, 520, 521, 522, 523, 524, 525, 526, 527, 528, 529, 530, 531, 532], [541, 542, 543, 544, 545, 546, 547, 548, 549, 550, 551, 552, 553, 554, 555, 556, 557, 558], [568, 569, 570, 571, 572, 573, 574, 575, 576, 577, 578, 579, 580, 581, 582, 583, 584, 585, 586], [591, 592, 593, 594, 595, 596, 597, 598, 599, 600, 601, 602, 603, 604, 605, 606, 607, 608, 609, 610]]
theorem n_s6_0 : ∀ w, w < 8 → ∀ v, v < w + 0 → nfl1[(bs6.getD (w + 0) []).getD v 0]? = some (Cond.not (Cond.eq (.string RX7 (strIx v)) (.string RX7 (strIx (w + 0))))) := by decide +kernel
theorem n_s6_8 : ∀ w, w < 5 → ∀ v, v < w + 8 → nfl1[(bs6.getD (w + 8) []).getD v 0]? = some (Cond.not (Cond.eq (.string RX7 (strIx v)) (.string RX7 (strIx (w + 8))))) := by decide +kernel
theorem n_s6_13 : ∀ w, w < 4 → ∀ v, v < w + 13 → nfl1[(bs6.getD (w + 13) []).getD v 0]? = some (Cond.not (Cond.eq (.string RX7 (strIx v)) (.string RX7 (strIx (w + 13))))) := by decide +kernel
theorem n_s6_17 : ∀ w, w < 4 → ∀ v, v < w + 17 → nfl1[(bs6.getD (w + 17) []).getD v 0]? = some (Cond.not (Cond.eq (.string RX7 (strIx v)) (.string RX7 (strIx (w + 17))))) := by decide +kernel
theorem n_s6a (w v : Nat) (hw : w < 21) (hv : v < w) : Cond.not (Cond.eq (.string RX7 (strIx v)) (.string RX7 (strIx w))) ∈ nfl1 := by
  rcases Nat.lt_or_ge w 8 with h | h
  · exact List.mem_of_getElem? (n_s6_0 w h v hv)
  · rcases Nat.lt_or_ge w 13 with h2 | h2
    · have := n_s6_8 (w - 8) (by omega) v (by omega)
      rw [show w - 8 + 8 = w by omega] at this
      exact List.mem_of_getElem? this
    · rcases Nat.lt_or_ge w 17 with h3 | h3
      · have := n_s6_13 (w - 13) (by omega) v (by omega)
        rw [show w - 13 + 13 = w by omega] at this
        exact List.mem_of_getElem? this
      · have := n_s6_17 (w - 17) (by omega) v (by omega)
        rw [show w - 17 + 17 = w by omega] at this
        exact List.mem_of_getElem? this
theorem n_s6 : ∀ w, w < 21 → ∀ v, v < 21 → w ≠ v → (Cond.not (Cond.eq (.string RX7 (strIx w)) (.string RX7 (strIx v))) ∈ nfl1 ∨ Cond.not (Cond.eq (.string RX7 (strIx v)) (.string RX7 (strIx w))) ∈ nfl1) := by
  intro w hw v hv hne
  rcases Nat.lt_or_ge w v with h | h
  · exact Or.inl (n_s6a v w hv h)
  · exact Or.inr (n_s6a w v hw (by omega))
theorem n_s0 : ∀ w, w < 21 → strLen.getD w 0 < 2 ^ 31 := by decide +kernel
theorem cmp_end {L i : Nat} (hL : L ≤ 3072) (hi : i ≤ 4000) : nI L - 6 < nI i ↔ L < i + 6 := by
  rw [Int32.lt_iff_toInt_lt, show (6 : Int32) = nI 6 from rfl, pk_sub_toInt (by omega) (by omega), nI_toInt (by omega)]
  omega
section
variable {p : Program} {l : Launch} {e : Env} {s : State} {m : MethodId} {args : Array Value} {below : List Frame} {meth : Method} {c : Code} {G : GG} {cells slots : Nat} {b L : Nat} {xs : Nat → Int32}
theorem law_end {K : SK} {M : MM} {lv : List (Nat × Value)} (C : CX p s m #[Value.ref b] meth c cL_law 4 (some .boolean) RL G) (hG : G.1 = s.heap.size) (hc : cells ≤ 600000) (hs : slots ≤ 7302250) : Z p l e room_1 s m #[Value.ref b] below meth c 4 G (lw_Z below #[Value.ref b] s) K cells slots M 1787 lv [.int 1] := fun H locs ls h1 h2 h3 => va_forget (fun q hq => by have h9 := h2.2.2 q hq; rw [← hG]; exact h9) (W.widen hc hs (lw_ret C.1 C.2.1 C.2.2.2.2.2.2.2.2.1 C.2.2.2.2.2.2.2.2.2 dL_law_1787))
set_option maxHeartbeats 4000000 in
set_option maxRecDepth 100000 in
theorem law_loop {Inv : SK → MM → Prop} (hInv : ∀ K M, Inv K M → KI K) (e0 : E0 Inv) (e1 : E1 Inv) (e2 : E2 Inv) (e3 : E3 Inv) (e4 : E4 Inv) (e5 : E5 Inv) (e6 : E6 Inv) (e7 : E7 Inv) (e8 : E8 Inv) (e9 : E9 Inv) (e10 : E10 Inv) (e11 : E11 Inv) (e12 : E12 Inv) (e13 : E13 Inv) (e14 : E14 Inv) (e15 : E15 Inv) (e16 : E16 Inv) (e17 : E17 Inv) (e18 : E18 Inv) (e19 : E19 Inv) (e20 : E20 Inv) (e21 : E21 Inv) (e22 : E22 Inv) (e23 : E23 Inv) (e24 : E24 Inv) (e25 : E25 Inv) (e26 : E26 Inv) (e27 : E27 Inv) (e28 : E28 Inv) (e29 : E29 Inv) (e30 : E30 Inv) (e31 : E31 Inv) (e32 : E32 Inv) (e33 : E33 Inv) (C : CX p s m #[Value.ref b] meth c cL_law 4 (some .boolean) RL G) (hX : va_X b L xs s s.heap) (hbl : b < s.heap.size) (hG : G.1 = s.heap.size) (hL : L ≤ 3072) : ∀ (n i t : Nat) (K : SK) (M : MM) (cells slots : Nat), i = 6 * t → i ≤ L + 6 → L + 12 - i < n → Inv K M → cells ≤ 200 + 39 * t → slots ≤ 13000 + 1167 * t → Z p l e room_1 s m #[Value.ref b] below meth c 4 G (lw_Z below #[Value.ref b] s) K cells slots M 18 [(0, .ref b), (1, .ref (G.1 + 0)), (2, .ref (G.1 + 90)), (3, .int (nI i))] [] := by
  have hbA : ¬ AG G b := by
    show ¬ G.1 ≤ b
    omega
  intro n
  induction n with
  | zero => intro i t K M cells slots _ _ h; omega
  | succ n ih =>
    intro i t K M cells slots hit hiL hn hI hc4 hs4
    refine z_iload_n C 3 3 dL_law_18 rfl rfl ?_
    refine z_aload_n C 0 0 dL_law_19 rfl rfl ?_
    refine z_slenL C hX hbl hbA dL_law_20 ?_
    refine z_bipush C 6 dL_law_21 (by decide) ?_
    refine z_isub C dL_law_23 ?_
    refine z_icmp_gt C 1786 dL_law_24 (by decide) (fun c1 => ?_) (fun c1 => ?_)
    · refine z_iconst C 1 dL_law_1786 (by decide) ?_
      exact law_end C hG (by omega) (by omega)
    · rw [cmp_end hL (by omega)] at c1
      have hi : i + 6 ≤ L := by omega
      refine z_aload_n C 0 0 dL_law_27 rfl rfl ?_
      refine z_iload_n C 3 3 dL_law_28 rfl rfl ?_
      refine z_sld0 C hX hbl hbA (by omega) hL dL_law_29 ?_
      refine z_bipush C 63 dL_law_30 (by decide) ?_
      refine z_iand C dL_law_32 ?_
      have hcb : cells ≤ 590000 ∧ slots ≤ 7200000 := ⟨by omega, by omega⟩
      have nxt : ∀ (K2 : SK) (M2 : MM) (cells2 slots2 : Nat), Inv K2 M2 → cells2 ≤ 200 + 39 * (t + 1) → slots2 ≤ 13000 + 1167 * (t + 1) → Z p l e room_1 s m #[Value.ref b] below meth c 4 G (lw_Z below #[Value.ref b] s) K2 cells2 slots2 M2 1780 [(0, .ref b), (1, .ref (G.1 + 0)), (2, .ref (G.1 + 90)), (3, .int (nI i))] [] := by
        intro K2 M2 cells2 slots2 hI2 h5 h6
        refine z_iinc C 3 (nI (i + 6)) [(3, .int (nI (i + 6))), (0, .ref b), (1, .ref (G.1 + 0)), (2, .ref (G.1 + 90))] dL_law_1780 rfl (nI_add i 6) (by decide) rfl rfl ?_
        refine z_goto C 18 dL_law_1783 (by decide) ?_
        refine z_lv (lv2 := [(0, .ref b), (1, .ref (G.1 + 0)), (2, .ref (G.1 + 90)), (3, .int (nI (i + 6)))]) [1, 2, 3, 0] rfl ?_
        exact ih (i + 6) (t + 1) K2 M2 cells2 slots2 (by omega) (by omega) (by omega) hI2 h5 h6
      generalize hxx : xs i &&& 63 = x
      by_cases c10 : x = 0
      · refine z_tableIn C 184 dL_law_33 (by rw [c10]; decide) (by rw [c10]; decide) (by rw [c10]; rfl) (by decide) ?_
        exact law_c0 hInv e0 C hX hbl hbA hi hL hI hcb (fun K2 M2 hI2 => nxt K2 M2 _ _ hI2 (by omega) (by omega))
      by_cases c11 : x = 1
      · refine z_tableIn C 247 dL_law_33 (by rw [c11]; decide) (by rw [c11]; decide) (by rw [c11]; rfl) (by decide) ?_
        exact law_c1 hInv e1 C hX hbl hbA hi hL hI hcb (fun K2 M2 hI2 => nxt K2 M2 _ _ hI2 (by omega) (by omega))
      by_cases c12 : x = 2
      · refine z_tableIn C 270 dL_law_33 (by rw [c12]; decide) (by rw [c12]; decide) (by rw [c12]; rfl) (by decide) ?_
        exact law_c2 hInv e2 C hX hbl hbA hi hL hI hcb (fun K2 M2 hI2 => nxt K2 M2 _ _ hI2 (by omega) (by omega))
      by_cases c13 : x = 3
      · refine z_tableIn C 303 dL_law_33 (by rw [c13]; decide) (by rw [c13]; decide) (by rw [c13]; rfl) (by decide) ?_
        exact law_c3 hInv e3 C hX hbl hbA hi hL hI hcb (fun K2 M2 hI2 => nxt K2 M2 _ _ hI2 (by omega) (by omega))
      by_cases c14 : x = 4
      · refine z_tableIn C 326 dL_law_33 (by rw [c14]; decide) (by rw [c14]; decide) (by rw [c14]; rfl) (by decide) ?_
        exact law_c4 hInv e4 C hX hbl hbA hi hL hI hcb (fun K2 M2 hI2 => nxt K2 M2 _ _ hI2 (by omega) (by omega))
      by_cases c15 : x = 5
      · refine z_tableIn C 359 dL_law_33 (by rw [c15]; decide) (by rw [c15]; decide) (by rw [c15]; rfl) (by decide) ?_
        exact law_c5 hInv e5 C hX hbl hbA hi hL hI hcb (fun K2 M2 hI2 => nxt K2 M2 _ _ hI2 (by omega) (by omega))
      by_cases c16 : x = 6
      · refine z_tableIn C 392 dL_law_33 (by rw [c16]; decide) (by rw [c16]; decide) (by rw [c16]; rfl) (by decide) ?_
        exact law_c6 hInv e6 C hX hbl hbA hi hL hI hcb (fun K2 M2 hI2 => nxt K2 M2 _ _ hI2 (by omega) (by omega))
      by_cases c17 : x = 7
      · refine z_tableIn C 425 dL_law_33 (by rw [c17]; decide) (by rw [c17]; decide) (by rw [c17]; rfl) (by decide) ?_
        exact law_c7 hInv e7 C hX hbl hbA hi hL hI hcb (fun K2 M2 hI2 => nxt K2 M2 _ _ hI2 (by omega) (by omega))
      by_cases c18 : x = 8
      · refine z_tableIn C 468 dL_law_33 (by rw [c18]; decide) (by rw [c18]; decide) (by rw [c18]; rfl) (by decide) ?_
        exact law_c8 hInv e8 C hX hbl hbA hi hL hI hcb (fun K2 M2 hI2 => nxt K2 M2 _ _ hI2 (by omega) (by omega))
      by_cases c19 : x = 9
      · refine z_tableIn C 511 dL_law_33 (by rw [c19]; decide) (by rw [c19]; decide) (by rw [c19]; rfl) (by decide) ?_
        exact law_c9 hInv e9 C hX hbl hbA hi hL hI hcb (fun K2 M2 hI2 => nxt K2 M2 _ _ hI2 (by omega) (by omega))
      by_cases c20 : x = 10
      · refine z_tableIn C 554 dL_law_33 (by rw [c20]; decide) (by rw [c20]; decide) (by rw [c20]; rfl) (by decide) ?_
        exact law_c10 hInv e10 C hX hbl hbA hi hL hI hcb (fun K2 M2 hI2 => nxt K2 M2 _ _ hI2 (by omega) (by omega))
      by_cases c21 : x = 11
      · refine z_tableIn C 597 dL_law_33 (by rw [c21]; decide) (by rw [c21]; decide) (by rw [c21]; rfl) (by decide) ?_
        exact law_c11 hInv e11 C hX hbl hbA hi hL hI hcb (fun K2 M2 hI2 => nxt K2 M2 _ _ hI2 (by omega) (by omega))
      by_cases c22 : x = 12
      · refine z_tableIn C 666 dL_law_33 (by rw [c22]; decide) (by rw [c22]; decide) (by rw [c22]; rfl) (by decide) ?_
        exact law_c12 hInv e12 C hX hbl hbA hi hL hI hcb (fun K2 M2 hI2 => nxt K2 M2 _ _ hI2 (by omega) (by omega))
      by_cases c23 : x = 13
      · refine z_tableIn C 709 dL_law_33 (by rw [c23]; decide) (by rw [c23]; decide) (by rw [c23]; rfl) (by decide) ?_
        exact law_c13 hInv e13 C hX hbl hbA hi hL hI hcb (fun K2 M2 hI2 => nxt K2 M2 _ _ hI2 (by omega) (by omega))
      by_cases c24 : x = 14
      · refine z_tableIn C 772 dL_law_33 (by rw [c24]; decide) (by rw [c24]; decide) (by rw [c24]; rfl) (by decide) ?_
        exact law_c14 hInv e14 C hX hbl hbA hi hL hI hcb (fun K2 M2 hI2 => nxt K2 M2 _ _ hI2 (by omega) (by omega))
      by_cases c25 : x = 15
      · refine z_tableIn C 867 dL_law_33 (by rw [c25]; decide) (by rw [c25]; decide) (by rw [c25]; rfl) (by decide) ?_
        exact law_c15 hInv e15 C hX hbl hbA hi hL hI hcb (fun K2 M2 hI2 => nxt K2 M2 _ _ hI2 (by omega) (by omega))
      by_cases c26 : x = 16
      · refine z_tableIn C 946 dL_law_33 (by rw [c26]; decide) (by rw [c26]; decide) (by rw [c26]; rfl) (by decide) ?_
        exact law_c16 hInv e16 C hX hbl hbA hi hL hI hcb (fun K2 M2 hI2 => nxt K2 M2 _ _ hI2 (by omega) (by omega))
      by_cases c27 : x = 17
      · refine z_tableIn C 1015 dL_law_33 (by rw [c27]; decide) (by rw [c27]; decide) (by rw [c27]; rfl) (by decide) ?_
        exact law_c17 hInv e17 C hX hbl hbA hi hL hI hcb (fun K2 M2 hI2 => nxt K2 M2 _ _ hI2 (by omega) (by omega))
      by_cases c28 : x = 18
      · refine z_tableIn C 1084 dL_law_33 (by rw [c28]; decide) (by rw [c28]; decide) (by rw [c28]; rfl) (by decide) ?_
        exact law_c18 hInv e18 C hX hbl hbA hi hL hI hcb (fun K2 M2 hI2 => nxt K2 M2 _ _ hI2 (by omega) (by omega))
      by_cases c29 : x = 19
      · refine z_tableIn C 1137 dL_law_33 (by rw [c29]; decide) (by rw [c29]; decide) (by rw [c29]; rfl) (by decide) ?_
        exact law_c19 hInv e19 C hX hbl hbA hi hL hI hcb (fun K2 M2 hI2 => nxt K2 M2 _ _ hI2 (by omega) (by omega))
      by_cases c30 : x = 20
      · refine z_tableIn C 1180 dL_law_33 (by rw [c30]; decide) (by rw [c30]; decide) (by rw [c30]; rfl) (by decide) ?_
        exact law_c20 hInv e20 C hX hbl hbA hi hL hI hcb (fun K2 M2 hI2 => nxt K2 M2 _ _ hI2 (by omega) (by omega))
      by_cases c31 : x = 21
      · refine z_tableIn C 1223 dL_law_33 (by rw [c31]; decide) (by rw [c31]; decide) (by rw [c31]; rfl) (by decide) ?_
        exact law_c21 hInv e21 C hX hbl hbA hi hL hI hcb (fun K2 M2 hI2 => nxt K2 M2 _ _ hI2 (by omega) (by omega))
      by_cases c32 : x = 22
      · refine z_tableIn C 1266 dL_law_33 (by rw [c32]; decide) (by rw [c32]; decide) (by rw [c32]; rfl) (by decide) ?_
        exact law_c22 hInv e22 C hX hbl hbA hi hL hI hcb (fun K2 M2 hI2 => nxt K2 M2 _ _ hI2 (by omega) (by omega))
      by_cases c33 : x = 23
      · refine z_tableIn C 1299 dL_law_33 (by rw [c33]; decide) (by rw [c33]; decide) (by rw [c33]; rfl) (by decide) ?_
        exact law_c23 hInv e23 C hX hbl hbA hi hL hI hcb (fun K2 M2 hI2 => nxt K2 M2 _ _ hI2 (by omega) (by omega))
      by_cases c34 : x = 24
      · refine z_tableIn C 1352 dL_law_33 (by rw [c34]; decide) (by rw [c34]; decide) (by rw [c34]; rfl) (by decide) ?_
        exact law_c24 hInv e24 C hX hbl hbA hi hL hI hcb (fun K2 M2 hI2 => nxt K2 M2 _ _ hI2 (by omega) (by omega))
      by_cases c35 : x = 25
      · refine z_tableIn C 1421 dL_law_33 (by rw [c35]; decide) (by rw [c35]; decide) (by rw [c35]; rfl) (by decide) ?_
        exact law_c25 hInv e25 C hX hbl hbA hi hL hI hcb (fun K2 M2 hI2 => nxt K2 M2 _ _ hI2 (by omega) (by omega))
      by_cases c36 : x = 26
      · refine z_tableIn C 1454 dL_law_33 (by rw [c36]; decide) (by rw [c36]; decide) (by rw [c36]; rfl) (by decide) ?_
        exact law_c26 hInv e26 C hX hbl hbA hi hL hI hcb (fun K2 M2 hI2 => nxt K2 M2 _ _ hI2 (by omega) (by omega))
      by_cases c37 : x = 27
      · refine z_tableIn C 1513 dL_law_33 (by rw [c37]; decide) (by rw [c37]; decide) (by rw [c37]; rfl) (by decide) ?_
        exact law_c27 hInv e27 C hX hbl hbA hi hL hI hcb (fun K2 M2 hI2 => nxt K2 M2 _ _ hI2 (by omega) (by omega))
      by_cases c38 : x = 28
      · refine z_tableIn C 1576 dL_law_33 (by rw [c38]; decide) (by rw [c38]; decide) (by rw [c38]; rfl) (by decide) ?_
        exact law_c28 hInv e28 C hX hbl hbA hi hL hI hcb (fun K2 M2 hI2 => nxt K2 M2 _ _ hI2 (by omega) (by omega))
      by_cases c39 : x = 29
      · refine z_tableIn C 1609 dL_law_33 (by rw [c39]; decide) (by rw [c39]; decide) (by rw [c39]; rfl) (by decide) ?_
        exact law_c29 hInv e29 C hX hbl hbA hi hL hI hcb (fun K2 M2 hI2 => nxt K2 M2 _ _ hI2 (by omega) (by omega))
      by_cases c40 : x = 30
      · refine z_tableIn C 1668 dL_law_33 (by rw [c40]; decide) (by rw [c40]; decide) (by rw [c40]; rfl) (by decide) ?_
        exact law_c30 hInv e30 C hX hbl hbA hi hL hI hcb (fun K2 M2 hI2 => nxt K2 M2 _ _ hI2 (by omega) (by omega))
      by_cases c41 : x = 31
      · refine z_tableIn C 1711 dL_law_33 (by rw [c41]; decide) (by rw [c41]; decide) (by rw [c41]; rfl) (by decide) ?_
        exact law_c31 hInv e31 C hX hbl hbA hi hL hI hcb (fun K2 M2 hI2 => nxt K2 M2 _ _ hI2 (by omega) (by omega))
      by_cases c42 : x = 32
      · refine z_tableIn C 1734 dL_law_33 (by rw [c42]; decide) (by rw [c42]; decide) (by rw [c42]; rfl) (by decide) ?_
        exact law_c32 hInv e32 C hX hbl hbA hi hL hI hcb (fun K2 M2 hI2 => nxt K2 M2 _ _ hI2 (by omega) (by omega))
      by_cases c43 : x = 33
      · refine z_tableIn C 1757 dL_law_33 (by rw [c43]; decide) (by rw [c43]; decide) (by rw [c43]; rfl) (by decide) ?_
        exact law_c33 hInv e33 C hX hbl hbA hi hL hI hcb (fun K2 M2 hI2 => nxt K2 M2 _ _ hI2 (by omega) (by omega))
      have ic10 : x.toInt ≠ 0 := fun q => c10 (Int32.toInt_inj.mp (q.trans (by decide)))
      have ic11 : x.toInt ≠ 1 := fun q => c11 (Int32.toInt_inj.mp (q.trans (by decide)))
      have ic12 : x.toInt ≠ 2 := fun q => c12 (Int32.toInt_inj.mp (q.trans (by decide)))
      have ic13 : x.toInt ≠ 3 := fun q => c13 (Int32.toInt_inj.mp (q.trans (by decide)))
      have ic14 : x.toInt ≠ 4 := fun q => c14 (Int32.toInt_inj.mp (q.trans (by decide)))
      have ic15 : x.toInt ≠ 5 := fun q => c15 (Int32.toInt_inj.mp (q.trans (by decide)))
      have ic16 : x.toInt ≠ 6 := fun q => c16 (Int32.toInt_inj.mp (q.trans (by decide)))
      have ic17 : x.toInt ≠ 7 := fun q => c17 (Int32.toInt_inj.mp (q.trans (by decide)))
      have ic18 : x.toInt ≠ 8 := fun q => c18 (Int32.toInt_inj.mp (q.trans (by decide)))
      have ic19 : x.toInt ≠ 9 := fun q => c19 (Int32.toInt_inj.mp (q.trans (by decide)))
      have ic20 : x.toInt ≠ 10 := fun q => c20 (Int32.toInt_inj.mp (q.trans (by decide)))
      have ic21 : x.toInt ≠ 11 := fun q => c21 (Int32.toInt_inj.mp (q.trans (by decide)))
      have ic22 : x.toInt ≠ 12 := fun q => c22 (Int32.toInt_inj.mp (q.trans (by decide)))
      have ic23 : x.toInt ≠ 13 := fun q => c23 (Int32.toInt_inj.mp (q.trans (by decide)))
      have ic24 : x.toInt ≠ 14 := fun q => c24 (Int32.toInt_inj.mp (q.trans (by decide)))
      have ic25 : x.toInt ≠ 15 := fun q => c25 (Int32.toInt_inj.mp (q.trans (by decide)))
      have ic26 : x.toInt ≠ 16 := fun q => c26 (Int32.toInt_inj.mp (q.trans (by decide)))
      have ic27 : x.toInt ≠ 17 := fun q => c27 (Int32.toInt_inj.mp (q.trans (by decide)))
      have ic28 : x.toInt ≠ 18 := fun q => c28 (Int32.toInt_inj.mp (q.trans (by decide)))
      have ic29 : x.toInt ≠ 19 := fun q => c29 (Int32.toInt_inj.mp (q.trans (by decide)))
      have ic30 : x.toInt ≠ 20 := fun q => c30 (Int32.toInt_inj.mp (q.trans (by decide)))
      have ic31 : x.toInt ≠ 21 := fun q => c31 (Int32.toInt_inj.mp (q.trans (by decide)))
      have ic32 : x.toInt ≠ 22 := fun q => c32 (Int32.toInt_inj.mp (q.trans (by decide)))
      have ic33 : x.toInt ≠ 23 := fun q => c33 (Int32.toInt_inj.mp (q.trans (by decide)))
      have ic34 : x.toInt ≠ 24 := fun q => c34 (Int32.toInt_inj.mp (q.trans (by decide)))
      have ic35 : x.toInt ≠ 25 := fun q => c35 (Int32.toInt_inj.mp (q.trans (by decide)))
      have ic36 : x.toInt ≠ 26 := fun q => c36 (Int32.toInt_inj.mp (q.trans (by decide)))
      have ic37 : x.toInt ≠ 27 := fun q => c37 (Int32.toInt_inj.mp (q.trans (by decide)))
      have ic38 : x.toInt ≠ 28 := fun q => c38 (Int32.toInt_inj.mp (q.trans (by decide)))
      have ic39 : x.toInt ≠ 29 := fun q => c39 (Int32.toInt_inj.mp (q.trans (by decide)))
      have ic40 : x.toInt ≠ 30 := fun q => c40 (Int32.toInt_inj.mp (q.trans (by decide)))
      have ic41 : x.toInt ≠ 31 := fun q => c41 (Int32.toInt_inj.mp (q.trans (by decide)))
      have ic42 : x.toInt ≠ 32 := fun q => c42 (Int32.toInt_inj.mp (q.trans (by decide)))
      have ic43 : x.toInt ≠ 33 := fun q => c43 (Int32.toInt_inj.mp (q.trans (by decide)))
      refine z_tableOut C 1780 dL_law_33 (by omega) (by decide) ?_
      exact nxt K M cells slots hI (by omega) (by omega)
end
