theorem okf_gen {P : Nat → Prop} {b q : Nat} {x : Int32} {y : Option Int32} {r : Option Nat} (hp : vp_in x 2 → P (1 + (b + q * ix x))) (h : y.bind (fun p1 => (if p1 = 0 then some none else gd (inb x 2) (some (some (1 + (b + q * ix x)))))) = some r) : ∀ a, r = some a → P a := by
  intro a ha
  obtain ⟨p1, -, h⟩ := bd_out h
  by_cases hc : p1 = 0
  · rw [if_pos hc] at h
    cases h
    cases ha
  · rw [if_neg hc] at h
    obtain ⟨g, h⟩ := gd_out h
    cases h
    cases ha
    exact hp (inb_in g)
theorem cpok_0 {n : Int32} {k : Nat} (h : cpok n k = true) : ¬ n < 0 := (of_decide_eq_true h).1
theorem cpok_1 {n : Int32} {k k2 : Nat} (h : cpok n k = true) (h2 : k ≤ k2) : (0 : Int32).toNatClampNeg + n.toNatClampNeg ≤ k2 := by
  have h1 := (of_decide_eq_true h).2
  have h0 : (0 : Int32).toNatClampNeg = 0 := by decide
  omega
/-! ===== words that are used, by their places ===== -/
theorem q_cl_X12_118 : Cond.constantLong RX12 118 32 ∈ GW := gw_of 1521 (by decide +kernel) (by decide +kernel)
theorem q_cl_X12_120 : Cond.constantLong RX12 120 96 ∈ GW := gw_of 1522 (by decide +kernel) (by decide +kernel)
theorem q_cl_X12_91 : Cond.constantLong RX12 91 1048576 ∈ GW := gw_of 1532 (by decide +kernel) (by decide +kernel)
theorem q_ct_J6_265 : Cond.constant RJ6 265 1431655765 ∈ GW := gw_of 966 (by decide +kernel) (by decide +kernel)
theorem q_ct_J6_266 : Cond.constant RJ6 266 858993459 ∈ GW := gw_of 967 (by decide +kernel) (by decide +kernel)
theorem q_ct_J6_267 : Cond.constant RJ6 267 252645135 ∈ GW := gw_of 968 (by decide +kernel) (by decide +kernel)
theorem q_ct_X12_384 : Cond.constant RX12 384 1103515245 ∈ GW := gw_of 1907 (by decide +kernel) (by decide +kernel)
theorem q_ct_X6_147 : Cond.constant RX6 147 1103515245 ∈ GW := gw_of 1288 (by decide +kernel) (by decide +kernel)
theorem q_fl_J0_1053 : Cond.fieldLink RJ0 1053 "jdk/internal/util/Preconditions" "SIOOBE_FORMATTER" "Ljava/util/function/BiFunction;" ∈ GW := gw_of 701 (by decide +kernel) (by decide +kernel)
theorem q_fl_J0_15 : Cond.fieldLink RJ0 15 "java/lang/String" "coder" "B" ∈ GW := gw_of 1921 (by decide +kernel) (by decide +kernel)
theorem q_fl_J0_38 : Cond.fieldLink RJ0 38 "java/lang/String" "COMPACT_STRINGS" "Z" ∈ GW := gw_of 685 (by decide +kernel) (by decide +kernel)
theorem q_fl_J0_9 : Cond.fieldLink RJ0 9 "java/lang/String" "value" "[B" ∈ GW := gw_of 1920 (by decide +kernel) (by decide +kernel)
theorem q_fl_X0_12 : Cond.fieldLink RX0 12 "ReflectCensus$Board" "here" "LReflectCensus$Parish;" ∈ GW := gw_of 426 (by decide +kernel) (by decide +kernel)
theorem q_fl_X0_132 : Cond.fieldLink RX0 132 "ReflectCensus$Law" "twins" "Z" ∈ GW := gw_of 248 (by decide +kernel) (by decide +kernel)
theorem q_fl_X0_141 : Cond.fieldLink RX0 141 "ReflectCensus$Parish" "people" "I" ∈ GW := gw_of 170 (by decide +kernel) (by decide +kernel)
theorem q_fl_X0_144 : Cond.fieldLink RX0 144 "ReflectCensus$Parish" "name" "[I" ∈ GW := gw_of 185 (by decide +kernel) (by decide +kernel)
theorem q_fl_X0_156 : Cond.fieldLink RX0 156 "ReflectCensus$Law" "cousins" "I" ∈ GW := gw_of 244 (by decide +kernel) (by decide +kernel)
theorem q_fl_X0_18 : Cond.fieldLink RX0 18 "ReflectCensus$Board" "near" "[I" ∈ GW := gw_of 431 (by decide +kernel) (by decide +kernel)
theorem q_fl_X0_22 : Cond.fieldLink RX0 22 "ReflectCensus$Board" "totals" "[I" ∈ GW := gw_of 434 (by decide +kernel) (by decide +kernel)
theorem q_fl_X0_25 : Cond.fieldLink RX0 25 "ReflectCensus$Board" "seats" "[I" ∈ GW := gw_of 437 (by decide +kernel) (by decide +kernel)
theorem q_fl_X0_28 : Cond.fieldLink RX0 28 "ReflectCensus$Board" "next" "[I" ∈ GW := gw_of 438 (by decide +kernel) (by decide +kernel)
theorem q_fl_X0_31 : Cond.fieldLink RX0 31 "ReflectCensus$Board" "seen" "[I" ∈ GW := gw_of 442 (by decide +kernel) (by decide +kernel)
theorem q_fl_X0_34 : Cond.fieldLink RX0 34 "ReflectCensus$Board" "looked" "[I" ∈ GW := gw_of 443 (by decide +kernel) (by decide +kernel)
theorem q_fl_X0_37 : Cond.fieldLink RX0 37 "ReflectCensus$Board" "reach" "[J" ∈ GW := gw_of 444 (by decide +kernel) (by decide +kernel)
theorem q_fl_X0_41 : Cond.fieldLink RX0 41 "ReflectCensus$Board" "wider" "[I" ∈ GW := gw_of 445 (by decide +kernel) (by decide +kernel)
theorem q_fl_X0_48 : Cond.fieldLink RX0 48 "ReflectCensus$Board" "wide" "I" ∈ GW := gw_of 439 (by decide +kernel) (by decide +kernel)
theorem q_fl_X0_52 : Cond.fieldLink RX0 52 "ReflectCensus$Parish" "wide" "I" ∈ GW := gw_of 160 (by decide +kernel) (by decide +kernel)
theorem q_fl_X0_53 : Cond.fieldLink RX0 53 "ReflectCensus$Board" "high" "I" ∈ GW := gw_of 440 (by decide +kernel) (by decide +kernel)
theorem q_fl_X0_56 : Cond.fieldLink RX0 56 "ReflectCensus$Parish" "high" "I" ∈ GW := gw_of 163 (by decide +kernel) (by decide +kernel)
theorem q_fl_X0_60 : Cond.fieldLink RX0 60 "ReflectCensus$Board" "stirred" "I" ∈ GW := gw_of 441 (by decide +kernel) (by decide +kernel)
theorem q_fl_X0_63 : Cond.fieldLink RX0 63 "ReflectCensus$Parish" "shines" "I" ∈ GW := gw_of 173 (by decide +kernel) (by decide +kernel)
theorem q_fl_X0_74 : Cond.fieldLink RX0 74 "ReflectCensus$Board" "RIGHT" "[I" ∈ GW := gw_of 899 (by decide +kernel) (by decide +kernel)
theorem q_fl_X0_77 : Cond.fieldLink RX0 77 "ReflectCensus$Board" "DOWN" "[I" ∈ GW := gw_of 901 (by decide +kernel) (by decide +kernel)
theorem q_fl_X0_80 : Cond.fieldLink RX0 80 "ReflectCensus$Parish" "cell" "[I" ∈ GW := gw_of 203 (by decide +kernel) (by decide +kernel)
theorem q_fl_X0_83 : Cond.fieldLink RX0 83 "ReflectCensus$Parish" "face" "[I" ∈ GW := gw_of 195 (by decide +kernel) (by decide +kernel)
theorem q_fl_X0_86 : Cond.fieldLink RX0 86 "ReflectCensus$Parish" "kind" "[I" ∈ GW := gw_of 188 (by decide +kernel) (by decide +kernel)
theorem q_fl_X0_89 : Cond.fieldLink RX0 89 "ReflectCensus$Parish" "size" "[I" ∈ GW := gw_of 198 (by decide +kernel) (by decide +kernel)
theorem q_fl_X0_92 : Cond.fieldLink RX0 92 "ReflectCensus$Parish" "party" "[I" ∈ GW := gw_of 200 (by decide +kernel) (by decide +kernel)
theorem q_fl_X0_95 : Cond.fieldLink RX0 95 "ReflectCensus$Parish" "shineAt" "[I" ∈ GW := gw_of 193 (by decide +kernel) (by decide +kernel)
theorem q_fl_X10_15 : Cond.fieldLink RX10 15 "ReflectCensus$Walk" "steps" "[I" ∈ GW := gw_of 521 (by decide +kernel) (by decide +kernel)
theorem q_fl_X10_19 : Cond.fieldLink RX10 19 "ReflectCensus$Walk" "queue" "[I" ∈ GW := gw_of 524 (by decide +kernel) (by decide +kernel)
theorem q_fl_X10_22 : Cond.fieldLink RX10 22 "ReflectCensus$Walk" "between" "[I" ∈ GW := gw_of 525 (by decide +kernel) (by decide +kernel)
theorem q_fl_X10_25 : Cond.fieldLink RX10 25 "ReflectCensus$Walk" "best" "[I" ∈ GW := gw_of 526 (by decide +kernel) (by decide +kernel)
theorem q_fl_X10_40 : Cond.fieldLink RX10 40 "ReflectCensus$Board" "here" "LReflectCensus$Parish;" ∈ GW := gw_of 427 (by decide +kernel) (by decide +kernel)
theorem q_fl_X10_44 : Cond.fieldLink RX10 44 "ReflectCensus$Parish" "cell" "[I" ∈ GW := gw_of 202 (by decide +kernel) (by decide +kernel)
theorem q_fl_X10_49 : Cond.fieldLink RX10 49 "ReflectCensus$Parish" "shines" "I" ∈ GW := gw_of 174 (by decide +kernel) (by decide +kernel)
theorem q_fl_X10_57 : Cond.fieldLink RX10 57 "ReflectCensus$Parish" "shineAt" "[I" ∈ GW := gw_of 191 (by decide +kernel) (by decide +kernel)
theorem q_fl_X10_9 : Cond.fieldLink RX10 9 "ReflectCensus$Walk" "board" "LReflectCensus$Board;" ∈ GW := gw_of 523 (by decide +kernel) (by decide +kernel)
theorem q_fl_X11_10 : Cond.fieldLink RX11 10 "ReflectCensus" "now" "LReflectCensus$Told;" ∈ GW := gw_of 566 (by decide +kernel) (by decide +kernel)
theorem q_fl_X11_100 : Cond.fieldLink RX11 100 "ReflectCensus$Reader" "parish" "LReflectCensus$Parish;" ∈ GW := gw_of 373 (by decide +kernel) (by decide +kernel)
theorem q_fl_X11_110 : Cond.fieldLink RX11 110 "ReflectCensus$Told" "laws" "[LReflectCensus$Law;" ∈ GW := gw_of 324 (by decide +kernel) (by decide +kernel)
theorem q_fl_X11_114 : Cond.fieldLink RX11 114 "ReflectCensus$Reader" "law" "LReflectCensus$Law;" ∈ GW := gw_of 375 (by decide +kernel) (by decide +kernel)
theorem q_fl_X11_123 : Cond.fieldLink RX11 123 "ReflectCensus$Told" "evenings" "[LReflectCensus$Evening;" ∈ GW := gw_of 326 (by decide +kernel) (by decide +kernel)
theorem q_fl_X11_127 : Cond.fieldLink RX11 127 "ReflectCensus$Reader" "evening" "LReflectCensus$Evening;" ∈ GW := gw_of 377 (by decide +kernel) (by decide +kernel)
theorem q_fl_X11_136 : Cond.fieldLink RX11 136 "ReflectCensus$Told" "sights" "[LReflectCensus$Sight;" ∈ GW := gw_of 328 (by decide +kernel) (by decide +kernel)
theorem q_fl_X11_140 : Cond.fieldLink RX11 140 "ReflectCensus$Reader" "sight" "LReflectCensus$Sight;" ∈ GW := gw_of 379 (by decide +kernel) (by decide +kernel)
theorem q_fl_X11_16 : Cond.fieldLink RX11 16 "ReflectCensus" "images" "[LReflectCensus$Told;" ∈ GW := gw_of 567 (by decide +kernel) (by decide +kernel)
theorem q_fl_X11_161 : Cond.fieldLink RX11 161 "ReflectCensus$Parish" "cell" "[I" ∈ GW := gw_of 204 (by decide +kernel) (by decide +kernel)
theorem q_fl_X11_173 : Cond.fieldLink RX11 173 "ReflectCensus$Evening" "deeds" "I" ∈ GW := gw_of 279 (by decide +kernel) (by decide +kernel)
theorem q_fl_X11_176 : Cond.fieldLink RX11 176 "ReflectCensus$Evening" "kind" "[I" ∈ GW := gw_of 282 (by decide +kernel) (by decide +kernel)
theorem q_fl_X11_179 : Cond.fieldLink RX11 179 "ReflectCensus$Evening" "first" "[I" ∈ GW := gw_of 285 (by decide +kernel) (by decide +kernel)
theorem q_fl_X11_182 : Cond.fieldLink RX11 182 "ReflectCensus$Evening" "second" "[I" ∈ GW := gw_of 288 (by decide +kernel) (by decide +kernel)
theorem q_fl_X11_222 : Cond.fieldLink RX11 222 "ReflectCensus$Board" "totals" "[I" ∈ GW := gw_of 436 (by decide +kernel) (by decide +kernel)
theorem q_fl_X11_23 : Cond.fieldLink RX11 23 "ReflectCensus" "reader" "LReflectCensus$Reader;" ∈ GW := gw_of 568 (by decide +kernel) (by decide +kernel)
theorem q_fl_X11_237 : Cond.fieldLink RX11 237 "ReflectCensus$Choice" "value" "I" ∈ GW := gw_of 501 (by decide +kernel) (by decide +kernel)
theorem q_fl_X11_240 : Cond.fieldLink RX11 240 "ReflectCensus$Choice" "where" "I" ∈ GW := gw_of 503 (by decide +kernel) (by decide +kernel)
theorem q_fl_X11_251 : Cond.fieldLink RX11 251 "ReflectCensus$Parish" "shines" "I" ∈ GW := gw_of 179 (by decide +kernel) (by decide +kernel)
theorem q_fl_X11_275 : Cond.fieldLink RX11 275 "ReflectCensus$Walk" "steps" "[I" ∈ GW := gw_of 522 (by decide +kernel) (by decide +kernel)
theorem q_fl_X11_292 : Cond.fieldLink RX11 292 "ReflectCensus$Sight" "slips" "I" ∈ GW := gw_of 309 (by decide +kernel) (by decide +kernel)
theorem q_fl_X11_295 : Cond.fieldLink RX11 295 "ReflectCensus$Sight" "counts" "[I" ∈ GW := gw_of 313 (by decide +kernel) (by decide +kernel)
theorem q_fl_X11_30 : Cond.fieldLink RX11 30 "ReflectCensus" "board" "LReflectCensus$Board;" ∈ GW := gw_of 569 (by decide +kernel) (by decide +kernel)
theorem q_fl_X11_306 : Cond.fieldLink RX11 306 "ReflectCensus$Parish" "kind" "[I" ∈ GW := gw_of 189 (by decide +kernel) (by decide +kernel)
theorem q_fl_X11_320 : Cond.fieldLink RX11 320 "ReflectCensus$Board" "near" "[I" ∈ GW := gw_of 433 (by decide +kernel) (by decide +kernel)
theorem q_fl_X11_323 : Cond.fieldLink RX11 323 "ReflectCensus$Parish" "people" "I" ∈ GW := gw_of 171 (by decide +kernel) (by decide +kernel)
theorem q_fl_X11_332 : Cond.fieldLink RX11 332 "ReflectCensus$Law" "cousins" "I" ∈ GW := gw_of 245 (by decide +kernel) (by decide +kernel)
theorem q_fl_X11_39 : Cond.fieldLink RX11 39 "ReflectCensus" "play" "LReflectCensus$Play;" ∈ GW := gw_of 570 (by decide +kernel) (by decide +kernel)
theorem q_fl_X11_46 : Cond.fieldLink RX11 46 "ReflectCensus" "choice" "LReflectCensus$Choice;" ∈ GW := gw_of 571 (by decide +kernel) (by decide +kernel)
theorem q_fl_X11_53 : Cond.fieldLink RX11 53 "ReflectCensus" "walk" "LReflectCensus$Walk;" ∈ GW := gw_of 572 (by decide +kernel) (by decide +kernel)
theorem q_fl_X11_60 : Cond.fieldLink RX11 60 "ReflectCensus" "fit" "LReflectCensus$Fit;" ∈ GW := gw_of 573 (by decide +kernel) (by decide +kernel)
theorem q_fl_X11_64 : Cond.fieldLink RX11 64 "ReflectCensus$Told" "length" "I" ∈ GW := gw_of 331 (by decide +kernel) (by decide +kernel)
theorem q_fl_X11_72 : Cond.fieldLink RX11 72 "ReflectCensus$Told" "fault" "I" ∈ GW := gw_of 334 (by decide +kernel) (by decide +kernel)
theorem q_fl_X11_75 : Cond.fieldLink RX11 75 "ReflectCensus$Told" "place" "I" ∈ GW := gw_of 336 (by decide +kernel) (by decide +kernel)
theorem q_fl_X11_78 : Cond.fieldLink RX11 78 "ReflectCensus$Told" "number" "[I" ∈ GW := gw_of 320 (by decide +kernel) (by decide +kernel)
theorem q_fl_X11_82 : Cond.fieldLink RX11 82 "ReflectCensus$Told" "tape" "[B" ∈ GW := gw_of 330 (by decide +kernel) (by decide +kernel)
theorem q_fl_X11_90 : Cond.fieldLink RX11 90 "ReflectCensus$Reader" "fault" "I" ∈ GW := gw_of 381 (by decide +kernel) (by decide +kernel)
theorem q_fl_X11_91 : Cond.fieldLink RX11 91 "ReflectCensus$Reader" "place" "I" ∈ GW := gw_of 383 (by decide +kernel) (by decide +kernel)
theorem q_fl_X11_96 : Cond.fieldLink RX11 96 "ReflectCensus$Told" "parishes" "[LReflectCensus$Parish;" ∈ GW := gw_of 322 (by decide +kernel) (by decide +kernel)
theorem q_fl_X12_101 : Cond.fieldLink RX12 101 "ReflectCensusModel" "next" "I" ∈ GW := gw_of 1356 (by decide +kernel) (by decide +kernel)
theorem q_fl_X12_108 : Cond.fieldLink RX12 108 "ReflectCensusModel" "where" "I" ∈ GW := gw_of 1357 (by decide +kernel) (by decide +kernel)
theorem q_fl_X12_111 : Cond.fieldLink RX12 111 "ReflectCensusModel" "token" "I" ∈ GW := gw_of 1358 (by decide +kernel) (by decide +kernel)
theorem q_fl_X12_125 : Cond.fieldLink RX12 125 "ReflectCensusModel" "word" "I" ∈ GW := gw_of 1360 (by decide +kernel) (by decide +kernel)
theorem q_fl_X12_13 : Cond.fieldLink RX12 13 "ReflectCensusModel" "has" "[Z" ∈ GW := gw_of 1354 (by decide +kernel) (by decide +kernel)
theorem q_fl_X12_131 : Cond.fieldLink RX12 131 "ReflectCensusModel" "number" "I" ∈ GW := gw_of 1359 (by decide +kernel) (by decide +kernel)
theorem q_fl_X12_134 : Cond.fieldLink RX12 134 "ReflectCensusModel" "wrong" "Z" ∈ GW := gw_of 1361 (by decide +kernel) (by decide +kernel)
theorem q_fl_X12_156 : Cond.fieldLink RX12 156 "ReflectCensusModel" "right" "I" ∈ GW := gw_of 1362 (by decide +kernel) (by decide +kernel)
theorem q_fl_X12_159 : Cond.fieldLink RX12 159 "ReflectCensusModel" "low" "I" ∈ GW := gw_of 1363 (by decide +kernel) (by decide +kernel)
theorem q_fl_X12_17 : Cond.fieldLink RX12 17 "ReflectCensusModel" "read" "[I" ∈ GW := gw_of 1364 (by decide +kernel) (by decide +kernel)
theorem q_fl_X12_20 : Cond.fieldLink RX12 20 "ReflectCensusModel" "at" "[I" ∈ GW := gw_of 1368 (by decide +kernel) (by decide +kernel)
theorem q_fl_X12_207 : Cond.fieldLink RX12 207 "ReflectCensusModel" "p0" "I" ∈ GW := gw_of 1365 (by decide +kernel) (by decide +kernel)
theorem q_fl_X12_210 : Cond.fieldLink RX12 210 "ReflectCensusModel" "barredAt" "I" ∈ GW := gw_of 1376 (by decide +kernel) (by decide +kernel)
theorem q_fl_X12_213 : Cond.fieldLink RX12 213 "ReflectCensusModel" "people" "I" ∈ GW := gw_of 1366 (by decide +kernel) (by decide +kernel)
theorem q_fl_X12_216 : Cond.fieldLink RX12 216 "ReflectCensusModel" "shines" "I" ∈ GW := gw_of 1367 (by decide +kernel) (by decide +kernel)
theorem q_fl_X12_23 : Cond.fieldLink RX12 23 "ReflectCensusModel" "name" "[I" ∈ GW := gw_of 1369 (by decide +kernel) (by decide +kernel)
theorem q_fl_X12_26 : Cond.fieldLink RX12 26 "ReflectCensusModel" "kind" "[I" ∈ GW := gw_of 1370 (by decide +kernel) (by decide +kernel)
theorem q_fl_X12_261 : Cond.fieldLink RX12 261 "ReflectCensusModel" "l0" "I" ∈ GW := gw_of 1379 (by decide +kernel) (by decide +kernel)
theorem q_fl_X12_264 : Cond.fieldLink RX12 264 "ReflectCensusModel" "cousins" "I" ∈ GW := gw_of 1380 (by decide +kernel) (by decide +kernel)
theorem q_fl_X12_29 : Cond.fieldLink RX12 29 "ReflectCensusModel" "place" "[I" ∈ GW := gw_of 1371 (by decide +kernel) (by decide +kernel)
theorem q_fl_X12_294 : Cond.fieldLink RX12 294 "ReflectCensusModel" "e0" "I" ∈ GW := gw_of 1384 (by decide +kernel) (by decide +kernel)
theorem q_fl_X12_303 : Cond.fieldLink RX12 303 "ReflectCensusModel" "done" "I" ∈ GW := gw_of 1385 (by decide +kernel) (by decide +kernel)
theorem q_fl_X12_306 : Cond.fieldLink RX12 306 "ReflectCensusModel" "times" "I" ∈ GW := gw_of 1386 (by decide +kernel) (by decide +kernel)
theorem q_fl_X12_32 : Cond.fieldLink RX12 32 "ReflectCensusModel" "face" "[I" ∈ GW := gw_of 1372 (by decide +kernel) (by decide +kernel)
theorem q_fl_X12_35 : Cond.fieldLink RX12 35 "ReflectCensusModel" "big" "[I" ∈ GW := gw_of 1373 (by decide +kernel) (by decide +kernel)
theorem q_fl_X12_355 : Cond.fieldLink RX12 355 "ReflectCensusModel" "g0" "I" ∈ GW := gw_of 1394 (by decide +kernel) (by decide +kernel)
theorem q_fl_X12_38 : Cond.fieldLink RX12 38 "ReflectCensusModel" "party" "[I" ∈ GW := gw_of 1374 (by decide +kernel) (by decide +kernel)
theorem q_fl_X12_381 : Cond.fieldLink RX12 381 "ReflectCensusModel" "x0" "I" ∈ GW := gw_of 1396 (by decide +kernel) (by decide +kernel)
theorem q_fl_X12_41 : Cond.fieldLink RX12 41 "ReflectCensusModel" "stirred" "[Z" ∈ GW := gw_of 1375 (by decide +kernel) (by decide +kernel)
theorem q_fl_X12_44 : Cond.fieldLink RX12 44 "ReflectCensusModel" "degrees" "[I" ∈ GW := gw_of 1377 (by decide +kernel) (by decide +kernel)
theorem q_fl_X12_47 : Cond.fieldLink RX12 47 "ReflectCensusModel" "lookedAt" "[I" ∈ GW := gw_of 1378 (by decide +kernel) (by decide +kernel)
theorem q_fl_X12_50 : Cond.fieldLink RX12 50 "ReflectCensusModel" "totals" "[I" ∈ GW := gw_of 1381 (by decide +kernel) (by decide +kernel)
theorem q_fl_X12_53 : Cond.fieldLink RX12 53 "ReflectCensusModel" "seats" "[I" ∈ GW := gw_of 1382 (by decide +kernel) (by decide +kernel)
theorem q_fl_X12_56 : Cond.fieldLink RX12 56 "ReflectCensusModel" "rests" "[I" ∈ GW := gw_of 1383 (by decide +kernel) (by decide +kernel)
theorem q_fl_X12_59 : Cond.fieldLink RX12 59 "ReflectCensusModel" "taxed" "[I" ∈ GW := gw_of 1387 (by decide +kernel) (by decide +kernel)
theorem q_fl_X12_62 : Cond.fieldLink RX12 62 "ReflectCensusModel" "kept" "[I" ∈ GW := gw_of 1388 (by decide +kernel) (by decide +kernel)
theorem q_fl_X12_65 : Cond.fieldLink RX12 65 "ReflectCensusModel" "prizes" "[I" ∈ GW := gw_of 1389 (by decide +kernel) (by decide +kernel)
theorem q_fl_X12_68 : Cond.fieldLink RX12 68 "ReflectCensusModel" "steps" "[I" ∈ GW := gw_of 1390 (by decide +kernel) (by decide +kernel)
theorem q_fl_X12_7 : Cond.fieldLink RX12 7 "ReflectCensusModel" "all" "[I" ∈ GW := gw_of 1353 (by decide +kernel) (by decide +kernel)
theorem q_fl_X12_71 : Cond.fieldLink RX12 71 "ReflectCensusModel" "apart" "[I" ∈ GW := gw_of 1391 (by decide +kernel) (by decide +kernel)
theorem q_fl_X12_74 : Cond.fieldLink RX12 74 "ReflectCensusModel" "line" "[I" ∈ GW := gw_of 1392 (by decide +kernel) (by decide +kernel)
theorem q_fl_X12_77 : Cond.fieldLink RX12 77 "ReflectCensusModel" "rounds" "[I" ∈ GW := gw_of 1393 (by decide +kernel) (by decide +kernel)
theorem q_fl_X12_80 : Cond.fieldLink RX12 80 "ReflectCensusModel" "alike" "[I" ∈ GW := gw_of 1395 (by decide +kernel) (by decide +kernel)
theorem q_fl_X12_83 : Cond.fieldLink RX12 83 "ReflectCensusModel" "size" "I" ∈ GW := gw_of 1355 (by decide +kernel) (by decide +kernel)
theorem q_fl_X1_111 : Cond.fieldLink RX1 111 "ReflectCensus$Board" "totals" "[I" ∈ GW := gw_of 435 (by decide +kernel) (by decide +kernel)
theorem q_fl_X1_15 : Cond.fieldLink RX1 15 "ReflectCensus$Choice" "prizes" "[I" ∈ GW := gw_of 504 (by decide +kernel) (by decide +kernel)
theorem q_fl_X1_19 : Cond.fieldLink RX1 19 "ReflectCensus$Choice" "where" "I" ∈ GW := gw_of 502 (by decide +kernel) (by decide +kernel)
theorem q_fl_X1_23 : Cond.fieldLink RX1 23 "ReflectCensus$Choice" "value" "I" ∈ GW := gw_of 500 (by decide +kernel) (by decide +kernel)
theorem q_fl_X1_34 : Cond.fieldLink RX1 34 "ReflectCensus$Parish" "personAt" "[I" ∈ GW := gw_of 182 (by decide +kernel) (by decide +kernel)
theorem q_fl_X1_73 : Cond.fieldLink RX1 73 "ReflectCensus$Board" "here" "LReflectCensus$Parish;" ∈ GW := gw_of 430 (by decide +kernel) (by decide +kernel)
theorem q_fl_X1_77 : Cond.fieldLink RX1 77 "ReflectCensus$Parish" "shineAt" "[I" ∈ GW := gw_of 192 (by decide +kernel) (by decide +kernel)
theorem q_fl_X1_84 : Cond.fieldLink RX1 84 "ReflectCensus$Parish" "people" "I" ∈ GW := gw_of 169 (by decide +kernel) (by decide +kernel)
theorem q_fl_X1_9 : Cond.fieldLink RX1 9 "ReflectCensus$Choice" "board" "LReflectCensus$Board;" ∈ GW := gw_of 505 (by decide +kernel) (by decide +kernel)
theorem q_fl_X1_90 : Cond.fieldLink RX1 90 "ReflectCensus$Law" "cousins" "I" ∈ GW := gw_of 243 (by decide +kernel) (by decide +kernel)
theorem q_fl_X1_98 : Cond.fieldLink RX1 98 "ReflectCensus$Parish" "shines" "I" ∈ GW := gw_of 178 (by decide +kernel) (by decide +kernel)
theorem q_fl_X2_15 : Cond.fieldLink RX2 15 "ReflectCensus$Evening" "first" "[I" ∈ GW := gw_of 283 (by decide +kernel) (by decide +kernel)
theorem q_fl_X2_18 : Cond.fieldLink RX2 18 "ReflectCensus$Evening" "second" "[I" ∈ GW := gw_of 286 (by decide +kernel) (by decide +kernel)
theorem q_fl_X2_21 : Cond.fieldLink RX2 21 "ReflectCensus$Evening" "deeds" "I" ∈ GW := gw_of 276 (by decide +kernel) (by decide +kernel)
theorem q_fl_X2_9 : Cond.fieldLink RX2 9 "ReflectCensus$Evening" "kind" "[I" ∈ GW := gw_of 280 (by decide +kernel) (by decide +kernel)
theorem q_fl_X3_15 : Cond.fieldLink RX3 15 "ReflectCensus$Fit" "alike" "[I" ∈ GW := gw_of 550 (by decide +kernel) (by decide +kernel)
theorem q_fl_X3_19 : Cond.fieldLink RX3 19 "ReflectCensus$Parish" "people" "I" ∈ GW := gw_of 165 (by decide +kernel) (by decide +kernel)
theorem q_fl_X3_31 : Cond.fieldLink RX3 31 "ReflectCensus$Fit" "number" "I" ∈ GW := gw_of 545 (by decide +kernel) (by decide +kernel)
theorem q_fl_X3_34 : Cond.fieldLink RX3 34 "ReflectCensus$Fit" "sure" "I" ∈ GW := gw_of 546 (by decide +kernel) (by decide +kernel)
theorem q_fl_X3_37 : Cond.fieldLink RX3 37 "ReflectCensus$Fit" "absent" "I" ∈ GW := gw_of 547 (by decide +kernel) (by decide +kernel)
theorem q_fl_X3_40 : Cond.fieldLink RX3 40 "ReflectCensus$Fit" "fewest" "I" ∈ GW := gw_of 548 (by decide +kernel) (by decide +kernel)
theorem q_fl_X3_43 : Cond.fieldLink RX3 43 "ReflectCensus$Fit" "asked" "I" ∈ GW := gw_of 549 (by decide +kernel) (by decide +kernel)
theorem q_fl_X3_56 : Cond.fieldLink RX3 56 "ReflectCensus$Law" "cousins" "I" ∈ GW := gw_of 240 (by decide +kernel) (by decide +kernel)
theorem q_fl_X3_69 : Cond.fieldLink RX3 69 "ReflectCensus$Sight" "slips" "I" ∈ GW := gw_of 307 (by decide +kernel) (by decide +kernel)
theorem q_fl_X3_78 : Cond.fieldLink RX3 78 "ReflectCensus$Parish" "personAt" "[I" ∈ GW := gw_of 181 (by decide +kernel) (by decide +kernel)
theorem q_fl_X3_85 : Cond.fieldLink RX3 85 "ReflectCensus$Board" "here" "LReflectCensus$Parish;" ∈ GW := gw_of 428 (by decide +kernel) (by decide +kernel)
theorem q_fl_X3_89 : Cond.fieldLink RX3 89 "ReflectCensus$Parish" "shines" "I" ∈ GW := gw_of 175 (by decide +kernel) (by decide +kernel)
theorem q_fl_X3_9 : Cond.fieldLink RX3 9 "ReflectCensus$Fit" "board" "LReflectCensus$Board;" ∈ GW := gw_of 544 (by decide +kernel) (by decide +kernel)
theorem q_fl_X3_92 : Cond.fieldLink RX3 92 "ReflectCensus$Sight" "counts" "[I" ∈ GW := gw_of 311 (by decide +kernel) (by decide +kernel)
theorem q_fl_X4_15 : Cond.fieldLink RX4 15 "ReflectCensus$Law" "seats" "I" ∈ GW := gw_of 251 (by decide +kernel) (by decide +kernel)
theorem q_fl_X4_19 : Cond.fieldLink RX4 19 "ReflectCensus$Law" "tax" "I" ∈ GW := gw_of 255 (by decide +kernel) (by decide +kernel)
theorem q_fl_X4_22 : Cond.fieldLink RX4 22 "ReflectCensus$Law" "cousins" "I" ∈ GW := gw_of 239 (by decide +kernel) (by decide +kernel)
theorem q_fl_X4_25 : Cond.fieldLink RX4 25 "ReflectCensus$Law" "soup" "I" ∈ GW := gw_of 249 (by decide +kernel) (by decide +kernel)
theorem q_fl_X4_28 : Cond.fieldLink RX4 28 "ReflectCensus$Law" "way" "I" ∈ GW := gw_of 253 (by decide +kernel) (by decide +kernel)
theorem q_fl_X4_9 : Cond.fieldLink RX4 9 "ReflectCensus$Law" "twins" "Z" ∈ GW := gw_of 246 (by decide +kernel) (by decide +kernel)
theorem q_fl_X5_15 : Cond.fieldLink RX5 15 "ReflectCensus$Parish" "name" "[I" ∈ GW := gw_of 184 (by decide +kernel) (by decide +kernel)
theorem q_fl_X5_18 : Cond.fieldLink RX5 18 "ReflectCensus$Parish" "kind" "[I" ∈ GW := gw_of 186 (by decide +kernel) (by decide +kernel)
theorem q_fl_X5_21 : Cond.fieldLink RX5 21 "ReflectCensus$Parish" "shineAt" "[I" ∈ GW := gw_of 190 (by decide +kernel) (by decide +kernel)
theorem q_fl_X5_24 : Cond.fieldLink RX5 24 "ReflectCensus$Parish" "face" "[I" ∈ GW := gw_of 194 (by decide +kernel) (by decide +kernel)
theorem q_fl_X5_27 : Cond.fieldLink RX5 27 "ReflectCensus$Parish" "size" "[I" ∈ GW := gw_of 197 (by decide +kernel) (by decide +kernel)
theorem q_fl_X5_30 : Cond.fieldLink RX5 30 "ReflectCensus$Parish" "party" "[I" ∈ GW := gw_of 199 (by decide +kernel) (by decide +kernel)
theorem q_fl_X5_33 : Cond.fieldLink RX5 33 "ReflectCensus$Parish" "cell" "[I" ∈ GW := gw_of 201 (by decide +kernel) (by decide +kernel)
theorem q_fl_X5_36 : Cond.fieldLink RX5 36 "ReflectCensus$Parish" "wide" "I" ∈ GW := gw_of 159 (by decide +kernel) (by decide +kernel)
theorem q_fl_X5_40 : Cond.fieldLink RX5 40 "ReflectCensus$Parish" "high" "I" ∈ GW := gw_of 162 (by decide +kernel) (by decide +kernel)
theorem q_fl_X5_43 : Cond.fieldLink RX5 43 "ReflectCensus$Parish" "people" "I" ∈ GW := gw_of 166 (by decide +kernel) (by decide +kernel)
theorem q_fl_X5_46 : Cond.fieldLink RX5 46 "ReflectCensus$Parish" "shines" "I" ∈ GW := gw_of 172 (by decide +kernel) (by decide +kernel)
theorem q_fl_X5_49 : Cond.fieldLink RX5 49 "ReflectCensus$Parish" "walls" "J" ∈ GW := gw_of 205 (by decide +kernel) (by decide +kernel)
theorem q_fl_X5_9 : Cond.fieldLink RX5 9 "ReflectCensus$Parish" "personAt" "[I" ∈ GW := gw_of 180 (by decide +kernel) (by decide +kernel)
theorem q_fl_X6_106 : Cond.fieldLink RX6 106 "ReflectCensus$Law" "cousins" "I" ∈ GW := gw_of 241 (by decide +kernel) (by decide +kernel)
theorem q_fl_X6_115 : Cond.fieldLink RX6 115 "ReflectCensus$Parish" "shines" "I" ∈ GW := gw_of 176 (by decide +kernel) (by decide +kernel)
theorem q_fl_X6_122 : Cond.fieldLink RX6 122 "ReflectCensus$Parish" "kind" "[I" ∈ GW := gw_of 187 (by decide +kernel) (by decide +kernel)
theorem q_fl_X6_126 : Cond.fieldLink RX6 126 "ReflectCensus$Parish" "people" "I" ∈ GW := gw_of 168 (by decide +kernel) (by decide +kernel)
theorem q_fl_X6_129 : Cond.fieldLink RX6 129 "ReflectCensus$Board" "near" "[I" ∈ GW := gw_of 432 (by decide +kernel) (by decide +kernel)
theorem q_fl_X6_132 : Cond.fieldLink RX6 132 "ReflectCensus$Law" "tax" "I" ∈ GW := gw_of 256 (by decide +kernel) (by decide +kernel)
theorem q_fl_X6_135 : Cond.fieldLink RX6 135 "ReflectCensus$Play" "seed" "I" ∈ GW := gw_of 482 (by decide +kernel) (by decide +kernel)
theorem q_fl_X6_15 : Cond.fieldLink RX6 15 "ReflectCensus$Play" "taxed" "[I" ∈ GW := gw_of 480 (by decide +kernel) (by decide +kernel)
theorem q_fl_X6_156 : Cond.fieldLink RX6 156 "ReflectCensus$Parish" "face" "[I" ∈ GW := gw_of 196 (by decide +kernel) (by decide +kernel)
theorem q_fl_X6_19 : Cond.fieldLink RX6 19 "ReflectCensus$Play" "gained" "[I" ∈ GW := gw_of 481 (by decide +kernel) (by decide +kernel)
theorem q_fl_X6_28 : Cond.fieldLink RX6 28 "ReflectCensus$Play" "counts" "I" ∈ GW := gw_of 479 (by decide +kernel) (by decide +kernel)
theorem q_fl_X6_38 : Cond.fieldLink RX6 38 "ReflectCensus$Evening" "deeds" "I" ∈ GW := gw_of 278 (by decide +kernel) (by decide +kernel)
theorem q_fl_X6_43 : Cond.fieldLink RX6 43 "ReflectCensus$Evening" "kind" "[I" ∈ GW := gw_of 281 (by decide +kernel) (by decide +kernel)
theorem q_fl_X6_46 : Cond.fieldLink RX6 46 "ReflectCensus$Evening" "first" "[I" ∈ GW := gw_of 284 (by decide +kernel) (by decide +kernel)
theorem q_fl_X6_49 : Cond.fieldLink RX6 49 "ReflectCensus$Evening" "second" "[I" ∈ GW := gw_of 287 (by decide +kernel) (by decide +kernel)
theorem q_fl_X6_70 : Cond.fieldLink RX6 70 "ReflectCensus$Board" "here" "LReflectCensus$Parish;" ∈ GW := gw_of 429 (by decide +kernel) (by decide +kernel)
theorem q_fl_X6_9 : Cond.fieldLink RX6 9 "ReflectCensus$Play" "board" "LReflectCensus$Board;" ∈ GW := gw_of 478 (by decide +kernel) (by decide +kernel)
theorem q_fl_X6_94 : Cond.fieldLink RX6 94 "ReflectCensus$Parish" "personAt" "[I" ∈ GW := gw_of 183 (by decide +kernel) (by decide +kernel)
theorem q_fl_X7_103 : Cond.fieldLink RX7 103 "ReflectCensus$Reader" "from" "I" ∈ GW := gw_of 387 (by decide +kernel) (by decide +kernel)
theorem q_fl_X7_109 : Cond.fieldLink RX7 109 "ReflectCensus$Reader" "soupKind" "I" ∈ GW := gw_of 389 (by decide +kernel) (by decide +kernel)
theorem q_fl_X7_115 : Cond.fieldLink RX7 115 "ReflectCensus$Reader" "NUMBERS" "[I" ∈ GW := gw_of 741 (by decide +kernel) (by decide +kernel)
theorem q_fl_X7_12 : Cond.fieldLink RX7 12 "ReflectCensus$Reader" "parish" "LReflectCensus$Parish;" ∈ GW := gw_of 372 (by decide +kernel) (by decide +kernel)
theorem q_fl_X7_124 : Cond.fieldLink RX7 124 "ReflectCensus$Reader" "GREATEST" "[I" ∈ GW := gw_of 750 (by decide +kernel) (by decide +kernel)
theorem q_fl_X7_127 : Cond.fieldLink RX7 127 "ReflectCensus$Parish" "people" "I" ∈ GW := gw_of 167 (by decide +kernel) (by decide +kernel)
theorem q_fl_X7_130 : Cond.fieldLink RX7 130 "ReflectCensus$Parish" "shines" "I" ∈ GW := gw_of 177 (by decide +kernel) (by decide +kernel)
theorem q_fl_X7_143 : Cond.fieldLink RX7 143 "ReflectCensus$Sight" "slips" "I" ∈ GW := gw_of 308 (by decide +kernel) (by decide +kernel)
theorem q_fl_X7_146 : Cond.fieldLink RX7 146 "ReflectCensus$Sight" "counts" "[I" ∈ GW := gw_of 312 (by decide +kernel) (by decide +kernel)
theorem q_fl_X7_149 : Cond.fieldLink RX7 149 "ReflectCensus$Parish" "wide" "I" ∈ GW := gw_of 161 (by decide +kernel) (by decide +kernel)
theorem q_fl_X7_152 : Cond.fieldLink RX7 152 "ReflectCensus$Parish" "high" "I" ∈ GW := gw_of 164 (by decide +kernel) (by decide +kernel)
theorem q_fl_X7_165 : Cond.fieldLink RX7 165 "ReflectCensus$Law" "cousins" "I" ∈ GW := gw_of 242 (by decide +kernel) (by decide +kernel)
theorem q_fl_X7_168 : Cond.fieldLink RX7 168 "ReflectCensus$Law" "seats" "I" ∈ GW := gw_of 252 (by decide +kernel) (by decide +kernel)
theorem q_fl_X7_171 : Cond.fieldLink RX7 171 "ReflectCensus$Law" "way" "I" ∈ GW := gw_of 254 (by decide +kernel) (by decide +kernel)
theorem q_fl_X7_174 : Cond.fieldLink RX7 174 "ReflectCensus$Law" "tax" "I" ∈ GW := gw_of 257 (by decide +kernel) (by decide +kernel)
theorem q_fl_X7_177 : Cond.fieldLink RX7 177 "ReflectCensus$Law" "twins" "Z" ∈ GW := gw_of 247 (by decide +kernel) (by decide +kernel)
theorem q_fl_X7_181 : Cond.fieldLink RX7 181 "ReflectCensus$Law" "soup" "I" ∈ GW := gw_of 250 (by decide +kernel) (by decide +kernel)
theorem q_fl_X7_184 : Cond.fieldLink RX7 184 "ReflectCensus$Reader" "FIRST_LINE" "[I" ∈ GW := gw_of 647 (by decide +kernel) (by decide +kernel)
theorem q_fl_X7_21 : Cond.fieldLink RX7 21 "ReflectCensus$Reader" "law" "LReflectCensus$Law;" ∈ GW := gw_of 374 (by decide +kernel) (by decide +kernel)
theorem q_fl_X7_28 : Cond.fieldLink RX7 28 "ReflectCensus$Reader" "evening" "LReflectCensus$Evening;" ∈ GW := gw_of 376 (by decide +kernel) (by decide +kernel)
theorem q_fl_X7_35 : Cond.fieldLink RX7 35 "ReflectCensus$Reader" "sight" "LReflectCensus$Sight;" ∈ GW := gw_of 378 (by decide +kernel) (by decide +kernel)
theorem q_fl_X7_39 : Cond.fieldLink RX7 39 "ReflectCensus$Reader" "number" "[I" ∈ GW := gw_of 390 (by decide +kernel) (by decide +kernel)
theorem q_fl_X7_43 : Cond.fieldLink RX7 43 "ReflectCensus$Reader" "tape" "[B" ∈ GW := gw_of 384 (by decide +kernel) (by decide +kernel)
theorem q_fl_X7_53 : Cond.fieldLink RX7 53 "ReflectCensus$Reader" "length" "I" ∈ GW := gw_of 385 (by decide +kernel) (by decide +kernel)
theorem q_fl_X7_57 : Cond.fieldLink RX7 57 "ReflectCensus$Reader" "to" "I" ∈ GW := gw_of 388 (by decide +kernel) (by decide +kernel)
theorem q_fl_X7_60 : Cond.fieldLink RX7 60 "ReflectCensus$Reader" "fault" "I" ∈ GW := gw_of 380 (by decide +kernel) (by decide +kernel)
theorem q_fl_X7_63 : Cond.fieldLink RX7 63 "ReflectCensus$Reader" "place" "I" ∈ GW := gw_of 382 (by decide +kernel) (by decide +kernel)
theorem q_fl_X7_70 : Cond.fieldLink RX7 70 "ReflectCensus$Evening" "deeds" "I" ∈ GW := gw_of 277 (by decide +kernel) (by decide +kernel)
theorem q_fl_X7_77 : Cond.fieldLink RX7 77 "ReflectCensus$Reader" "token" "I" ∈ GW := gw_of 386 (by decide +kernel) (by decide +kernel)
theorem q_fl_X8_21 : Cond.fieldLink RX8 21 "ReflectCensus$Sight" "slips" "I" ∈ GW := gw_of 306 (by decide +kernel) (by decide +kernel)
theorem q_fl_X8_9 : Cond.fieldLink RX8 9 "ReflectCensus$Sight" "counts" "[I" ∈ GW := gw_of 310 (by decide +kernel) (by decide +kernel)
theorem q_fl_X9_17 : Cond.fieldLink RX9 17 "ReflectCensus$Told" "parishes" "[LReflectCensus$Parish;" ∈ GW := gw_of 321 (by decide +kernel) (by decide +kernel)
theorem q_fl_X9_23 : Cond.fieldLink RX9 23 "ReflectCensus$Told" "laws" "[LReflectCensus$Law;" ∈ GW := gw_of 323 (by decide +kernel) (by decide +kernel)
theorem q_fl_X9_29 : Cond.fieldLink RX9 29 "ReflectCensus$Told" "evenings" "[LReflectCensus$Evening;" ∈ GW := gw_of 325 (by decide +kernel) (by decide +kernel)
theorem q_fl_X9_35 : Cond.fieldLink RX9 35 "ReflectCensus$Told" "sights" "[LReflectCensus$Sight;" ∈ GW := gw_of 327 (by decide +kernel) (by decide +kernel)
theorem q_fl_X9_43 : Cond.fieldLink RX9 43 "ReflectCensus$Told" "tape" "[B" ∈ GW := gw_of 329 (by decide +kernel) (by decide +kernel)
theorem q_fl_X9_47 : Cond.fieldLink RX9 47 "ReflectCensus$Told" "place" "I" ∈ GW := gw_of 335 (by decide +kernel) (by decide +kernel)
theorem q_fl_X9_70 : Cond.fieldLink RX9 70 "ReflectCensus$Told" "length" "I" ∈ GW := gw_of 332 (by decide +kernel) (by decide +kernel)
theorem q_fl_X9_73 : Cond.fieldLink RX9 73 "ReflectCensus$Told" "fault" "I" ∈ GW := gw_of 333 (by decide +kernel) (by decide +kernel)
theorem q_fl_X9_9 : Cond.fieldLink RX9 9 "ReflectCensus$Told" "number" "[I" ∈ GW := gw_of 319 (by decide +kernel) (by decide +kernel)
theorem q_ml_J0_1059 : Cond.methodLink RJ0 1059 yJ3_checkIndex_8e157 ∈ GW := gw_of 703 (by decide +kernel) (by decide +kernel)
theorem q_ml_J0_335 : Cond.methodLink RJ0 335 yJ0_coder_7d493 ∈ GW := gw_of 681 (by decide +kernel) (by decide +kernel)
theorem q_ml_J0_492 : Cond.methodLink RJ0 492 yJ0_isLatin1_aae02 ∈ GW := gw_of 691 (by decide +kernel) (by decide +kernel)
theorem q_ml_J0_495 : Cond.methodLink RJ0 495 yJ1_charAt_3b067 ∈ GW := gw_of 695 (by decide +kernel) (by decide +kernel)
theorem q_ml_J1_9 : Cond.methodLink RJ1 9 yJ0_checkIndex_df160 ∈ GW := gw_of 698 (by decide +kernel) (by decide +kernel)
theorem q_ml_X0_102 : Cond.methodLink RX0 102 yX0_isStirred ∈ GW := gw_of 907 (by decide +kernel) (by decide +kernel)
theorem q_ml_X0_106 : Cond.methodLink RX0 106 yX0_opens ∈ GW := gw_of 911 (by decide +kernel) (by decide +kernel)
theorem q_ml_X0_110 : Cond.methodLink RX0 110 yX0_meets ∈ GW := gw_of 915 (by decide +kernel) (by decide +kernel)
theorem q_ml_X0_113 : Cond.methodLink RX0 113 yX0_widen ∈ GW := gw_of 938 (by decide +kernel) (by decide +kernel)
theorem q_ml_X0_117 : Cond.methodLink RX0 117 arraycopyName ∈ GW := gw_of 942 (by decide +kernel) (by decide +kernel)
theorem q_ml_X0_123 : Cond.methodLink RX0 123 yX0_spread ∈ GW := gw_of 934 (by decide +kernel) (by decide +kernel)
theorem q_ml_X0_127 : Cond.methodLink RX0 127 yX4_isSoup ∈ GW := gw_of 959 (by decide +kernel) (by decide +kernel)
theorem q_ml_X0_136 : Cond.methodLink RX0 136 yJ6_bitCount_0f7a4 ∈ GW := gw_of 963 (by decide +kernel) (by decide +kernel)
theorem q_ml_X0_147 : Cond.methodLink RX0 147 yX0_headsIn ∈ GW := gw_of 955 (by decide +kernel) (by decide +kernel)
theorem q_ml_X0_151 : Cond.methodLink RX0 151 Lib.Math.min.name ∈ GW := gw_of 969 (by decide +kernel) (by decide +kernel)
theorem q_ml_X0_159 : Cond.methodLink RX0 159 yX0_countIn ∈ GW := gw_of 951 (by decide +kernel) (by decide +kernel)
theorem q_ml_X0_162 : Cond.methodLink RX0 162 yJ7_fill_53178 ∈ GW := gw_of 986 (by decide +kernel) (by decide +kernel)
theorem q_ml_X0_168 : Cond.methodLink RX0 168 yX0_addTotals ∈ GW := gw_of 982 (by decide +kernel) (by decide +kernel)
theorem q_ml_X0_172 : Cond.methodLink RX0 172 yX4_share ∈ GW := gw_of 987 (by decide +kernel) (by decide +kernel)
theorem q_ml_X0_44 : Cond.methodLink RX0 44 yX5_copyFrom ∈ GW := gw_of 890 (by decide +kernel) (by decide +kernel)
theorem q_ml_X0_57 : Cond.methodLink RX0 57 yX0_drawSteps ∈ GW := gw_of 891 (by decide +kernel) (by decide +kernel)
theorem q_ml_X0_66 : Cond.methodLink RX0 66 yX0_look ∈ GW := gw_of 903 (by decide +kernel) (by decide +kernel)
theorem q_ml_X0_70 : Cond.methodLink RX0 70 yX0_drawStepsFrom ∈ GW := gw_of 895 (by decide +kernel) (by decide +kernel)
theorem q_ml_X0_98 : Cond.methodLink RX0 98 yX0_stepFrom ∈ GW := gw_of 919 (by decide +kernel) (by decide +kernel)
theorem q_ml_X10_28 : Cond.methodLink RX10 28 yJ7_fill_53178 ∈ GW := gw_of 1174 (by decide +kernel) (by decide +kernel)
theorem q_ml_X10_34 : Cond.methodLink RX10 34 yX0_stepFrom ∈ GW := gw_of 1175 (by decide +kernel) (by decide +kernel)
theorem q_ml_X10_53 : Cond.methodLink RX10 53 yX10_flood ∈ GW := gw_of 1184 (by decide +kernel) (by decide +kernel)
theorem q_ml_X10_60 : Cond.methodLink RX10 60 yX10_goOn ∈ GW := gw_of 1185 (by decide +kernel) (by decide +kernel)
theorem q_ml_X10_64 : Cond.methodLink RX10 64 yX10_fewestTo ∈ GW := gw_of 1193 (by decide +kernel) (by decide +kernel)
theorem q_ml_X10_68 : Cond.methodLink RX10 68 yJ6_bitCount_0f7a4 ∈ GW := gw_of 1201 (by decide +kernel) (by decide +kernel)
theorem q_ml_X10_73 : Cond.methodLink RX10 73 Lib.Math.max.name ∈ GW := gw_of 1202 (by decide +kernel) (by decide +kernel)
theorem q_ml_X11_104 : Cond.methodLink RX11 104 yX5_copyFrom ∈ GW := gw_of 800 (by decide +kernel) (by decide +kernel)
theorem q_ml_X11_118 : Cond.methodLink RX11 118 yX4_copyFrom ∈ GW := gw_of 807 (by decide +kernel) (by decide +kernel)
theorem q_ml_X11_131 : Cond.methodLink RX11 131 yX2_copyFrom ∈ GW := gw_of 811 (by decide +kernel) (by decide +kernel)
theorem q_ml_X11_144 : Cond.methodLink RX11 144 yX8_copyFrom ∈ GW := gw_of 816 (by decide +kernel) (by decide +kernel)
theorem q_ml_X11_149 : Cond.methodLink RX11 149 yX9_parishAt ∈ GW := gw_of 829 (by decide +kernel) (by decide +kernel)
theorem q_ml_X11_153 : Cond.methodLink RX11 153 yX5_tell ∈ GW := gw_of 837 (by decide +kernel) (by decide +kernel)
theorem q_ml_X11_157 : Cond.methodLink RX11 157 yX5_hasSquare ∈ GW := gw_of 857 (by decide +kernel) (by decide +kernel)
theorem q_ml_X11_164 : Cond.methodLink RX11 164 yX9_lawAt ∈ GW := gw_of 865 (by decide +kernel) (by decide +kernel)
theorem q_ml_X11_168 : Cond.methodLink RX11 168 yX4_tell ∈ GW := gw_of 869 (by decide +kernel) (by decide +kernel)
theorem q_ml_X11_169 : Cond.methodLink RX11 169 yX9_eveningAt ∈ GW := gw_of 877 (by decide +kernel) (by decide +kernel)
theorem q_ml_X11_185 : Cond.methodLink RX11 185 yX5_hasShine ∈ GW := gw_of 885 (by decide +kernel) (by decide +kernel)
theorem q_ml_X11_188 : Cond.methodLink RX11 188 yX0_begin ∈ GW := gw_of 886 (by decide +kernel) (by decide +kernel)
theorem q_ml_X11_191 : Cond.methodLink RX11 191 yX0_opens ∈ GW := gw_of 923 (by decide +kernel) (by decide +kernel)
theorem q_ml_X11_195 : Cond.methodLink RX11 195 yX0_meets ∈ GW := gw_of 924 (by decide +kernel) (by decide +kernel)
theorem q_ml_X11_199 : Cond.methodLink RX11 199 yX5_hasPerson ∈ GW := gw_of 929 (by decide +kernel) (by decide +kernel)
theorem q_ml_X11_202 : Cond.methodLink RX11 202 yX0_degreeOf ∈ GW := gw_of 930 (by decide +kernel) (by decide +kernel)
theorem q_ml_X11_205 : Cond.methodLink RX11 205 yX0_sumBy ∈ GW := gw_of 947 (by decide +kernel) (by decide +kernel)
theorem q_ml_X11_209 : Cond.methodLink RX11 209 yX0_countIn ∈ GW := gw_of 970 (by decide +kernel) (by decide +kernel)
theorem q_ml_X11_213 : Cond.methodLink RX11 213 yX11_isParty ∈ GW := gw_of 975 (by decide +kernel) (by decide +kernel)
theorem q_ml_X11_216 : Cond.methodLink RX11 216 yX0_seatsOf ∈ GW := gw_of 978 (by decide +kernel) (by decide +kernel)
theorem q_ml_X11_219 : Cond.methodLink RX11 219 yX0_addTotals ∈ GW := gw_of 1003 (by decide +kernel) (by decide +kernel)
theorem q_ml_X11_225 : Cond.methodLink RX11 225 yX6_begin ∈ GW := gw_of 1008 (by decide +kernel) (by decide +kernel)
theorem q_ml_X11_226 : Cond.methodLink RX11 226 yX6_perform ∈ GW := gw_of 1014 (by decide +kernel) (by decide +kernel)
theorem q_ml_X11_230 : Cond.methodLink RX11 230 yX6_tell ∈ GW := gw_of 1058 (by decide +kernel) (by decide +kernel)
theorem q_ml_X11_233 : Cond.methodLink RX11 233 yX1_placeOne ∈ GW := gw_of 1071 (by decide +kernel) (by decide +kernel)
theorem q_ml_X11_243 : Cond.methodLink RX11 243 yX1_placeTwo ∈ GW := gw_of 1103 (by decide +kernel) (by decide +kernel)
theorem q_ml_X11_247 : Cond.methodLink RX11 247 yX1_turnOne ∈ GW := gw_of 1111 (by decide +kernel) (by decide +kernel)
theorem q_ml_X11_254 : Cond.methodLink RX11 254 yX1_addSpoon ∈ GW := gw_of 1120 (by decide +kernel) (by decide +kernel)
theorem q_ml_X11_257 : Cond.methodLink RX11 257 yX11_isGame ∈ GW := gw_of 1133 (by decide +kernel) (by decide +kernel)
theorem q_ml_X11_261 : Cond.methodLink RX11 261 yX1_prizeOf ∈ GW := gw_of 1140 (by decide +kernel) (by decide +kernel)
theorem q_ml_X11_265 : Cond.methodLink RX11 265 yX1_playGame ∈ GW := gw_of 1154 (by decide +kernel) (by decide +kernel)
theorem q_ml_X11_269 : Cond.methodLink RX11 269 yX1_findRest ∈ GW := gw_of 1158 (by decide +kernel) (by decide +kernel)
theorem q_ml_X11_272 : Cond.methodLink RX11 272 yX10_flood ∈ GW := gw_of 1170 (by decide +kernel) (by decide +kernel)
theorem q_ml_X11_278 : Cond.methodLink RX11 278 yX10_tour ∈ GW := gw_of 1180 (by decide +kernel) (by decide +kernel)
theorem q_ml_X11_281 : Cond.methodLink RX11 281 yX10_fewestToAll ∈ GW := gw_of 1189 (by decide +kernel) (by decide +kernel)
theorem q_ml_X11_285 : Cond.methodLink RX11 285 yX10_mostWithin ∈ GW := gw_of 1197 (by decide +kernel) (by decide +kernel)
theorem q_ml_X11_288 : Cond.methodLink RX11 288 yX9_sightAt ∈ GW := gw_of 1209 (by decide +kernel) (by decide +kernel)
theorem q_ml_X11_298 : Cond.methodLink RX11 298 yX3_measure ∈ GW := gw_of 1217 (by decide +kernel) (by decide +kernel)
theorem q_ml_X11_302 : Cond.methodLink RX11 302 yX3_tell ∈ GW := gw_of 1241 (by decide +kernel) (by decide +kernel)
theorem q_ml_X11_303 : Cond.methodLink RX11 303 yX0_spread ∈ GW := gw_of 1254 (by decide +kernel) (by decide +kernel)
theorem q_ml_X11_307 : Cond.methodLink RX11 307 yX11_commonDivisor ∈ GW := gw_of 1255 (by decide +kernel) (by decide +kernel)
theorem q_ml_X11_310 : Cond.methodLink RX11 310 yX0_clanOf ∈ GW := gw_of 1262 (by decide +kernel) (by decide +kernel)
theorem q_ml_X11_313 : Cond.methodLink RX11 313 yX1_findPuddle ∈ GW := gw_of 1270 (by decide +kernel) (by decide +kernel)
theorem q_ml_X11_316 : Cond.methodLink RX11 316 yX6_performDrawn ∈ GW := gw_of 1280 (by decide +kernel) (by decide +kernel)
theorem q_ml_X11_326 : Cond.methodLink RX11 326 yX0_glances ∈ GW := gw_of 1301 (by decide +kernel) (by decide +kernel)
theorem q_ml_X11_329 : Cond.methodLink RX11 329 yX1_addWall ∈ GW := gw_of 1309 (by decide +kernel) (by decide +kernel)
theorem q_ml_X11_335 : Cond.methodLink RX11 335 yX0_knownIn ∈ GW := gw_of 1317 (by decide +kernel) (by decide +kernel)
theorem q_ml_X11_338 : Cond.methodLink RX11 338 yX1_findKnown ∈ GW := gw_of 1321 (by decide +kernel) (by decide +kernel)
theorem q_ml_X11_344 : Cond.methodLink RX11 344 yX5_leastShineOf ∈ GW := gw_of 1136 (by decide +kernel) (by decide +kernel)
theorem q_ml_X11_68 : Cond.methodLink RX11 68 yX9_addBytes ∈ GW := gw_of 595 (by decide +kernel) (by decide +kernel)
theorem q_ml_X11_86 : Cond.methodLink RX11 86 yX7_read ∈ GW := gw_of 607 (by decide +kernel) (by decide +kernel)
theorem q_ml_X11_92 : Cond.methodLink RX11 92 yX11_keepDraft ∈ GW := gw_of 796 (by decide +kernel) (by decide +kernel)
theorem q_ml_X12_104 : Cond.methodLink RX12 104 yX12_byteAt ∈ GW := gw_of 1514 (by decide +kernel) (by decide +kernel)
theorem q_ml_X12_114 : Cond.methodLink RX12 114 yX12_isLetter ∈ GW := gw_of 1518 (by decide +kernel) (by decide +kernel)
theorem q_ml_X12_122 : Cond.methodLink RX12 122 yX12_wordOf ∈ GW := gw_of 1523 (by decide +kernel) (by decide +kernel)
theorem q_ml_X12_128 : Cond.methodLink RX12 128 yX12_isDigit ∈ GW := gw_of 1536 (by decide +kernel) (by decide +kernel)
theorem q_ml_X12_138 : Cond.methodLink RX12 138 yX12_ends ∈ GW := gw_of 1547 (by decide +kernel) (by decide +kernel)
theorem q_ml_X12_141 : Cond.methodLink RX12 141 yX12_isIn ∈ GW := gw_of 1499 (by decide +kernel) (by decide +kernel)
theorem q_ml_X12_145 : Cond.methodLink RX12 145 yX12_also ∈ GW := gw_of 1555 (by decide +kernel) (by decide +kernel)
theorem q_ml_X12_149 : Cond.methodLink RX12 149 yX12_advance ∈ GW := gw_of 1510 (by decide +kernel) (by decide +kernel)
theorem q_ml_X12_152 : Cond.methodLink RX12 152 yX12_numbered ∈ GW := gw_of 1551 (by decide +kernel) (by decide +kernel)
theorem q_ml_X12_162 : Cond.methodLink RX12 162 yX12_squareTold ∈ GW := gw_of 1559 (by decide +kernel) (by decide +kernel)
theorem q_ml_X12_166 : Cond.methodLink RX12 166 yX12_takes ∈ GW := gw_of 1543 (by decide +kernel) (by decide +kernel)
theorem q_ml_X12_169 : Cond.methodLink RX12 169 yX12_personLine ∈ GW := gw_of 1563 (by decide +kernel) (by decide +kernel)
theorem q_ml_X12_173 : Cond.methodLink RX12 173 yX12_shineLine ∈ GW := gw_of 1567 (by decide +kernel) (by decide +kernel)
theorem q_ml_X12_176 : Cond.methodLink RX12 176 yX12_endsLine ∈ GW := gw_of 1571 (by decide +kernel) (by decide +kernel)
theorem q_ml_X12_179 : Cond.methodLink RX12 179 yX12_isOf ∈ GW := gw_of 1502 (by decide +kernel) (by decide +kernel)
theorem q_ml_X12_183 : Cond.methodLink RX12 183 yX12_clears ∈ GW := gw_of 1506 (by decide +kernel) (by decide +kernel)
theorem q_ml_X12_186 : Cond.methodLink RX12 186 yX12_parishLine ∈ GW := gw_of 1539 (by decide +kernel) (by decide +kernel)
theorem q_ml_X12_189 : Cond.methodLink RX12 189 yX12_lawLine ∈ GW := gw_of 1575 (by decide +kernel) (by decide +kernel)
theorem q_ml_X12_192 : Cond.methodLink RX12 192 yX12_eveningLine ∈ GW := gw_of 1579 (by decide +kernel) (by decide +kernel)
theorem q_ml_X12_195 : Cond.methodLink RX12 195 yX12_sightLine ∈ GW := gw_of 1583 (by decide +kernel) (by decide +kernel)
theorem q_ml_X12_198 : Cond.methodLink RX12 198 yX12_wrongAtEnd ∈ GW := gw_of 1587 (by decide +kernel) (by decide +kernel)
theorem q_ml_X12_201 : Cond.methodLink RX12 201 yX12_sizeOf ∈ GW := gw_of 1591 (by decide +kernel) (by decide +kernel)
theorem q_ml_X12_204 : Cond.methodLink RX12 204 yX12_placeOf ∈ GW := gw_of 1594 (by decide +kernel) (by decide +kernel)
theorem q_ml_X12_219 : Cond.methodLink RX12 219 yX12_wide ∈ GW := gw_of 1617 (by decide +kernel) (by decide +kernel)
theorem q_ml_X12_222 : Cond.methodLink RX12 222 yX12_high ∈ GW := gw_of 1633 (by decide +kernel) (by decide +kernel)
theorem q_ml_X12_225 : Cond.methodLink RX12 225 yX12_isParish ∈ GW := gw_of 1605 (by decide +kernel) (by decide +kernel)
theorem q_ml_X12_228 : Cond.methodLink RX12 228 yX12_isPerson ∈ GW := gw_of 1609 (by decide +kernel) (by decide +kernel)
theorem q_ml_X12_231 : Cond.methodLink RX12 231 yX12_outside ∈ GW := gw_of 1613 (by decide +kernel) (by decide +kernel)
theorem q_ml_X12_234 : Cond.methodLink RX12 234 yX12_isShine ∈ GW := gw_of 1621 (by decide +kernel) (by decide +kernel)
theorem q_ml_X12_237 : Cond.methodLink RX12 237 yX12_isSquare ∈ GW := gw_of 1629 (by decide +kernel) (by decide +kernel)
theorem q_ml_X12_240 : Cond.methodLink RX12 240 yX12_inside ∈ GW := gw_of 1637 (by decide +kernel) (by decide +kernel)
theorem q_ml_X12_243 : Cond.methodLink RX12 243 yX12_on ∈ GW := gw_of 1641 (by decide +kernel) (by decide +kernel)
theorem q_ml_X12_246 : Cond.methodLink RX12 246 yX12_isOpen ∈ GW := gw_of 1653 (by decide +kernel) (by decide +kernel)
theorem q_ml_X12_249 : Cond.methodLink RX12 249 yX12_beside ∈ GW := gw_of 1657 (by decide +kernel) (by decide +kernel)
theorem q_ml_X12_252 : Cond.methodLink RX12 252 yX12_meets ∈ GW := gw_of 1649 (by decide +kernel) (by decide +kernel)
theorem q_ml_X12_255 : Cond.methodLink RX12 255 yX12_joins ∈ GW := gw_of 1669 (by decide +kernel) (by decide +kernel)
theorem q_ml_X12_258 : Cond.methodLink RX12 258 yX12_laysOut ∈ GW := gw_of 1665 (by decide +kernel) (by decide +kernel)
theorem q_ml_X12_267 : Cond.methodLink RX12 267 yX12_isLaw ∈ GW := gw_of 1677 (by decide +kernel) (by decide +kernel)
theorem q_ml_X12_270 : Cond.methodLink RX12 270 yX12_isSoup ∈ GW := gw_of 1697 (by decide +kernel) (by decide +kernel)
theorem q_ml_X12_273 : Cond.methodLink RX12 273 yX12_isNear ∈ GW := gw_of 1701 (by decide +kernel) (by decide +kernel)
theorem q_ml_X12_276 : Cond.methodLink RX12 276 yX12_countOf ∈ GW := gw_of 1693 (by decide +kernel) (by decide +kernel)
theorem q_ml_X12_279 : Cond.methodLink RX12 279 yX12_areTold ∈ GW := gw_of 1685 (by decide +kernel) (by decide +kernel)
theorem q_ml_X12_282 : Cond.methodLink RX12 282 yX12_sum ∈ GW := gw_of 1689 (by decide +kernel) (by decide +kernel)
theorem q_ml_X12_285 : Cond.methodLink RX12 285 yX12_takesTotals ∈ GW := gw_of 1713 (by decide +kernel) (by decide +kernel)
theorem q_ml_X12_288 : Cond.methodLink RX12 288 yX12_by ∈ GW := gw_of 1717 (by decide +kernel) (by decide +kernel)
theorem q_ml_X12_291 : Cond.methodLink RX12 291 yX12_gives ∈ GW := gw_of 1709 (by decide +kernel) (by decide +kernel)
theorem q_ml_X12_297 : Cond.methodLink RX12 297 yX12_isEvening ∈ GW := gw_of 1725 (by decide +kernel) (by decide +kernel)
theorem q_ml_X12_300 : Cond.methodLink RX12 300 yX12_deedOf ∈ GW := gw_of 1729 (by decide +kernel) (by decide +kernel)
theorem q_ml_X12_309 : Cond.methodLink RX12 309 yX12_counts ∈ GW := gw_of 1753 (by decide +kernel) (by decide +kernel)
theorem q_ml_X12_312 : Cond.methodLink RX12 312 yX12_begins ∈ GW := gw_of 1741 (by decide +kernel) (by decide +kernel)
theorem q_ml_X12_315 : Cond.methodLink RX12 315 yX12_can ∈ GW := gw_of 1745 (by decide +kernel) (by decide +kernel)
theorem q_ml_X12_318 : Cond.methodLink RX12 318 yX12_does ∈ GW := gw_of 1749 (by decide +kernel) (by decide +kernel)
theorem q_ml_X12_322 : Cond.methodLink RX12 322 yX12_runs ∈ GW := gw_of 1737 (by decide +kernel) (by decide +kernel)
theorem q_ml_X12_325 : Cond.methodLink RX12 325 yX12_nowOf ∈ GW := gw_of 1761 (by decide +kernel) (by decide +kernel)
theorem q_ml_X12_328 : Cond.methodLink RX12 328 yX12_isFreeFor ∈ GW := gw_of 1769 (by decide +kernel) (by decide +kernel)
theorem q_ml_X12_331 : Cond.methodLink RX12 331 yX12_leastOf ∈ GW := gw_of 1793 (by decide +kernel) (by decide +kernel)
theorem q_ml_X12_334 : Cond.methodLink RX12 334 yX12_arePlayers ∈ GW := gw_of 1789 (by decide +kernel) (by decide +kernel)
theorem q_ml_X12_337 : Cond.methodLink RX12 337 yX12_prizeOf ∈ GW := gw_of 1797 (by decide +kernel) (by decide +kernel)
theorem q_ml_X12_340 : Cond.methodLink RX12 340 yX12_isRest ∈ GW := gw_of 1805 (by decide +kernel) (by decide +kernel)
theorem q_ml_X12_343 : Cond.methodLink RX12 343 yX12_isWall ∈ GW := gw_of 1813 (by decide +kernel) (by decide +kernel)
theorem q_ml_X12_346 : Cond.methodLink RX12 346 yX12_walks ∈ GW := gw_of 1817 (by decide +kernel) (by decide +kernel)
theorem q_ml_X12_349 : Cond.methodLink RX12 349 yX12_laysRounds ∈ GW := gw_of 1825 (by decide +kernel) (by decide +kernel)
theorem q_ml_X12_352 : Cond.methodLink RX12 352 yX12_bitsOf ∈ GW := gw_of 1829 (by decide +kernel) (by decide +kernel)
theorem q_ml_X12_358 : Cond.methodLink RX12 358 yX12_unlike ∈ GW := gw_of 1840 (by decide +kernel) (by decide +kernel)
theorem q_ml_X12_361 : Cond.methodLink RX12 361 yX12_next ∈ GW := gw_of 1844 (by decide +kernel) (by decide +kernel)
theorem q_ml_X12_363 : Cond.methodLink RX12 363 yX12_common ∈ GW := gw_of 1852 (by decide +kernel) (by decide +kernel)
theorem q_ml_X12_366 : Cond.methodLink RX12 366 yX12_isBlind ∈ GW := gw_of 1867 (by decide +kernel) (by decide +kernel)
theorem q_ml_X12_369 : Cond.methodLink RX12 369 yX12_isLone ∈ GW := gw_of 1871 (by decide +kernel) (by decide +kernel)
theorem q_ml_X12_372 : Cond.methodLink RX12 372 yX12_glances ∈ GW := gw_of 1875 (by decide +kernel) (by decide +kernel)
theorem q_ml_X12_375 : Cond.methodLink RX12 375 yX12_deep ∈ GW := gw_of 1879 (by decide +kernel) (by decide +kernel)
theorem q_ml_X12_378 : Cond.methodLink RX12 378 yX12_knownIn ∈ GW := gw_of 1891 (by decide +kernel) (by decide +kernel)
theorem q_ml_X12_385 : Cond.methodLink RX12 385 yX12_below ∈ GW := gw_of 1903 (by decide +kernel) (by decide +kernel)
theorem q_ml_X12_388 : Cond.methodLink RX12 388 yX12_draws ∈ GW := gw_of 1899 (by decide +kernel) (by decide +kernel)
theorem q_ml_X12_87 : Cond.methodLink RX12 87 yX12_four ∈ GW := gw_of 1526 (by decide +kernel) (by decide +kernel)
theorem q_ml_X12_93 : Cond.methodLink RX12 93 yX12_eight ∈ GW := gw_of 1529 (by decide +kernel) (by decide +kernel)
theorem q_ml_X12_97 : Cond.methodLink RX12 97 yX12_otherWord ∈ GW := gw_of 1533 (by decide +kernel) (by decide +kernel)
theorem q_ml_X1_101 : Cond.methodLink RX1 101 yX0_headsIn ∈ GW := gw_of 1275 (by decide +kernel) (by decide +kernel)
theorem q_ml_X1_104 : Cond.methodLink RX1 104 yX5_leastShineOf ∈ GW := gw_of 1144 (by decide +kernel) (by decide +kernel)
theorem q_ml_X1_107 : Cond.methodLink RX1 107 yX1_turnCouple ∈ GW := gw_of 1145 (by decide +kernel) (by decide +kernel)
theorem q_ml_X1_114 : Cond.methodLink RX1 114 yX0_addTotals ∈ GW := gw_of 1149 (by decide +kernel) (by decide +kernel)
theorem q_ml_X1_118 : Cond.methodLink RX1 118 yX1_isRest ∈ GW := gw_of 1162 (by decide +kernel) (by decide +kernel)
theorem q_ml_X1_26 : Cond.methodLink RX1 26 yX0_begin ∈ GW := gw_of 1075 (by decide +kernel) (by decide +kernel)
theorem q_ml_X1_32 : Cond.methodLink RX1 32 yX1_begin ∈ GW := gw_of 1076 (by decide +kernel) (by decide +kernel)
theorem q_ml_X1_39 : Cond.methodLink RX1 39 yX0_lay ∈ GW := gw_of 1080 (by decide +kernel) (by decide +kernel)
theorem q_ml_X1_43 : Cond.methodLink RX1 43 yX0_sumBy ∈ GW := gw_of 1081 (by decide +kernel) (by decide +kernel)
theorem q_ml_X1_47 : Cond.methodLink RX1 47 yX0_squares ∈ GW := gw_of 1082 (by decide +kernel) (by decide +kernel)
theorem q_ml_X1_51 : Cond.methodLink RX1 51 yX0_isFree ∈ GW := gw_of 1086 (by decide +kernel) (by decide +kernel)
theorem q_ml_X1_55 : Cond.methodLink RX1 55 yX1_sumWith ∈ GW := gw_of 1087 (by decide +kernel) (by decide +kernel)
theorem q_ml_X1_59 : Cond.methodLink RX1 59 yX1_offer ∈ GW := gw_of 1095 (by decide +kernel) (by decide +kernel)
theorem q_ml_X1_63 : Cond.methodLink RX1 63 yX0_isInSight ∈ GW := gw_of 1091 (by decide +kernel) (by decide +kernel)
theorem q_ml_X1_66 : Cond.methodLink RX1 66 yX0_face ∈ GW := gw_of 1115 (by decide +kernel) (by decide +kernel)
theorem q_ml_X1_69 : Cond.methodLink RX1 69 yX0_addSpoon ∈ GW := gw_of 1124 (by decide +kernel) (by decide +kernel)
theorem q_ml_X1_80 : Cond.methodLink RX1 80 yX0_seatsOf ∈ GW := gw_of 1128 (by decide +kernel) (by decide +kernel)
theorem q_ml_X1_87 : Cond.methodLink RX1 87 yX0_knownIn ∈ GW := gw_of 1325 (by decide +kernel) (by decide +kernel)
theorem q_ml_X1_95 : Cond.methodLink RX1 95 yX0_spread ∈ GW := gw_of 1274 (by decide +kernel) (by decide +kernel)
theorem q_ml_X2_25 : Cond.methodLink RX2 25 arraycopyName ∈ GW := gw_of 815 (by decide +kernel) (by decide +kernel)
theorem q_ml_X3_104 : Cond.methodLink RX3 104 Lib.Math.max.name ∈ GW := gw_of 1249 (by decide +kernel) (by decide +kernel)
theorem q_ml_X3_108 : Cond.methodLink RX3 108 yX3_nextShine ∈ GW := gw_of 1245 (by decide +kernel) (by decide +kernel)
theorem q_ml_X3_25 : Cond.methodLink RX3 25 yX0_begin ∈ GW := gw_of 1221 (by decide +kernel) (by decide +kernel)
theorem q_ml_X3_46 : Cond.methodLink RX3 46 yJ7_fill_53178 ∈ GW := gw_of 1222 (by decide +kernel) (by decide +kernel)
theorem q_ml_X3_52 : Cond.methodLink RX3 52 yX3_change ∈ GW := gw_of 1223 (by decide +kernel) (by decide +kernel)
theorem q_ml_X3_61 : Cond.methodLink RX3 61 yX0_spread ∈ GW := gw_of 1228 (by decide +kernel) (by decide +kernel)
theorem q_ml_X3_65 : Cond.methodLink RX3 65 yX3_differences ∈ GW := gw_of 1229 (by decide +kernel) (by decide +kernel)
theorem q_ml_X3_74 : Cond.methodLink RX3 74 yX3_noteCounts ∈ GW := gw_of 1237 (by decide +kernel) (by decide +kernel)
theorem q_ml_X3_81 : Cond.methodLink RX3 81 yX0_lay ∈ GW := gw_of 1227 (by decide +kernel) (by decide +kernel)
theorem q_ml_X3_95 : Cond.methodLink RX3 95 yX0_countIn ∈ GW := gw_of 1233 (by decide +kernel) (by decide +kernel)
theorem q_ml_X3_99 : Cond.methodLink RX3 99 Lib.Math.abs.name ∈ GW := gw_of 1234 (by decide +kernel) (by decide +kernel)
theorem q_ml_X4_31 : Cond.methodLink RX4 31 yX4_shareByRemainders ∈ GW := gw_of 991 (by decide +kernel) (by decide +kernel)
theorem q_ml_X4_35 : Cond.methodLink RX4 35 yX4_nextParty ∈ GW := gw_of 995 (by decide +kernel) (by decide +kernel)
theorem q_ml_X4_39 : Cond.methodLink RX4 39 yX4_divisor ∈ GW := gw_of 999 (by decide +kernel) (by decide +kernel)
theorem q_ml_X5_53 : Cond.methodLink RX5 53 yJ7_fill_53178 ∈ GW := gw_of 618 (by decide +kernel) (by decide +kernel)
theorem q_ml_X5_59 : Cond.methodLink RX5 59 arraycopyName ∈ GW := gw_of 804 (by decide +kernel) (by decide +kernel)
theorem q_ml_X5_65 : Cond.methodLink RX5 65 yX5_isAnyOutside ∈ GW := gw_of 784 (by decide +kernel) (by decide +kernel)
theorem q_ml_X5_69 : Cond.methodLink RX5 69 yX5_squareOf ∈ GW := gw_of 792 (by decide +kernel) (by decide +kernel)
theorem q_ml_X5_73 : Cond.methodLink RX5 73 yX5_isOutside ∈ GW := gw_of 788 (by decide +kernel) (by decide +kernel)
theorem q_ml_X5_77 : Cond.methodLink RX5 77 yX5_hasPerson ∈ GW := gw_of 841 (by decide +kernel) (by decide +kernel)
theorem q_ml_X5_80 : Cond.methodLink RX5 80 yX5_hasShine ∈ GW := gw_of 845 (by decide +kernel) (by decide +kernel)
theorem q_ml_X5_83 : Cond.methodLink RX5 83 yX5_tellShine ∈ GW := gw_of 849 (by decide +kernel) (by decide +kernel)
theorem q_ml_X6_100 : Cond.methodLink RX6 100 yX0_isFree ∈ GW := gw_of 1035 (by decide +kernel) (by decide +kernel)
theorem q_ml_X6_103 : Cond.methodLink RX6 103 yX0_lay ∈ GW := gw_of 1039 (by decide +kernel) (by decide +kernel)
theorem q_ml_X6_111 : Cond.methodLink RX6 111 yX0_spread ∈ GW := gw_of 1026 (by decide +kernel) (by decide +kernel)
theorem q_ml_X6_118 : Cond.methodLink RX6 118 yX0_countIn ∈ GW := gw_of 1027 (by decide +kernel) (by decide +kernel)
theorem q_ml_X6_123 : Cond.methodLink RX6 123 yX4_isSoup ∈ GW := gw_of 1028 (by decide +kernel) (by decide +kernel)
theorem q_ml_X6_138 : Cond.methodLink RX6 138 yX6_draw ∈ GW := gw_of 1284 (by decide +kernel) (by decide +kernel)
theorem q_ml_X6_141 : Cond.methodLink RX6 141 yX6_turnDrawn ∈ GW := gw_of 1289 (by decide +kernel) (by decide +kernel)
theorem q_ml_X6_144 : Cond.methodLink RX6 144 yX6_goDrawn ∈ GW := gw_of 1293 (by decide +kernel) (by decide +kernel)
theorem q_ml_X6_148 : Cond.methodLink RX6 148 yX0_sumBy ∈ GW := gw_of 1062 (by decide +kernel) (by decide +kernel)
theorem q_ml_X6_152 : Cond.methodLink RX6 152 yX6_tellShine ∈ GW := gw_of 1063 (by decide +kernel) (by decide +kernel)
theorem q_ml_X6_22 : Cond.methodLink RX6 22 yX0_begin ∈ GW := gw_of 1012 (by decide +kernel) (by decide +kernel)
theorem q_ml_X6_32 : Cond.methodLink RX6 32 yJ7_fill_53178 ∈ GW := gw_of 1013 (by decide +kernel) (by decide +kernel)
theorem q_ml_X6_52 : Cond.methodLink RX6 52 yX6_does ∈ GW := gw_of 1018 (by decide +kernel) (by decide +kernel)
theorem q_ml_X6_56 : Cond.methodLink RX6 56 Lib.Math.min.name ∈ GW := gw_of 1053 (by decide +kernel) (by decide +kernel)
theorem q_ml_X6_62 : Cond.methodLink RX6 62 yX6_countAll ∈ GW := gw_of 1022 (by decide +kernel) (by decide +kernel)
theorem q_ml_X6_66 : Cond.methodLink RX6 66 yX6_go ∈ GW := gw_of 1029 (by decide +kernel) (by decide +kernel)
theorem q_ml_X6_74 : Cond.methodLink RX6 74 yX5_hasShine ∈ GW := gw_of 1043 (by decide +kernel) (by decide +kernel)
theorem q_ml_X6_80 : Cond.methodLink RX6 80 yX0_face ∈ GW := gw_of 1044 (by decide +kernel) (by decide +kernel)
theorem q_ml_X6_84 : Cond.methodLink RX6 84 yX0_isStirred ∈ GW := gw_of 1048 (by decide +kernel) (by decide +kernel)
theorem q_ml_X6_87 : Cond.methodLink RX6 87 yX0_stirOrCalm ∈ GW := gw_of 1049 (by decide +kernel) (by decide +kernel)
theorem q_ml_X6_91 : Cond.methodLink RX6 91 yX5_hasPerson ∈ GW := gw_of 1033 (by decide +kernel) (by decide +kernel)
theorem q_ml_X6_97 : Cond.methodLink RX6 97 yX0_stepFrom ∈ GW := gw_of 1034 (by decide +kernel) (by decide +kernel)
theorem q_ml_X7_106 : Cond.methodLink RX7 106 yX7_readNumbers ∈ GW := gw_of 737 (by decide +kernel) (by decide +kernel)
theorem q_ml_X7_112 : Cond.methodLink RX7 112 yX7_keep ∈ GW := gw_of 752 (by decide +kernel) (by decide +kernel)
theorem q_ml_X7_118 : Cond.methodLink RX7 118 yX7_numberOfToken ∈ GW := gw_of 743 (by decide +kernel) (by decide +kernel)
theorem q_ml_X7_121 : Cond.methodLink RX7 121 yX7_least ∈ GW := gw_of 747 (by decide +kernel) (by decide +kernel)
theorem q_ml_X7_133 : Cond.methodLink RX7 133 yX7_keepOfParish ∈ GW := gw_of 756 (by decide +kernel) (by decide +kernel)
theorem q_ml_X7_136 : Cond.methodLink RX7 136 yX7_keepOfLaw ∈ GW := gw_of 772 (by decide +kernel) (by decide +kernel)
theorem q_ml_X7_139 : Cond.methodLink RX7 139 yX2_add ∈ GW := gw_of 776 (by decide +kernel) (by decide +kernel)
theorem q_ml_X7_155 : Cond.methodLink RX7 155 yX5_addWall ∈ GW := gw_of 760 (by decide +kernel) (by decide +kernel)
theorem q_ml_X7_159 : Cond.methodLink RX7 159 yX5_addPerson ∈ GW := gw_of 764 (by decide +kernel) (by decide +kernel)
theorem q_ml_X7_162 : Cond.methodLink RX7 162 yX5_addShine ∈ GW := gw_of 768 (by decide +kernel) (by decide +kernel)
theorem q_ml_X7_187 : Cond.methodLink RX7 187 yX7_wordOf ∈ GW := gw_of 649 (by decide +kernel) (by decide +kernel)
theorem q_ml_X7_191 : Cond.methodLink RX7 191 yX7_isToken ∈ GW := gw_of 673 (by decide +kernel) (by decide +kernel)
theorem q_ml_X7_195 : Cond.methodLink RX7 195 yJ0_length_8abf5 ∈ GW := gw_of 677 (by decide +kernel) (by decide +kernel)
theorem q_ml_X7_199 : Cond.methodLink RX7 199 yJ0_charAt_5068e ∈ GW := gw_of 687 (by decide +kernel) (by decide +kernel)
theorem q_ml_X7_238 : Cond.methodLink RX7 238 yX7_isLetter ∈ GW := gw_of 631 (by decide +kernel) (by decide +kernel)
theorem q_ml_X7_241 : Cond.methodLink RX7 241 yX7_isDigit ∈ GW := gw_of 635 (by decide +kernel) (by decide +kernel)
theorem q_ml_X7_47 : Cond.methodLink RX7 47 Lib.Math.min.name ∈ GW := gw_of 611 (by decide +kernel) (by decide +kernel)
theorem q_ml_X7_66 : Cond.methodLink RX7 66 yX5_clear ∈ GW := gw_of 614 (by decide +kernel) (by decide +kernel)
theorem q_ml_X7_69 : Cond.methodLink RX7 69 yX4_clear ∈ GW := gw_of 619 (by decide +kernel) (by decide +kernel)
theorem q_ml_X7_73 : Cond.methodLink RX7 73 yX8_clear ∈ GW := gw_of 623 (by decide +kernel) (by decide +kernel)
theorem q_ml_X7_74 : Cond.methodLink RX7 74 yX7_nextToken ∈ GW := gw_of 627 (by decide +kernel) (by decide +kernel)
theorem q_ml_X7_80 : Cond.methodLink RX7 80 yX7_readLine ∈ GW := gw_of 639 (by decide +kernel) (by decide +kernel)
theorem q_ml_X7_84 : Cond.methodLink RX7 84 yX5_settle ∈ GW := gw_of 780 (by decide +kernel) (by decide +kernel)
theorem q_ml_X7_88 : Cond.methodLink RX7 88 yX7_mark ∈ GW := gw_of 733 (by decide +kernel) (by decide +kernel)
theorem q_ml_X7_92 : Cond.methodLink RX7 92 yX7_lineOf ∈ GW := gw_of 643 (by decide +kernel) (by decide +kernel)
theorem q_ml_X7_96 : Cond.methodLink RX7 96 yX7_refuse ∈ GW := gw_of 725 (by decide +kernel) (by decide +kernel)
theorem q_ml_X7_99 : Cond.methodLink RX7 99 yX7_isFull ∈ GW := gw_of 729 (by decide +kernel) (by decide +kernel)
theorem q_ml_X8_15 : Cond.methodLink RX8 15 yJ7_fill_53178 ∈ GW := gw_of 303 (by decide +kernel) (by decide +kernel)
theorem q_ml_X8_25 : Cond.methodLink RX8 25 arraycopyName ∈ GW := gw_of 820 (by decide +kernel) (by decide +kernel)
theorem q_ml_X9_51 : Cond.methodLink RX9 51 arraycopyName ∈ GW := gw_of 1338 (by decide +kernel) (by decide +kernel)
theorem q_ml_X9_57 : Cond.methodLink RX9 57 yX5_copyFrom ∈ GW := gw_of 1339 (by decide +kernel) (by decide +kernel)
theorem q_ml_X9_61 : Cond.methodLink RX9 61 yX4_copyFrom ∈ GW := gw_of 1340 (by decide +kernel) (by decide +kernel)
theorem q_ml_X9_64 : Cond.methodLink RX9 64 yX2_copyFrom ∈ GW := gw_of 1341 (by decide +kernel) (by decide +kernel)
theorem q_ml_X9_67 : Cond.methodLink RX9 67 yX8_copyFrom ∈ GW := gw_of 1342 (by decide +kernel) (by decide +kernel)
theorem q_ml_X9_76 : Cond.methodLink RX9 76 yX9_has ∈ GW := gw_of 833 (by decide +kernel) (by decide +kernel)
theorem q_acn : Cond.native arraycopyName ∈ GW := gw_of 806 (by decide +kernel) (by decide +kernel)
theorem q_acs : Cond.static arraycopyName ∈ GW := gw_of 805 (by decide +kernel) (by decide +kernel)
theorem q_sys : Cond.initialized "java/lang/System" ∈ GW := gw_of 130 (by decide +kernel) (by decide +kernel)
set_option maxRecDepth 100000 in
theorem lkm_min : LkM Lib.Math.min.name Lib.Math.min.code 2 := ⟨gw_of 613 rfl (by decide +kernel), gw_of 612 (by decide +kernel) (by decide +kernel), gw_of 125 (by decide +kernel) (by decide +kernel)⟩
set_option maxRecDepth 100000 in
theorem lkm_max : LkM Lib.Math.max.name Lib.Math.max.code 2 := ⟨gw_of 1204 rfl (by decide +kernel), gw_of 1203 (by decide +kernel) (by decide +kernel), gw_of 125 (by decide +kernel) (by decide +kernel)⟩
set_option maxRecDepth 100000 in
theorem lkm_abs : LkM Lib.Math.abs.name Lib.Math.abs.code 1 := ⟨gw_of 1236 rfl (by decide +kernel), gw_of 1235 (by decide +kernel) (by decide +kernel), gw_of 125 (by decide +kernel) (by decide +kernel)⟩
theorem q_in_RX0 : Cond.initialized RX0 ∈ GW := gw_of 119 (by decide +kernel) (by decide +kernel)
set_option maxRecDepth 100000 in
theorem lk_X0_drawStepsFrom : LkV yX0_drawStepsFrom cX0_drawStepsFrom 7 none 2 := ⟨gw_of 898 rfl (by decide +kernel), gw_of 897 (by decide +kernel) (by decide +kernel), gw_of 21 (by decide +kernel) (by decide +kernel), q_in_RX0, by decide +kernel, by decide +kernel, by decide +kernel⟩
set_option maxRecDepth 100000 in
theorem lk_X0_drawSteps : LkV yX0_drawSteps cX0_drawSteps 3 none 0 := ⟨gw_of 894 rfl (by decide +kernel), gw_of 893 (by decide +kernel) (by decide +kernel), gw_of 20 (by decide +kernel) (by decide +kernel), q_in_RX0, by decide +kernel, by decide +kernel, by decide +kernel⟩
set_option maxRecDepth 100000 in
theorem lk_X0_isStirred : LkV yX0_isStirred cX0_isStirred 2 (some .boolean) 1 := ⟨gw_of 910 rfl (by decide +kernel), gw_of 908 (by decide +kernel) (by decide +kernel), gw_of 909 (by decide +kernel) (by decide +kernel), q_in_RX0, by decide +kernel, by decide +kernel, by decide +kernel⟩
set_option maxRecDepth 100000 in
theorem lk_X0_stepFrom : LkV yX0_stepFrom cX0_stepFrom 3 (some .int) 2 := ⟨gw_of 922 rfl (by decide +kernel), gw_of 920 (by decide +kernel) (by decide +kernel), gw_of 921 (by decide +kernel) (by decide +kernel), q_in_RX0, by decide +kernel, by decide +kernel, by decide +kernel⟩
set_option maxRecDepth 100000 in
theorem lk_X0_meets : LkV yX0_meets cX0_meets 5 (some .int) 2 := ⟨gw_of 918 rfl (by decide +kernel), gw_of 916 (by decide +kernel) (by decide +kernel), gw_of 917 (by decide +kernel) (by decide +kernel), q_in_RX0, by decide +kernel, by decide +kernel, by decide +kernel⟩
set_option maxRecDepth 100000 in
theorem lk_X0_opens : LkV yX0_opens cX0_opens 5 (some .boolean) 2 := ⟨gw_of 914 rfl (by decide +kernel), gw_of 912 (by decide +kernel) (by decide +kernel), gw_of 913 (by decide +kernel) (by decide +kernel), q_in_RX0, by decide +kernel, by decide +kernel, by decide +kernel⟩
set_option maxRecDepth 100000 in
theorem lk_X0_look : LkV yX0_look cX0_look 4 none 1 := ⟨gw_of 906 rfl (by decide +kernel), gw_of 905 (by decide +kernel) (by decide +kernel), gw_of 22 (by decide +kernel) (by decide +kernel), q_in_RX0, by decide +kernel, by decide +kernel, by decide +kernel⟩
theorem q_in_RX5 : Cond.initialized RX5 ∈ GW := gw_of 113 (by decide +kernel) (by decide +kernel)
set_option maxRecDepth 100000 in
theorem lk_X5_copyFrom : LkV yX5_copyFrom cX5_copyFrom 2 none 1 := ⟨gw_of 803 rfl (by decide +kernel), gw_of 801 (by decide +kernel) (by decide +kernel), gw_of 802 (by decide +kernel) (by decide +kernel), q_in_RX5, by decide +kernel, by decide +kernel, by decide +kernel⟩
set_option maxRecDepth 100000 in
theorem lk_X0_begin : LkV yX0_begin cX0_begin 3 none 1 := ⟨gw_of 889 rfl (by decide +kernel), gw_of 887 (by decide +kernel) (by decide +kernel), gw_of 888 (by decide +kernel) (by decide +kernel), q_in_RX0, by decide +kernel, by decide +kernel, by decide +kernel⟩
set_option maxRecDepth 100000 in
theorem lk_X0_squares : LkV yX0_squares cX0_squares 1 (some .int) 0 := ⟨gw_of 1085 rfl (by decide +kernel), gw_of 1083 (by decide +kernel) (by decide +kernel), gw_of 1084 (by decide +kernel) (by decide +kernel), q_in_RX0, by decide +kernel, by decide +kernel, by decide +kernel⟩
set_option maxRecDepth 100000 in
theorem lk_X0_isFree : LkV yX0_isFree cX0_isFree 2 (some .boolean) 1 := ⟨gw_of 1038 rfl (by decide +kernel), gw_of 1036 (by decide +kernel) (by decide +kernel), gw_of 1037 (by decide +kernel) (by decide +kernel), q_in_RX0, by decide +kernel, by decide +kernel, by decide +kernel⟩
set_option maxRecDepth 100000 in
theorem lk_X0_lay : LkV yX0_lay cX0_lay 4 none 2 := ⟨gw_of 1042 rfl (by decide +kernel), gw_of 1040 (by decide +kernel) (by decide +kernel), gw_of 1041 (by decide +kernel) (by decide +kernel), q_in_RX0, by decide +kernel, by decide +kernel, by decide +kernel⟩
set_option maxRecDepth 100000 in
theorem lk_X0_isInSight : LkV yX0_isInSight cX0_isInSight 3 (some .boolean) 1 := ⟨gw_of 1094 rfl (by decide +kernel), gw_of 1092 (by decide +kernel) (by decide +kernel), gw_of 1093 (by decide +kernel) (by decide +kernel), q_in_RX0, by decide +kernel, by decide +kernel, by decide +kernel⟩
set_option maxRecDepth 100000 in
theorem lk_X0_face : LkV yX0_face cX0_face 3 none 2 := ⟨gw_of 1047 rfl (by decide +kernel), gw_of 1045 (by decide +kernel) (by decide +kernel), gw_of 1046 (by decide +kernel) (by decide +kernel), q_in_RX0, by decide +kernel, by decide +kernel, by decide +kernel⟩
set_option maxRecDepth 100000 in
theorem lk_X0_stirOrCalm : LkV yX0_stirOrCalm cX0_stirOrCalm 2 none 1 := ⟨gw_of 1052 rfl (by decide +kernel), gw_of 1050 (by decide +kernel) (by decide +kernel), gw_of 1051 (by decide +kernel) (by decide +kernel), q_in_RX0, by decide +kernel, by decide +kernel, by decide +kernel⟩
set_option maxRecDepth 100000 in
theorem lk_X0_addSpoon : LkV yX0_addSpoon cX0_addSpoon 3 (some .int) 1 := ⟨gw_of 1127 rfl (by decide +kernel), gw_of 1125 (by decide +kernel) (by decide +kernel), gw_of 1126 (by decide +kernel) (by decide +kernel), q_in_RX0, by decide +kernel, by decide +kernel, by decide +kernel⟩
set_option maxRecDepth 100000 in
theorem lk_X0_widen : LkV yX0_widen cX0_widen 5 (some .boolean) 0 := ⟨gw_of 941 rfl (by decide +kernel), gw_of 940 (by decide +kernel) (by decide +kernel), gw_of 23 (by decide +kernel) (by decide +kernel), q_in_RX0, by decide +kernel, by decide +kernel, by decide +kernel⟩
set_option maxRecDepth 100000 in
theorem lk_X0_spread : LkV yX0_spread cX0_spread 3 (some .int) 1 := ⟨gw_of 937 rfl (by decide +kernel), gw_of 935 (by decide +kernel) (by decide +kernel), gw_of 936 (by decide +kernel) (by decide +kernel), q_in_RX0, by decide +kernel, by decide +kernel, by decide +kernel⟩
set_option maxRecDepth 100000 in
theorem lk_X0_degreeOf : LkV yX0_degreeOf cX0_degreeOf 4 (some .int) 2 := ⟨gw_of 933 rfl (by decide +kernel), gw_of 931 (by decide +kernel) (by decide +kernel), gw_of 932 (by decide +kernel) (by decide +kernel), q_in_RX0, by decide +kernel, by decide +kernel, by decide +kernel⟩
theorem q_in_RJ6 : Cond.initialized RJ6 ∈ GW := gw_of 131 (by decide +kernel) (by decide +kernel)
set_option maxRecDepth 100000 in
theorem lk_J6_bitCount_0f7a4 : LkS yJ6_bitCount_0f7a4 cJ6_bitCount_0f7a4 1 (some .int) 1 := ⟨gw_of 965 rfl (by decide +kernel), gw_of 964 (by decide +kernel) (by decide +kernel), q_in_RJ6, by decide +kernel, by decide +kernel, by decide +kernel⟩
theorem q_in_RX4 : Cond.initialized RX4 ∈ GW := gw_of 114 (by decide +kernel) (by decide +kernel)
set_option maxRecDepth 100000 in
theorem lk_X4_isSoup : LkV yX4_isSoup cX4_isSoup 2 (some .boolean) 1 := ⟨gw_of 962 rfl (by decide +kernel), gw_of 960 (by decide +kernel) (by decide +kernel), gw_of 961 (by decide +kernel) (by decide +kernel), q_in_RX4, by decide +kernel, by decide +kernel, by decide +kernel⟩
set_option maxRecDepth 100000 in
theorem lk_X0_headsIn : LkV yX0_headsIn cX0_headsIn 5 (some .int) 2 := ⟨gw_of 958 rfl (by decide +kernel), gw_of 956 (by decide +kernel) (by decide +kernel), gw_of 957 (by decide +kernel) (by decide +kernel), q_in_RX0, by decide +kernel, by decide +kernel, by decide +kernel⟩
set_option maxRecDepth 100000 in
theorem lk_X0_countIn : LkV yX0_countIn cX0_countIn 3 (some .int) 2 := ⟨gw_of 954 rfl (by decide +kernel), gw_of 952 (by decide +kernel) (by decide +kernel), gw_of 953 (by decide +kernel) (by decide +kernel), q_in_RX0, by decide +kernel, by decide +kernel, by decide +kernel⟩
set_option maxRecDepth 100000 in
theorem lk_X0_sumBy : LkV yX0_sumBy cX0_sumBy 4 (some .int) 1 := ⟨gw_of 950 rfl (by decide +kernel), gw_of 948 (by decide +kernel) (by decide +kernel), gw_of 949 (by decide +kernel) (by decide +kernel), q_in_RX0, by decide +kernel, by decide +kernel, by decide +kernel⟩
theorem q_in_RJ7 : Cond.initialized RJ7 ∈ GW := gw_of 117 (by decide +kernel) (by decide +kernel)
set_option maxRecDepth 100000 in
theorem lk_J7_fill_53178 : LkS yJ7_fill_53178 cJ7_fill_53178 4 none 2 := ⟨gw_of 305 rfl (by decide +kernel), gw_of 304 (by decide +kernel) (by decide +kernel), q_in_RJ7, by decide +kernel, by decide +kernel, by decide +kernel⟩
set_option maxRecDepth 100000 in
theorem lk_X0_addTotals : LkV yX0_addTotals cX0_addTotals 3 none 1 := ⟨gw_of 985 rfl (by decide +kernel), gw_of 983 (by decide +kernel) (by decide +kernel), gw_of 984 (by decide +kernel) (by decide +kernel), q_in_RX0, by decide +kernel, by decide +kernel, by decide +kernel⟩
set_option maxRecDepth 100000 in
theorem lk_X4_divisor : LkV yX4_divisor cX4_divisor 2 (some .int) 1 := ⟨gw_of 1002 rfl (by decide +kernel), gw_of 1001 (by decide +kernel) (by decide +kernel), gw_of 26 (by decide +kernel) (by decide +kernel), q_in_RX4, by decide +kernel, by decide +kernel, by decide +kernel⟩
set_option maxRecDepth 100000 in
theorem lk_X4_nextParty : LkV yX4_nextParty cX4_nextParty 5 (some .int) 2 := ⟨gw_of 998 rfl (by decide +kernel), gw_of 997 (by decide +kernel) (by decide +kernel), gw_of 25 (by decide +kernel) (by decide +kernel), q_in_RX4, by decide +kernel, by decide +kernel, by decide +kernel⟩
set_option maxRecDepth 100000 in
theorem lk_X4_shareByRemainders : LkV yX4_shareByRemainders cX4_shareByRemainders 11 none 3 := ⟨gw_of 994 rfl (by decide +kernel), gw_of 993 (by decide +kernel) (by decide +kernel), gw_of 24 (by decide +kernel) (by decide +kernel), q_in_RX4, by decide +kernel, by decide +kernel, by decide +kernel⟩
set_option maxRecDepth 100000 in
theorem lk_X4_share : LkV yX4_share cX4_share 5 none 2 := ⟨gw_of 990 rfl (by decide +kernel), gw_of 988 (by decide +kernel) (by decide +kernel), gw_of 989 (by decide +kernel) (by decide +kernel), q_in_RX4, by decide +kernel, by decide +kernel, by decide +kernel⟩
set_option maxRecDepth 100000 in
theorem lk_X0_seatsOf : LkV yX0_seatsOf cX0_seatsOf 3 (some .int) 2 := ⟨gw_of 981 rfl (by decide +kernel), gw_of 979 (by decide +kernel) (by decide +kernel), gw_of 980 (by decide +kernel) (by decide +kernel), q_in_RX0, by decide +kernel, by decide +kernel, by decide +kernel⟩
set_option maxRecDepth 100000 in
theorem lk_X0_knownIn : LkV yX0_knownIn cX0_knownIn 4 (some .int) 1 := ⟨gw_of 1320 rfl (by decide +kernel), gw_of 1318 (by decide +kernel) (by decide +kernel), gw_of 1319 (by decide +kernel) (by decide +kernel), q_in_RX0, by decide +kernel, by decide +kernel, by decide +kernel⟩
set_option maxRecDepth 100000 in
theorem lk_X0_clanOf : LkV yX0_clanOf cX0_clanOf 5 (some .int) 1 := ⟨gw_of 1265 rfl (by decide +kernel), gw_of 1263 (by decide +kernel) (by decide +kernel), gw_of 1264 (by decide +kernel) (by decide +kernel), q_in_RX0, by decide +kernel, by decide +kernel, by decide +kernel⟩
set_option maxRecDepth 100000 in
theorem lk_X0_glances : LkV yX0_glances cX0_glances 4 (some .int) 0 := ⟨gw_of 1304 rfl (by decide +kernel), gw_of 1302 (by decide +kernel) (by decide +kernel), gw_of 1303 (by decide +kernel) (by decide +kernel), q_in_RX0, by decide +kernel, by decide +kernel, by decide +kernel⟩
theorem q_in_RX1 : Cond.initialized RX1 ∈ GW := gw_of 121 (by decide +kernel) (by decide +kernel)
set_option maxRecDepth 100000 in
theorem lk_X1_begin : LkV yX1_begin cX1_begin 1 none 0 := ⟨gw_of 1079 rfl (by decide +kernel), gw_of 1078 (by decide +kernel) (by decide +kernel), gw_of 31 (by decide +kernel) (by decide +kernel), q_in_RX1, by decide +kernel, by decide +kernel, by decide +kernel⟩
set_option maxRecDepth 100000 in
theorem lk_X1_offer : LkV yX1_offer cX1_offer 5 none 3 := ⟨gw_of 1098 rfl (by decide +kernel), gw_of 1097 (by decide +kernel) (by decide +kernel), gw_of 33 (by decide +kernel) (by decide +kernel), q_in_RX1, by decide +kernel, by decide +kernel, by decide +kernel⟩
set_option maxRecDepth 100000 in
theorem lk_X1_sumWith : LkV yX1_sumWith cX1_sumWith 6 (some .int) 4 := ⟨gw_of 1090 rfl (by decide +kernel), gw_of 1089 (by decide +kernel) (by decide +kernel), gw_of 32 (by decide +kernel) (by decide +kernel), q_in_RX1, by decide +kernel, by decide +kernel, by decide +kernel⟩
set_option maxRecDepth 100000 in
theorem lk_X1_placeOne : LkV yX1_placeOne cX1_placeOne 7 none 4 := ⟨gw_of 1074 rfl (by decide +kernel), gw_of 1072 (by decide +kernel) (by decide +kernel), gw_of 1073 (by decide +kernel) (by decide +kernel), q_in_RX1, by decide +kernel, by decide +kernel, by decide +kernel⟩
set_option maxRecDepth 100000 in
theorem lk_X1_placeTwo : LkV yX1_placeTwo cX1_placeTwo 8 none 4 := ⟨gw_of 1106 rfl (by decide +kernel), gw_of 1104 (by decide +kernel) (by decide +kernel), gw_of 1105 (by decide +kernel) (by decide +kernel), q_in_RX1, by decide +kernel, by decide +kernel, by decide +kernel⟩
set_option maxRecDepth 100000 in
theorem lk_X1_turnOne : LkV yX1_turnOne cX1_turnOne 5 none 3 := ⟨gw_of 1114 rfl (by decide +kernel), gw_of 1112 (by decide +kernel) (by decide +kernel), gw_of 1113 (by decide +kernel) (by decide +kernel), q_in_RX1, by decide +kernel, by decide +kernel, by decide +kernel⟩
set_option maxRecDepth 100000 in
theorem lk_X1_addSpoon : LkV yX1_addSpoon cX1_addSpoon 7 none 3 := ⟨gw_of 1123 rfl (by decide +kernel), gw_of 1121 (by decide +kernel) (by decide +kernel), gw_of 1122 (by decide +kernel) (by decide +kernel), q_in_RX1, by decide +kernel, by decide +kernel, by decide +kernel⟩
set_option maxRecDepth 100000 in
theorem lk_X1_addWall : LkV yX1_addWall cX1_addWall 4 none 2 := ⟨gw_of 1312 rfl (by decide +kernel), gw_of 1310 (by decide +kernel) (by decide +kernel), gw_of 1311 (by decide +kernel) (by decide +kernel), q_in_RX1, by decide +kernel, by decide +kernel, by decide +kernel⟩
set_option maxRecDepth 100000 in
theorem lk_X1_findKnown : LkV yX1_findKnown cX1_findKnown 3 none 1 := ⟨gw_of 1324 rfl (by decide +kernel), gw_of 1322 (by decide +kernel) (by decide +kernel), gw_of 1323 (by decide +kernel) (by decide +kernel), q_in_RX1, by decide +kernel, by decide +kernel, by decide +kernel⟩
set_option maxRecDepth 100000 in
theorem lk_X1_findPuddle : LkV yX1_findPuddle cX1_findPuddle 4 none 2 := ⟨gw_of 1273 rfl (by decide +kernel), gw_of 1271 (by decide +kernel) (by decide +kernel), gw_of 1272 (by decide +kernel) (by decide +kernel), q_in_RX1, by decide +kernel, by decide +kernel, by decide +kernel⟩
set_option maxRecDepth 100000 in
theorem lk_X1_turnCouple : LkV yX1_turnCouple cX1_turnCouple 5 none 4 := ⟨gw_of 1148 rfl (by decide +kernel), gw_of 1147 (by decide +kernel) (by decide +kernel), gw_of 34 (by decide +kernel) (by decide +kernel), q_in_RX1, by decide +kernel, by decide +kernel, by decide +kernel⟩
set_option maxRecDepth 100000 in
theorem lk_X5_leastShineOf : LkV yX5_leastShineOf cX5_leastShineOf 3 (some .int) 1 := ⟨gw_of 1139 rfl (by decide +kernel), gw_of 1137 (by decide +kernel) (by decide +kernel), gw_of 1138 (by decide +kernel) (by decide +kernel), q_in_RX5, by decide +kernel, by decide +kernel, by decide +kernel⟩
set_option maxRecDepth 100000 in
theorem lk_X1_playGame : LkV yX1_playGame cX1_playGame 6 none 2 := ⟨gw_of 1157 rfl (by decide +kernel), gw_of 1155 (by decide +kernel) (by decide +kernel), gw_of 1156 (by decide +kernel) (by decide +kernel), q_in_RX1, by decide +kernel, by decide +kernel, by decide +kernel⟩
set_option maxRecDepth 100000 in
theorem lk_X1_prizeOf : LkV yX1_prizeOf cX1_prizeOf 7 (some .int) 4 := ⟨gw_of 1143 rfl (by decide +kernel), gw_of 1141 (by decide +kernel) (by decide +kernel), gw_of 1142 (by decide +kernel) (by decide +kernel), q_in_RX1, by decide +kernel, by decide +kernel, by decide +kernel⟩
set_option maxRecDepth 100000 in
theorem lk_X1_isRest : LkV yX1_isRest cX1_isRest 5 (some .boolean) 1 := ⟨gw_of 1165 rfl (by decide +kernel), gw_of 1164 (by decide +kernel) (by decide +kernel), gw_of 35 (by decide +kernel) (by decide +kernel), q_in_RX1, by decide +kernel, by decide +kernel, by decide +kernel⟩
set_option maxRecDepth 100000 in
theorem lk_X1_findRest : LkV yX1_findRest cX1_findRest 4 (some .int) 1 := ⟨gw_of 1161 rfl (by decide +kernel), gw_of 1159 (by decide +kernel) (by decide +kernel), gw_of 1160 (by decide +kernel) (by decide +kernel), q_in_RX1, by decide +kernel, by decide +kernel, by decide +kernel⟩
theorem q_in_RX2 : Cond.initialized RX2 ∈ GW := gw_of 115 (by decide +kernel) (by decide +kernel)
set_option maxRecDepth 100000 in
theorem lk_X2_copyFrom : LkV yX2_copyFrom cX2_copyFrom 2 none 1 := ⟨gw_of 814 rfl (by decide +kernel), gw_of 812 (by decide +kernel) (by decide +kernel), gw_of 813 (by decide +kernel) (by decide +kernel), q_in_RX2, by decide +kernel, by decide +kernel, by decide +kernel⟩
set_option maxRecDepth 100000 in
theorem lk_X2_add : LkV yX2_add cX2_add 3 none 2 := ⟨gw_of 779 rfl (by decide +kernel), gw_of 777 (by decide +kernel) (by decide +kernel), gw_of 778 (by decide +kernel) (by decide +kernel), q_in_RX2, by decide +kernel, by decide +kernel, by decide +kernel⟩
theorem q_in_RX3 : Cond.initialized RX3 ∈ GW := gw_of 123 (by decide +kernel) (by decide +kernel)
set_option maxRecDepth 100000 in
theorem lk_X3_change : LkV yX3_change cX3_change 5 none 3 := ⟨gw_of 1226 rfl (by decide +kernel), gw_of 1225 (by decide +kernel) (by decide +kernel), gw_of 38 (by decide +kernel) (by decide +kernel), q_in_RX3, by decide +kernel, by decide +kernel, by decide +kernel⟩
set_option maxRecDepth 100000 in
theorem lk_X3_differences : LkV yX3_differences cX3_differences 5 (some .int) 2 := ⟨gw_of 1232 rfl (by decide +kernel), gw_of 1231 (by decide +kernel) (by decide +kernel), gw_of 39 (by decide +kernel) (by decide +kernel), q_in_RX3, by decide +kernel, by decide +kernel, by decide +kernel⟩
set_option maxRecDepth 100000 in
theorem lk_X3_noteCounts : LkV yX3_noteCounts cX3_noteCounts 4 none 1 := ⟨gw_of 1240 rfl (by decide +kernel), gw_of 1239 (by decide +kernel) (by decide +kernel), gw_of 40 (by decide +kernel) (by decide +kernel), q_in_RX3, by decide +kernel, by decide +kernel, by decide +kernel⟩
set_option maxRecDepth 100000 in
theorem lk_X3_measure : LkV yX3_measure cX3_measure 9 none 4 := ⟨gw_of 1220 rfl (by decide +kernel), gw_of 1218 (by decide +kernel) (by decide +kernel), gw_of 1219 (by decide +kernel) (by decide +kernel), q_in_RX3, by decide +kernel, by decide +kernel, by decide +kernel⟩
set_option maxRecDepth 100000 in
theorem lk_X3_nextShine : LkV yX3_nextShine cX3_nextShine 6 (some .int) 0 := ⟨gw_of 1248 rfl (by decide +kernel), gw_of 1247 (by decide +kernel) (by decide +kernel), gw_of 41 (by decide +kernel) (by decide +kernel), q_in_RX3, by decide +kernel, by decide +kernel, by decide +kernel⟩
set_option maxRecDepth 100000 in
theorem lk_X3_tell : LkV yX3_tell cX3_tell 2 (some .int) 1 := ⟨gw_of 1244 rfl (by decide +kernel), gw_of 1242 (by decide +kernel) (by decide +kernel), gw_of 1243 (by decide +kernel) (by decide +kernel), q_in_RX3, by decide +kernel, by decide +kernel, by decide +kernel⟩
set_option maxRecDepth 100000 in
theorem lk_X4_clear : LkV yX4_clear cX4_clear 1 none 0 := ⟨gw_of 622 rfl (by decide +kernel), gw_of 620 (by decide +kernel) (by decide +kernel), gw_of 621 (by decide +kernel) (by decide +kernel), q_in_RX4, by decide +kernel, by decide +kernel, by decide +kernel⟩
set_option maxRecDepth 100000 in
theorem lk_X4_copyFrom : LkV yX4_copyFrom cX4_copyFrom 2 none 1 := ⟨gw_of 810 rfl (by decide +kernel), gw_of 808 (by decide +kernel) (by decide +kernel), gw_of 809 (by decide +kernel) (by decide +kernel), q_in_RX4, by decide +kernel, by decide +kernel, by decide +kernel⟩
set_option maxRecDepth 100000 in
theorem lk_X4_tell : LkV yX4_tell cX4_tell 2 (some .int) 1 := ⟨gw_of 872 rfl (by decide +kernel), gw_of 870 (by decide +kernel) (by decide +kernel), gw_of 871 (by decide +kernel) (by decide +kernel), q_in_RX4, by decide +kernel, by decide +kernel, by decide +kernel⟩
set_option maxRecDepth 100000 in
theorem lk_X5_clear : LkV yX5_clear cX5_clear 1 none 0 := ⟨gw_of 617 rfl (by decide +kernel), gw_of 615 (by decide +kernel) (by decide +kernel), gw_of 616 (by decide +kernel) (by decide +kernel), q_in_RX5, by decide +kernel, by decide +kernel, by decide +kernel⟩
set_option maxRecDepth 100000 in
theorem lk_X5_addWall : LkV yX5_addWall cX5_addWall 2 none 1 := ⟨gw_of 763 rfl (by decide +kernel), gw_of 761 (by decide +kernel) (by decide +kernel), gw_of 762 (by decide +kernel) (by decide +kernel), q_in_RX5, by decide +kernel, by decide +kernel, by decide +kernel⟩
set_option maxRecDepth 100000 in
theorem lk_X5_addPerson : LkV yX5_addPerson cX5_addPerson 2 none 1 := ⟨gw_of 767 rfl (by decide +kernel), gw_of 765 (by decide +kernel) (by decide +kernel), gw_of 766 (by decide +kernel) (by decide +kernel), q_in_RX5, by decide +kernel, by decide +kernel, by decide +kernel⟩
set_option maxRecDepth 100000 in
theorem lk_X5_addShine : LkV yX5_addShine cX5_addShine 3 none 2 := ⟨gw_of 771 rfl (by decide +kernel), gw_of 769 (by decide +kernel) (by decide +kernel), gw_of 770 (by decide +kernel) (by decide +kernel), q_in_RX5, by decide +kernel, by decide +kernel, by decide +kernel⟩
set_option maxRecDepth 100000 in
theorem lk_X5_isOutside : LkV yX5_isOutside cX5_isOutside 2 (some .boolean) 1 := ⟨gw_of 791 rfl (by decide +kernel), gw_of 790 (by decide +kernel) (by decide +kernel), gw_of 15 (by decide +kernel) (by decide +kernel), q_in_RX5, by decide +kernel, by decide +kernel, by decide +kernel⟩
set_option maxRecDepth 100000 in
theorem lk_X5_isAnyOutside : LkV yX5_isAnyOutside cX5_isAnyOutside 2 (some .boolean) 0 := ⟨gw_of 787 rfl (by decide +kernel), gw_of 786 (by decide +kernel) (by decide +kernel), gw_of 14 (by decide +kernel) (by decide +kernel), q_in_RX5, by decide +kernel, by decide +kernel, by decide +kernel⟩
set_option maxRecDepth 100000 in
theorem lk_X5_squareOf : LkV yX5_squareOf cX5_squareOf 2 (some .int) 1 := ⟨gw_of 795 rfl (by decide +kernel), gw_of 794 (by decide +kernel) (by decide +kernel), gw_of 16 (by decide +kernel) (by decide +kernel), q_in_RX5, by decide +kernel, by decide +kernel, by decide +kernel⟩
set_option maxRecDepth 100000 in
theorem lk_X5_settle : LkV yX5_settle cX5_settle 2 (some .int) 0 := ⟨gw_of 783 rfl (by decide +kernel), gw_of 781 (by decide +kernel) (by decide +kernel), gw_of 782 (by decide +kernel) (by decide +kernel), q_in_RX5, by decide +kernel, by decide +kernel, by decide +kernel⟩
set_option maxRecDepth 100000 in
theorem lk_X5_hasSquare : LkV yX5_hasSquare cX5_hasSquare 2 (some .boolean) 1 := ⟨gw_of 860 rfl (by decide +kernel), gw_of 858 (by decide +kernel) (by decide +kernel), gw_of 859 (by decide +kernel) (by decide +kernel), q_in_RX5, by decide +kernel, by decide +kernel, by decide +kernel⟩
set_option maxRecDepth 100000 in
theorem lk_X5_hasPerson : LkV yX5_hasPerson cX5_hasPerson 2 (some .boolean) 1 := ⟨gw_of 844 rfl (by decide +kernel), gw_of 842 (by decide +kernel) (by decide +kernel), gw_of 843 (by decide +kernel) (by decide +kernel), q_in_RX5, by decide +kernel, by decide +kernel, by decide +kernel⟩
set_option maxRecDepth 100000 in
theorem lk_X5_hasShine : LkV yX5_hasShine cX5_hasShine 2 (some .boolean) 1 := ⟨gw_of 848 rfl (by decide +kernel), gw_of 846 (by decide +kernel) (by decide +kernel), gw_of 847 (by decide +kernel) (by decide +kernel), q_in_RX5, by decide +kernel, by decide +kernel, by decide +kernel⟩
set_option maxRecDepth 100000 in
theorem lk_X5_tellShine : LkV yX5_tellShine cX5_tellShine 3 (some .int) 2 := ⟨gw_of 852 rfl (by decide +kernel), gw_of 851 (by decide +kernel) (by decide +kernel), gw_of 19 (by decide +kernel) (by decide +kernel), q_in_RX5, by decide +kernel, by decide +kernel, by decide +kernel⟩
set_option maxRecDepth 100000 in
theorem lk_X5_tell : LkV yX5_tell cX5_tell 4 (some .int) 1 := ⟨gw_of 840 rfl (by decide +kernel), gw_of 838 (by decide +kernel) (by decide +kernel), gw_of 839 (by decide +kernel) (by decide +kernel), q_in_RX5, by decide +kernel, by decide +kernel, by decide +kernel⟩
theorem q_in_RX6 : Cond.initialized RX6 ∈ GW := gw_of 120 (by decide +kernel) (by decide +kernel)
set_option maxRecDepth 100000 in
theorem lk_X6_begin : LkV yX6_begin cX6_begin 2 none 1 := ⟨gw_of 1011 rfl (by decide +kernel), gw_of 1009 (by decide +kernel) (by decide +kernel), gw_of 1010 (by decide +kernel) (by decide +kernel), q_in_RX6, by decide +kernel, by decide +kernel, by decide +kernel⟩
set_option maxRecDepth 100000 in
theorem lk_X6_countAll : LkV yX6_countAll cX6_countAll 4 none 1 := ⟨gw_of 1025 rfl (by decide +kernel), gw_of 1024 (by decide +kernel) (by decide +kernel), gw_of 28 (by decide +kernel) (by decide +kernel), q_in_RX6, by decide +kernel, by decide +kernel, by decide +kernel⟩
set_option maxRecDepth 100000 in
theorem lk_X6_go : LkV yX6_go cX6_go 5 (some .boolean) 2 := ⟨gw_of 1032 rfl (by decide +kernel), gw_of 1031 (by decide +kernel) (by decide +kernel), gw_of 29 (by decide +kernel) (by decide +kernel), q_in_RX6, by decide +kernel, by decide +kernel, by decide +kernel⟩
set_option maxRecDepth 100000 in
theorem lk_X6_does : LkV yX6_does cX6_does 5 (some .boolean) 4 := ⟨gw_of 1021 rfl (by decide +kernel), gw_of 1020 (by decide +kernel) (by decide +kernel), gw_of 27 (by decide +kernel) (by decide +kernel), q_in_RX6, by decide +kernel, by decide +kernel, by decide +kernel⟩
set_option maxRecDepth 100000 in
theorem lk_X6_perform : LkV yX6_perform cX6_perform 5 (some .int) 3 := ⟨gw_of 1017 rfl (by decide +kernel), gw_of 1015 (by decide +kernel) (by decide +kernel), gw_of 1016 (by decide +kernel) (by decide +kernel), q_in_RX6, by decide +kernel, by decide +kernel, by decide +kernel⟩
set_option maxRecDepth 100000 in
theorem lk_X6_draw : LkV yX6_draw cX6_draw 2 (some .int) 1 := ⟨gw_of 1287 rfl (by decide +kernel), gw_of 1286 (by decide +kernel) (by decide +kernel), gw_of 42 (by decide +kernel) (by decide +kernel), q_in_RX6, by decide +kernel, by decide +kernel, by decide +kernel⟩
set_option maxRecDepth 100000 in
theorem lk_X6_goDrawn : LkV yX6_goDrawn cX6_goDrawn 3 none 0 := ⟨gw_of 1296 rfl (by decide +kernel), gw_of 1295 (by decide +kernel) (by decide +kernel), gw_of 44 (by decide +kernel) (by decide +kernel), q_in_RX6, by decide +kernel, by decide +kernel, by decide +kernel⟩
set_option maxRecDepth 100000 in
theorem lk_X6_turnDrawn : LkV yX6_turnDrawn cX6_turnDrawn 3 none 0 := ⟨gw_of 1292 rfl (by decide +kernel), gw_of 1291 (by decide +kernel) (by decide +kernel), gw_of 43 (by decide +kernel) (by decide +kernel), q_in_RX6, by decide +kernel, by decide +kernel, by decide +kernel⟩
set_option maxRecDepth 100000 in
theorem lk_X6_performDrawn : LkV yX6_performDrawn cX6_performDrawn 6 none 3 := ⟨gw_of 1283 rfl (by decide +kernel), gw_of 1281 (by decide +kernel) (by decide +kernel), gw_of 1282 (by decide +kernel) (by decide +kernel), q_in_RX6, by decide +kernel, by decide +kernel, by decide +kernel⟩
set_option maxRecDepth 100000 in
theorem lk_X6_tellShine : LkV yX6_tellShine cX6_tellShine 4 (some .int) 3 := ⟨gw_of 1066 rfl (by decide +kernel), gw_of 1065 (by decide +kernel) (by decide +kernel), gw_of 30 (by decide +kernel) (by decide +kernel), q_in_RX6, by decide +kernel, by decide +kernel, by decide +kernel⟩
set_option maxRecDepth 100000 in
theorem lk_X6_tell : LkV yX6_tell cX6_tell 5 (some .int) 2 := ⟨gw_of 1061 rfl (by decide +kernel), gw_of 1059 (by decide +kernel) (by decide +kernel), gw_of 1060 (by decide +kernel) (by decide +kernel), q_in_RX6, by decide +kernel, by decide +kernel, by decide +kernel⟩
theorem q_in_RX7 : Cond.initialized RX7 ∈ GW := gw_of 118 (by decide +kernel) (by decide +kernel)
set_option maxRecDepth 100000 in
theorem lk_X7_mark : LkV yX7_mark cX7_mark 3 none 2 := ⟨gw_of 736 rfl (by decide +kernel), gw_of 735 (by decide +kernel) (by decide +kernel), gw_of 8 (by decide +kernel) (by decide +kernel), q_in_RX7, by decide +kernel, by decide +kernel, by decide +kernel⟩
set_option maxRecDepth 100000 in
theorem lk_X7_isDigit : LkV yX7_isDigit cX7_isDigit 2 (some .boolean) 1 := ⟨gw_of 638 rfl (by decide +kernel), gw_of 637 (by decide +kernel) (by decide +kernel), gw_of 2 (by decide +kernel) (by decide +kernel), q_in_RX7, by decide +kernel, by decide +kernel, by decide +kernel⟩
set_option maxRecDepth 100000 in
theorem lk_X7_isLetter : LkV yX7_isLetter cX7_isLetter 2 (some .boolean) 1 := ⟨gw_of 634 rfl (by decide +kernel), gw_of 633 (by decide +kernel) (by decide +kernel), gw_of 1 (by decide +kernel) (by decide +kernel), q_in_RX7, by decide +kernel, by decide +kernel, by decide +kernel⟩
set_option maxRecDepth 100000 in
theorem lk_X7_nextToken : LkV yX7_nextToken cX7_nextToken 2 none 0 := ⟨gw_of 630 rfl (by decide +kernel), gw_of 629 (by decide +kernel) (by decide +kernel), gw_of 0 (by decide +kernel) (by decide +kernel), q_in_RX7, by decide +kernel, by decide +kernel, by decide +kernel⟩
set_option maxRecDepth 100000 in
theorem lk_X7_isFull : LkV yX7_isFull cX7_isFull 2 (some .boolean) 1 := ⟨gw_of 732 rfl (by decide +kernel), gw_of 731 (by decide +kernel) (by decide +kernel), gw_of 7 (by decide +kernel) (by decide +kernel), q_in_RX7, by decide +kernel, by decide +kernel, by decide +kernel⟩
set_option maxRecDepth 100000 in
theorem lk_X7_keepOfLaw : LkV yX7_keepOfLaw cX7_keepOfLaw 2 none 1 := ⟨gw_of 775 rfl (by decide +kernel), gw_of 774 (by decide +kernel) (by decide +kernel), gw_of 13 (by decide +kernel) (by decide +kernel), q_in_RX7, by decide +kernel, by decide +kernel, by decide +kernel⟩
set_option maxRecDepth 100000 in
theorem lk_X7_keepOfParish : LkV yX7_keepOfParish cX7_keepOfParish 2 none 1 := ⟨gw_of 759 rfl (by decide +kernel), gw_of 758 (by decide +kernel) (by decide +kernel), gw_of 12 (by decide +kernel) (by decide +kernel), q_in_RX7, by decide +kernel, by decide +kernel, by decide +kernel⟩
set_option maxRecDepth 100000 in
theorem lk_X7_keep : LkV yX7_keep cX7_keep 2 none 1 := ⟨gw_of 755 rfl (by decide +kernel), gw_of 754 (by decide +kernel) (by decide +kernel), gw_of 11 (by decide +kernel) (by decide +kernel), q_in_RX7, by decide +kernel, by decide +kernel, by decide +kernel⟩
theorem q_in_RJ0 : Cond.initialized RJ0 ∈ GW := gw_of 126 (by decide +kernel) (by decide +kernel)
set_option maxRecDepth 100000 in
theorem lk_J0_isLatin1_aae02 : LkV yJ0_isLatin1_aae02 cJ0_isLatin1_aae02 1 (some .boolean) 0 := ⟨gw_of 694 rfl (by decide +kernel), gw_of 692 (by decide +kernel) (by decide +kernel), gw_of 693 (by decide +kernel) (by decide +kernel), q_in_RJ0, by decide +kernel, by decide +kernel, by decide +kernel⟩
theorem q_in_RJ3 : Cond.initialized RJ3 ∈ GW := gw_of 128 (by decide +kernel) (by decide +kernel)
set_option maxRecDepth 100000 in
theorem lk_J3_checkIndex_8e157 : LkS yJ3_checkIndex_8e157 cJ3_checkIndex_8e157 3 (some .int) 3 := ⟨gw_of 705 rfl (by decide +kernel), gw_of 704 (by decide +kernel) (by decide +kernel), q_in_RJ3, by decide +kernel, by decide +kernel, by decide +kernel⟩
set_option maxRecDepth 100000 in
theorem lk_J0_checkIndex_df160 : LkS yJ0_checkIndex_df160 cJ0_checkIndex_df160 2 none 2 := ⟨gw_of 700 rfl (by decide +kernel), gw_of 699 (by decide +kernel) (by decide +kernel), q_in_RJ0, by decide +kernel, by decide +kernel, by decide +kernel⟩
theorem q_in_RJ1 : Cond.initialized RJ1 ∈ GW := gw_of 127 (by decide +kernel) (by decide +kernel)
set_option maxRecDepth 100000 in
theorem lk_J1_charAt_3b067 : LkS yJ1_charAt_3b067 cJ1_charAt_3b067 2 (some .char) 2 := ⟨gw_of 697 rfl (by decide +kernel), gw_of 696 (by decide +kernel) (by decide +kernel), q_in_RJ1, by decide +kernel, by decide +kernel, by decide +kernel⟩
set_option maxRecDepth 100000 in
theorem lk_J0_charAt_5068e : LkV yJ0_charAt_5068e cJ0_charAt_5068e 2 (some .char) 1 := ⟨gw_of 690 rfl (by decide +kernel), gw_of 688 (by decide +kernel) (by decide +kernel), gw_of 689 (by decide +kernel) (by decide +kernel), q_in_RJ0, by decide +kernel, by decide +kernel, by decide +kernel⟩
set_option maxRecDepth 100000 in
theorem lk_J0_coder_7d493 : LkV yJ0_coder_7d493 cJ0_coder_7d493 1 (some .byte) 0 := ⟨gw_of 684 rfl (by decide +kernel), gw_of 682 (by decide +kernel) (by decide +kernel), gw_of 683 (by decide +kernel) (by decide +kernel), q_in_RJ0, by decide +kernel, by decide +kernel, by decide +kernel⟩
set_option maxRecDepth 100000 in
theorem lk_J0_length_8abf5 : LkV yJ0_length_8abf5 cJ0_length_8abf5 1 (some .int) 0 := ⟨gw_of 680 rfl (by decide +kernel), gw_of 678 (by decide +kernel) (by decide +kernel), gw_of 679 (by decide +kernel) (by decide +kernel), q_in_RJ0, by decide +kernel, by decide +kernel, by decide +kernel⟩
set_option maxRecDepth 100000 in
theorem lk_X7_isToken : LkV yX7_isToken cX7_isToken 3 (some .boolean) 1 := ⟨gw_of 676 rfl (by decide +kernel), gw_of 675 (by decide +kernel) (by decide +kernel), gw_of 5 (by decide +kernel) (by decide +kernel), q_in_RX7, by decide +kernel, by decide +kernel, by decide +kernel⟩
set_option maxRecDepth 100000 in
theorem lk_X7_wordOf : LkS yX7_wordOf cX7_wordOf 1 (some (.object "java/lang/String")) 1 := ⟨gw_of 651 rfl (by decide +kernel), gw_of 650 (by decide +kernel) (by decide +kernel), q_in_RX7, by decide +kernel, by decide +kernel, by decide +kernel⟩
set_option maxRecDepth 100000 in
theorem lk_X7_lineOf : LkV yX7_lineOf cX7_lineOf 3 (some .int) 1 := ⟨gw_of 646 rfl (by decide +kernel), gw_of 645 (by decide +kernel) (by decide +kernel), gw_of 4 (by decide +kernel) (by decide +kernel), q_in_RX7, by decide +kernel, by decide +kernel, by decide +kernel⟩
set_option maxRecDepth 100000 in
theorem lk_X7_least : LkS yX7_least cX7_least 2 (some .int) 2 := ⟨gw_of 749 rfl (by decide +kernel), gw_of 748 (by decide +kernel) (by decide +kernel), q_in_RX7, by decide +kernel, by decide +kernel, by decide +kernel⟩
set_option maxRecDepth 100000 in
theorem lk_X7_numberOfToken : LkV yX7_numberOfToken cX7_numberOfToken 3 (some .int) 0 := ⟨gw_of 746 rfl (by decide +kernel), gw_of 745 (by decide +kernel) (by decide +kernel), gw_of 10 (by decide +kernel) (by decide +kernel), q_in_RX7, by decide +kernel, by decide +kernel, by decide +kernel⟩
set_option maxRecDepth 100000 in
theorem lk_X7_readNumbers : LkV yX7_readNumbers cX7_readNumbers 3 (some .boolean) 1 := ⟨gw_of 740 rfl (by decide +kernel), gw_of 739 (by decide +kernel) (by decide +kernel), gw_of 9 (by decide +kernel) (by decide +kernel), q_in_RX7, by decide +kernel, by decide +kernel, by decide +kernel⟩
set_option maxRecDepth 100000 in
theorem lk_X7_refuse : LkV yX7_refuse cX7_refuse 1 none 0 := ⟨gw_of 728 rfl (by decide +kernel), gw_of 727 (by decide +kernel) (by decide +kernel), gw_of 6 (by decide +kernel) (by decide +kernel), q_in_RX7, by decide +kernel, by decide +kernel, by decide +kernel⟩
set_option maxRecDepth 100000 in
theorem lk_X7_readLine : LkV yX7_readLine cX7_readLine 3 none 1 := ⟨gw_of 642 rfl (by decide +kernel), gw_of 641 (by decide +kernel) (by decide +kernel), gw_of 3 (by decide +kernel) (by decide +kernel), q_in_RX7, by decide +kernel, by decide +kernel, by decide +kernel⟩
theorem q_in_RX8 : Cond.initialized RX8 ∈ GW := gw_of 116 (by decide +kernel) (by decide +kernel)
set_option maxRecDepth 100000 in
theorem lk_X8_clear : LkV yX8_clear cX8_clear 1 none 0 := ⟨gw_of 626 rfl (by decide +kernel), gw_of 624 (by decide +kernel) (by decide +kernel), gw_of 625 (by decide +kernel) (by decide +kernel), q_in_RX8, by decide +kernel, by decide +kernel, by decide +kernel⟩
set_option maxRecDepth 100000 in
theorem lk_X7_read : LkV yX7_read cX7_read 5 none 3 := ⟨gw_of 610 rfl (by decide +kernel), gw_of 608 (by decide +kernel) (by decide +kernel), gw_of 609 (by decide +kernel) (by decide +kernel), q_in_RX7, by decide +kernel, by decide +kernel, by decide +kernel⟩
set_option maxRecDepth 100000 in
theorem lk_X8_copyFrom : LkV yX8_copyFrom cX8_copyFrom 2 none 1 := ⟨gw_of 819 rfl (by decide +kernel), gw_of 817 (by decide +kernel) (by decide +kernel), gw_of 818 (by decide +kernel) (by decide +kernel), q_in_RX8, by decide +kernel, by decide +kernel, by decide +kernel⟩
theorem q_in_RX9 : Cond.initialized RX9 ∈ GW := gw_of 112 (by decide +kernel) (by decide +kernel)
set_option maxRecDepth 100000 in
theorem lk_X9_copyFrom : LkV yX9_copyFrom cX9_copyFrom 3 none 1 := ⟨gw_of 1337 rfl (by decide +kernel), gw_of 1335 (by decide +kernel) (by decide +kernel), gw_of 1336 (by decide +kernel) (by decide +kernel), q_in_RX9, by decide +kernel, by decide +kernel, by decide +kernel⟩
set_option maxRecDepth 100000 in
theorem lk_X9_addBytes : LkV yX9_addBytes cX9_addBytes 3 none 1 := ⟨gw_of 598 rfl (by decide +kernel), gw_of 596 (by decide +kernel) (by decide +kernel), gw_of 597 (by decide +kernel) (by decide +kernel), q_in_RX9, by decide +kernel, by decide +kernel, by decide +kernel⟩
set_option maxRecDepth 100000 in
theorem lk_X9_has : LkV yX9_has cX9_has 3 (some .boolean) 2 := ⟨gw_of 836 rfl (by decide +kernel), gw_of 835 (by decide +kernel) (by decide +kernel), gw_of 18 (by decide +kernel) (by decide +kernel), q_in_RX9, by decide +kernel, by decide +kernel, by decide +kernel⟩
set_option maxRecDepth 100000 in
theorem lk_X9_parishAt : LkV yX9_parishAt cX9_parishAt 2 (some (.object "ReflectCensus$Parish")) 1 := ⟨gw_of 832 rfl (by decide +kernel), gw_of 830 (by decide +kernel) (by decide +kernel), gw_of 831 (by decide +kernel) (by decide +kernel), q_in_RX9, by decide +kernel, by decide +kernel, by decide +kernel⟩
set_option maxRecDepth 100000 in
theorem lk_X9_lawAt : LkV yX9_lawAt cX9_lawAt 2 (some (.object "ReflectCensus$Law")) 1 := ⟨gw_of 868 rfl (by decide +kernel), gw_of 866 (by decide +kernel) (by decide +kernel), gw_of 867 (by decide +kernel) (by decide +kernel), q_in_RX9, by decide +kernel, by decide +kernel, by decide +kernel⟩
set_option maxRecDepth 100000 in
theorem lk_X9_eveningAt : LkV yX9_eveningAt cX9_eveningAt 2 (some (.object "ReflectCensus$Evening")) 1 := ⟨gw_of 880 rfl (by decide +kernel), gw_of 878 (by decide +kernel) (by decide +kernel), gw_of 879 (by decide +kernel) (by decide +kernel), q_in_RX9, by decide +kernel, by decide +kernel, by decide +kernel⟩
set_option maxRecDepth 100000 in
theorem lk_X9_sightAt : LkV yX9_sightAt cX9_sightAt 2 (some (.object "ReflectCensus$Sight")) 1 := ⟨gw_of 1212 rfl (by decide +kernel), gw_of 1210 (by decide +kernel) (by decide +kernel), gw_of 1211 (by decide +kernel) (by decide +kernel), q_in_RX9, by decide +kernel, by decide +kernel, by decide +kernel⟩
theorem q_in_RX10 : Cond.initialized RX10 ∈ GW := gw_of 122 (by decide +kernel) (by decide +kernel)
set_option maxRecDepth 100000 in
theorem lk_X10_flood : LkV yX10_flood cX10_flood 7 none 1 := ⟨gw_of 1173 rfl (by decide +kernel), gw_of 1171 (by decide +kernel) (by decide +kernel), gw_of 1172 (by decide +kernel) (by decide +kernel), q_in_RX10, by decide +kernel, by decide +kernel, by decide +kernel⟩
set_option maxRecDepth 100000 in
theorem lk_X10_goOn : LkV yX10_goOn cX10_goOn 6 none 2 := ⟨gw_of 1188 rfl (by decide +kernel), gw_of 1187 (by decide +kernel) (by decide +kernel), gw_of 36 (by decide +kernel) (by decide +kernel), q_in_RX10, by decide +kernel, by decide +kernel, by decide +kernel⟩
set_option maxRecDepth 100000 in
theorem lk_X10_tour : LkV yX10_tour cX10_tour 5 none 1 := ⟨gw_of 1183 rfl (by decide +kernel), gw_of 1181 (by decide +kernel) (by decide +kernel), gw_of 1182 (by decide +kernel) (by decide +kernel), q_in_RX10, by decide +kernel, by decide +kernel, by decide +kernel⟩
set_option maxRecDepth 100000 in
theorem lk_X10_fewestTo : LkV yX10_fewestTo cX10_fewestTo 5 (some .int) 1 := ⟨gw_of 1196 rfl (by decide +kernel), gw_of 1195 (by decide +kernel) (by decide +kernel), gw_of 37 (by decide +kernel) (by decide +kernel), q_in_RX10, by decide +kernel, by decide +kernel, by decide +kernel⟩
set_option maxRecDepth 100000 in
theorem lk_X10_fewestToAll : LkV yX10_fewestToAll cX10_fewestToAll 1 (some .int) 0 := ⟨gw_of 1192 rfl (by decide +kernel), gw_of 1190 (by decide +kernel) (by decide +kernel), gw_of 1191 (by decide +kernel) (by decide +kernel), q_in_RX10, by decide +kernel, by decide +kernel, by decide +kernel⟩
set_option maxRecDepth 100000 in
theorem lk_X10_mostWithin : LkV yX10_mostWithin cX10_mostWithin 5 (some .int) 1 := ⟨gw_of 1200 rfl (by decide +kernel), gw_of 1198 (by decide +kernel) (by decide +kernel), gw_of 1199 (by decide +kernel) (by decide +kernel), q_in_RX10, by decide +kernel, by decide +kernel, by decide +kernel⟩
theorem q_in_RX11 : Cond.initialized RX11 ∈ GW := gw_of 111 (by decide +kernel) (by decide +kernel)
set_option maxRecDepth 100000 in
theorem lk_X11_feed : LkV yX11_feed cX11_feed 6 (some .int) 5 := ⟨gw_of 594 rfl (by decide +kernel), gw_of 592 (by decide +kernel) (by decide +kernel), gw_of 593 (by decide +kernel) (by decide +kernel), q_in_RX11, by decide +kernel, by decide +kernel, by decide +kernel⟩
set_option maxRecDepth 100000 in
theorem lk_X11_end : LkV yX11_end cX11_end 2 (some .int) 1 := ⟨gw_of 602 rfl (by decide +kernel), gw_of 600 (by decide +kernel) (by decide +kernel), gw_of 601 (by decide +kernel) (by decide +kernel), q_in_RX11, by decide +kernel, by decide +kernel, by decide +kernel⟩
set_option maxRecDepth 100000 in
theorem lk_X11_keepDraft : LkV yX11_keepDraft cX11_keepDraft 3 none 2 := ⟨gw_of 799 rfl (by decide +kernel), gw_of 798 (by decide +kernel) (by decide +kernel), gw_of 17 (by decide +kernel) (by decide +kernel), q_in_RX11, by decide +kernel, by decide +kernel, by decide +kernel⟩
set_option maxRecDepth 100000 in
theorem lk_X11_text : LkV yX11_text cX11_text 7 (some .int) 2 := ⟨gw_of 606 rfl (by decide +kernel), gw_of 604 (by decide +kernel) (by decide +kernel), gw_of 605 (by decide +kernel) (by decide +kernel), q_in_RX11, by decide +kernel, by decide +kernel, by decide +kernel⟩
set_option maxRecDepth 100000 in
theorem lk_X11_fault : LkV yX11_fault cX11_fault 2 (some .int) 1 := ⟨gw_of 824 rfl (by decide +kernel), gw_of 822 (by decide +kernel) (by decide +kernel), gw_of 823 (by decide +kernel) (by decide +kernel), q_in_RX11, by decide +kernel, by decide +kernel, by decide +kernel⟩
set_option maxRecDepth 100000 in
theorem lk_X11_parish : LkV yX11_parish cX11_parish 4 (some .int) 2 := ⟨gw_of 828 rfl (by decide +kernel), gw_of 826 (by decide +kernel) (by decide +kernel), gw_of 827 (by decide +kernel) (by decide +kernel), q_in_RX11, by decide +kernel, by decide +kernel, by decide +kernel⟩
set_option maxRecDepth 100000 in
theorem lk_X11_square : LkV yX11_square cX11_square 4 (some .int) 2 := ⟨gw_of 856 rfl (by decide +kernel), gw_of 854 (by decide +kernel) (by decide +kernel), gw_of 855 (by decide +kernel) (by decide +kernel), q_in_RX11, by decide +kernel, by decide +kernel, by decide +kernel⟩
set_option maxRecDepth 100000 in
theorem lk_X11_law : LkV yX11_law cX11_law 4 (some .int) 2 := ⟨gw_of 864 rfl (by decide +kernel), gw_of 862 (by decide +kernel) (by decide +kernel), gw_of 863 (by decide +kernel) (by decide +kernel), q_in_RX11, by decide +kernel, by decide +kernel, by decide +kernel⟩
set_option maxRecDepth 100000 in
theorem lk_X11_deed : LkV yX11_deed cX11_deed 5 (some .int) 3 := ⟨gw_of 876 rfl (by decide +kernel), gw_of 874 (by decide +kernel) (by decide +kernel), gw_of 875 (by decide +kernel) (by decide +kernel), q_in_RX11, by decide +kernel, by decide +kernel, by decide +kernel⟩
set_option maxRecDepth 100000 in
theorem lk_X11_looks : LkV yX11_looks cX11_looks 6 (some .int) 3 := ⟨gw_of 884 rfl (by decide +kernel), gw_of 882 (by decide +kernel) (by decide +kernel), gw_of 883 (by decide +kernel) (by decide +kernel), q_in_RX11, by decide +kernel, by decide +kernel, by decide +kernel⟩
set_option maxRecDepth 100000 in
theorem lk_X11_degree : LkV yX11_degree cX11_degree 5 (some .int) 3 := ⟨gw_of 928 rfl (by decide +kernel), gw_of 926 (by decide +kernel) (by decide +kernel), gw_of 927 (by decide +kernel) (by decide +kernel), q_in_RX11, by decide +kernel, by decide +kernel, by decide +kernel⟩
set_option maxRecDepth 100000 in
theorem lk_X11_counted : LkV yX11_counted cX11_counted 7 (some .int) 3 := ⟨gw_of 946 rfl (by decide +kernel), gw_of 944 (by decide +kernel) (by decide +kernel), gw_of 945 (by decide +kernel) (by decide +kernel), q_in_RX11, by decide +kernel, by decide +kernel, by decide +kernel⟩
set_option maxRecDepth 100000 in
theorem lk_X11_isParty : LkS yX11_isParty cX11_isParty 1 (some .boolean) 1 := ⟨gw_of 977 rfl (by decide +kernel), gw_of 976 (by decide +kernel) (by decide +kernel), q_in_RX11, by decide +kernel, by decide +kernel, by decide +kernel⟩
set_option maxRecDepth 100000 in
theorem lk_X11_party : LkV yX11_party cX11_party 7 (some .int) 4 := ⟨gw_of 974 rfl (by decide +kernel), gw_of 972 (by decide +kernel) (by decide +kernel), gw_of 973 (by decide +kernel) (by decide +kernel), q_in_RX11, by decide +kernel, by decide +kernel, by decide +kernel⟩
set_option maxRecDepth 100000 in
theorem lk_X11_stop : LkV yX11_stop cX11_stop 7 (some .int) 3 := ⟨gw_of 1007 rfl (by decide +kernel), gw_of 1005 (by decide +kernel) (by decide +kernel), gw_of 1006 (by decide +kernel) (by decide +kernel), q_in_RX11, by decide +kernel, by decide +kernel, by decide +kernel⟩
set_option maxRecDepth 100000 in
theorem lk_X11_state : LkV yX11_state cX11_state 9 (some .int) 5 := ⟨gw_of 1057 rfl (by decide +kernel), gw_of 1055 (by decide +kernel) (by decide +kernel), gw_of 1056 (by decide +kernel) (by decide +kernel), q_in_RX11, by decide +kernel, by decide +kernel, by decide +kernel⟩
set_option maxRecDepth 100000 in
theorem lk_X11_stand : LkV yX11_stand cX11_stand 8 (some .int) 5 := ⟨gw_of 1070 rfl (by decide +kernel), gw_of 1068 (by decide +kernel) (by decide +kernel), gw_of 1069 (by decide +kernel) (by decide +kernel), q_in_RX11, by decide +kernel, by decide +kernel, by decide +kernel⟩
set_option maxRecDepth 100000 in
theorem lk_X11_together : LkV yX11_together cX11_together 8 (some .int) 5 := ⟨gw_of 1102 rfl (by decide +kernel), gw_of 1100 (by decide +kernel) (by decide +kernel), gw_of 1101 (by decide +kernel) (by decide +kernel), q_in_RX11, by decide +kernel, by decide +kernel, by decide +kernel⟩
set_option maxRecDepth 100000 in
theorem lk_X11_turned : LkV yX11_turned cX11_turned 7 (some .int) 4 := ⟨gw_of 1110 rfl (by decide +kernel), gw_of 1108 (by decide +kernel) (by decide +kernel), gw_of 1109 (by decide +kernel) (by decide +kernel), q_in_RX11, by decide +kernel, by decide +kernel, by decide +kernel⟩
set_option maxRecDepth 100000 in
theorem lk_X11_spoon : LkV yX11_spoon cX11_spoon 7 (some .int) 4 := ⟨gw_of 1119 rfl (by decide +kernel), gw_of 1117 (by decide +kernel) (by decide +kernel), gw_of 1118 (by decide +kernel) (by decide +kernel), q_in_RX11, by decide +kernel, by decide +kernel, by decide +kernel⟩
set_option maxRecDepth 100000 in
theorem lk_X11_isGame : LkS yX11_isGame cX11_isGame 1 (some .boolean) 1 := ⟨gw_of 1135 rfl (by decide +kernel), gw_of 1134 (by decide +kernel) (by decide +kernel), q_in_RX11, by decide +kernel, by decide +kernel, by decide +kernel⟩
set_option maxRecDepth 100000 in
theorem lk_X11_prize : LkV yX11_prize cX11_prize 7 (some .int) 4 := ⟨gw_of 1132 rfl (by decide +kernel), gw_of 1130 (by decide +kernel) (by decide +kernel), gw_of 1131 (by decide +kernel) (by decide +kernel), q_in_RX11, by decide +kernel, by decide +kernel, by decide +kernel⟩
set_option maxRecDepth 100000 in
theorem lk_X11_rest : LkV yX11_rest cX11_rest 6 (some .int) 3 := ⟨gw_of 1153 rfl (by decide +kernel), gw_of 1151 (by decide +kernel) (by decide +kernel), gw_of 1152 (by decide +kernel) (by decide +kernel), q_in_RX11, by decide +kernel, by decide +kernel, by decide +kernel⟩
set_option maxRecDepth 100000 in
theorem lk_X11_way : LkV yX11_way cX11_way 5 (some .int) 3 := ⟨gw_of 1169 rfl (by decide +kernel), gw_of 1167 (by decide +kernel) (by decide +kernel), gw_of 1168 (by decide +kernel) (by decide +kernel), q_in_RX11, by decide +kernel, by decide +kernel, by decide +kernel⟩
set_option maxRecDepth 100000 in
theorem lk_X11_round : LkV yX11_round cX11_round 5 (some .int) 3 := ⟨gw_of 1179 rfl (by decide +kernel), gw_of 1177 (by decide +kernel) (by decide +kernel), gw_of 1178 (by decide +kernel) (by decide +kernel), q_in_RX11, by decide +kernel, by decide +kernel, by decide +kernel⟩
set_option maxRecDepth 100000 in
theorem lk_X11_sight : LkV yX11_sight cX11_sight 4 (some .int) 2 := ⟨gw_of 1208 rfl (by decide +kernel), gw_of 1206 (by decide +kernel) (by decide +kernel), gw_of 1207 (by decide +kernel) (by decide +kernel), q_in_RX11, by decide +kernel, by decide +kernel, by decide +kernel⟩
set_option maxRecDepth 100000 in
theorem lk_X11_fits : LkV yX11_fits cX11_fits 8 (some .int) 4 := ⟨gw_of 1216 rfl (by decide +kernel), gw_of 1214 (by decide +kernel) (by decide +kernel), gw_of 1215 (by decide +kernel) (by decide +kernel), q_in_RX11, by decide +kernel, by decide +kernel, by decide +kernel⟩
set_option maxRecDepth 100000 in
theorem lk_X11_commonDivisor : LkS yX11_commonDivisor cX11_commonDivisor 6 (some .int) 2 := ⟨gw_of 1257 rfl (by decide +kernel), gw_of 1256 (by decide +kernel) (by decide +kernel), q_in_RX11, by decide +kernel, by decide +kernel, by decide +kernel⟩
set_option maxRecDepth 100000 in
theorem lk_X11_wind : LkV yX11_wind cX11_wind 10 (some .int) 4 := ⟨gw_of 1253 rfl (by decide +kernel), gw_of 1251 (by decide +kernel) (by decide +kernel), gw_of 1252 (by decide +kernel) (by decide +kernel), q_in_RX11, by decide +kernel, by decide +kernel, by decide +kernel⟩
set_option maxRecDepth 100000 in
theorem lk_X11_clan : LkV yX11_clan cX11_clan 4 (some .int) 2 := ⟨gw_of 1261 rfl (by decide +kernel), gw_of 1259 (by decide +kernel) (by decide +kernel), gw_of 1260 (by decide +kernel) (by decide +kernel), q_in_RX11, by decide +kernel, by decide +kernel, by decide +kernel⟩
set_option maxRecDepth 100000 in
theorem lk_X11_puddle : LkV yX11_puddle cX11_puddle 6 (some .int) 3 := ⟨gw_of 1269 rfl (by decide +kernel), gw_of 1267 (by decide +kernel) (by decide +kernel), gw_of 1268 (by decide +kernel) (by decide +kernel), q_in_RX11, by decide +kernel, by decide +kernel, by decide +kernel⟩
set_option maxRecDepth 100000 in
theorem lk_X11_drawn : LkV yX11_drawn cX11_drawn 8 (some .int) 5 := ⟨gw_of 1279 rfl (by decide +kernel), gw_of 1277 (by decide +kernel) (by decide +kernel), gw_of 1278 (by decide +kernel) (by decide +kernel), q_in_RX11, by decide +kernel, by decide +kernel, by decide +kernel⟩
set_option maxRecDepth 100000 in
theorem lk_X11_alone : LkV yX11_alone cX11_alone 8 (some .int) 2 := ⟨gw_of 1300 rfl (by decide +kernel), gw_of 1298 (by decide +kernel) (by decide +kernel), gw_of 1299 (by decide +kernel) (by decide +kernel), q_in_RX11, by decide +kernel, by decide +kernel, by decide +kernel⟩
set_option maxRecDepth 100000 in
theorem lk_X11_barred : LkV yX11_barred cX11_barred 6 (some .int) 3 := ⟨gw_of 1308 rfl (by decide +kernel), gw_of 1306 (by decide +kernel) (by decide +kernel), gw_of 1307 (by decide +kernel) (by decide +kernel), q_in_RX11, by decide +kernel, by decide +kernel, by decide +kernel⟩
set_option maxRecDepth 100000 in
theorem lk_X11_known : LkV yX11_known cX11_known 6 (some .int) 3 := ⟨gw_of 1316 rfl (by decide +kernel), gw_of 1314 (by decide +kernel) (by decide +kernel), gw_of 1315 (by decide +kernel) (by decide +kernel), q_in_RX11, by decide +kernel, by decide +kernel, by decide +kernel⟩
set_option maxRecDepth 100000 in
theorem lk_X11_count : LkV yX11_count cX11_count 2 (some .int) 1 := ⟨gw_of 1329 rfl (by decide +kernel), gw_of 1327 (by decide +kernel) (by decide +kernel), gw_of 1328 (by decide +kernel) (by decide +kernel), q_in_RX11, by decide +kernel, by decide +kernel, by decide +kernel⟩
theorem q_in_RX12 : Cond.initialized RX12 ∈ GW := gw_of 124 (by decide +kernel) (by decide +kernel)
set_option maxRecDepth 100000 in
theorem lk_X12_isIn : LkS yX12_isIn cX12_isIn 3 (some .boolean) 3 := ⟨gw_of 1501 rfl (by decide +kernel), gw_of 1500 (by decide +kernel) (by decide +kernel), q_in_RX12, by decide +kernel, by decide +kernel, by decide +kernel⟩
set_option maxRecDepth 100000 in
theorem lk_X12_feed : LkV yX12_feed cX12_feed 8 (some .int) 5 := ⟨gw_of 1490 rfl (by decide +kernel), gw_of 1488 (by decide +kernel) (by decide +kernel), gw_of 1489 (by decide +kernel) (by decide +kernel), q_in_RX12, by decide +kernel, by decide +kernel, by decide +kernel⟩
set_option maxRecDepth 100000 in
theorem lk_X12_end : LkV yX12_end cX12_end 2 (some .int) 1 := ⟨gw_of 1494 rfl (by decide +kernel), gw_of 1492 (by decide +kernel) (by decide +kernel), gw_of 1493 (by decide +kernel) (by decide +kernel), q_in_RX12, by decide +kernel, by decide +kernel, by decide +kernel⟩
set_option maxRecDepth 100000 in
theorem lk_X12_byteAt : LkV yX12_byteAt cX12_byteAt 2 (some .int) 1 := ⟨gw_of 1517 rfl (by decide +kernel), gw_of 1516 (by decide +kernel) (by decide +kernel), gw_of 48 (by decide +kernel) (by decide +kernel), q_in_RX12, by decide +kernel, by decide +kernel, by decide +kernel⟩
set_option maxRecDepth 100000 in
theorem lk_X12_isLetter : LkS yX12_isLetter cX12_isLetter 1 (some .boolean) 1 := ⟨gw_of 1520 rfl (by decide +kernel), gw_of 1519 (by decide +kernel) (by decide +kernel), q_in_RX12, by decide +kernel, by decide +kernel, by decide +kernel⟩
set_option maxRecDepth 100000 in
theorem lk_X12_isDigit : LkS yX12_isDigit cX12_isDigit 1 (some .boolean) 1 := ⟨gw_of 1538 rfl (by decide +kernel), gw_of 1537 (by decide +kernel) (by decide +kernel), q_in_RX12, by decide +kernel, by decide +kernel, by decide +kernel⟩
set_option maxRecDepth 100000 in
theorem lk_X12_four : LkS yX12_four cX12_four 4 (some .long) 4 := ⟨gw_of 1528 rfl (by decide +kernel), gw_of 1527 (by decide +kernel) (by decide +kernel), q_in_RX12, by decide +kernel, by decide +kernel, by decide +kernel⟩
set_option maxRecDepth 100000 in
theorem lk_X12_eight : LkS yX12_eight cX12_eight 8 (some .long) 8 := ⟨gw_of 1531 rfl (by decide +kernel), gw_of 1530 (by decide +kernel) (by decide +kernel), q_in_RX12, by decide +kernel, by decide +kernel, by decide +kernel⟩
set_option maxRecDepth 100000 in
theorem lk_X12_otherWord : LkS yX12_otherWord cX12_otherWord 2 (some .int) 1 := ⟨gw_of 1535 rfl (by decide +kernel), gw_of 1534 (by decide +kernel) (by decide +kernel), q_in_RX12, by decide +kernel, by decide +kernel, by decide +kernel⟩
set_option maxRecDepth 100000 in
theorem lk_X12_wordOf : LkS yX12_wordOf cX12_wordOf 2 (some .int) 1 := ⟨gw_of 1525 rfl (by decide +kernel), gw_of 1524 (by decide +kernel) (by decide +kernel), q_in_RX12, by decide +kernel, by decide +kernel, by decide +kernel⟩
set_option maxRecDepth 100000 in
theorem lk_X12_advance : LkV yX12_advance cX12_advance 4 none 0 := ⟨gw_of 1513 rfl (by decide +kernel), gw_of 1512 (by decide +kernel) (by decide +kernel), gw_of 47 (by decide +kernel) (by decide +kernel), q_in_RX12, by decide +kernel, by decide +kernel, by decide +kernel⟩
set_option maxRecDepth 100000 in
theorem lk_X12_ends : LkV yX12_ends cX12_ends 1 none 0 := ⟨gw_of 1550 rfl (by decide +kernel), gw_of 1549 (by decide +kernel) (by decide +kernel), gw_of 51 (by decide +kernel) (by decide +kernel), q_in_RX12, by decide +kernel, by decide +kernel, by decide +kernel⟩
set_option maxRecDepth 100000 in
theorem lk_X12_also : LkV yX12_also cX12_also 3 none 2 := ⟨gw_of 1558 rfl (by decide +kernel), gw_of 1557 (by decide +kernel) (by decide +kernel), gw_of 53 (by decide +kernel) (by decide +kernel), q_in_RX12, by decide +kernel, by decide +kernel, by decide +kernel⟩
set_option maxRecDepth 100000 in
theorem lk_X12_numbered : LkV yX12_numbered cX12_numbered 4 (some .int) 2 := ⟨gw_of 1554 rfl (by decide +kernel), gw_of 1553 (by decide +kernel) (by decide +kernel), gw_of 52 (by decide +kernel) (by decide +kernel), q_in_RX12, by decide +kernel, by decide +kernel, by decide +kernel⟩
set_option maxRecDepth 100000 in
theorem lk_X12_takes : LkV yX12_takes cX12_takes 4 (some .int) 2 := ⟨gw_of 1546 rfl (by decide +kernel), gw_of 1545 (by decide +kernel) (by decide +kernel), gw_of 50 (by decide +kernel) (by decide +kernel), q_in_RX12, by decide +kernel, by decide +kernel, by decide +kernel⟩
set_option maxRecDepth 100000 in
theorem lk_X12_endsLine : LkV yX12_endsLine cX12_endsLine 1 none 0 := ⟨gw_of 1574 rfl (by decide +kernel), gw_of 1573 (by decide +kernel) (by decide +kernel), gw_of 57 (by decide +kernel) (by decide +kernel), q_in_RX12, by decide +kernel, by decide +kernel, by decide +kernel⟩
set_option maxRecDepth 100000 in
theorem lk_X12_squareTold : LkV yX12_squareTold cX12_squareTold 3 (some .int) 0 := ⟨gw_of 1562 rfl (by decide +kernel), gw_of 1561 (by decide +kernel) (by decide +kernel), gw_of 54 (by decide +kernel) (by decide +kernel), q_in_RX12, by decide +kernel, by decide +kernel, by decide +kernel⟩
set_option maxRecDepth 100000 in
theorem lk_X12_personLine : LkV yX12_personLine cX12_personLine 5 none 1 := ⟨gw_of 1566 rfl (by decide +kernel), gw_of 1565 (by decide +kernel) (by decide +kernel), gw_of 55 (by decide +kernel) (by decide +kernel), q_in_RX12, by decide +kernel, by decide +kernel, by decide +kernel⟩
set_option maxRecDepth 100000 in
theorem lk_X12_shineLine : LkV yX12_shineLine cX12_shineLine 9 none 2 := ⟨gw_of 1570 rfl (by decide +kernel), gw_of 1569 (by decide +kernel) (by decide +kernel), gw_of 56 (by decide +kernel) (by decide +kernel), q_in_RX12, by decide +kernel, by decide +kernel, by decide +kernel⟩
set_option maxRecDepth 100000 in
theorem lk_X12_parishLine : LkV yX12_parishLine cX12_parishLine 3 none 0 := ⟨gw_of 1542 rfl (by decide +kernel), gw_of 1541 (by decide +kernel) (by decide +kernel), gw_of 49 (by decide +kernel) (by decide +kernel), q_in_RX12, by decide +kernel, by decide +kernel, by decide +kernel⟩
set_option maxRecDepth 100000 in
theorem lk_X12_lawLine : LkV yX12_lawLine cX12_lawLine 3 none 0 := ⟨gw_of 1578 rfl (by decide +kernel), gw_of 1577 (by decide +kernel) (by decide +kernel), gw_of 58 (by decide +kernel) (by decide +kernel), q_in_RX12, by decide +kernel, by decide +kernel, by decide +kernel⟩
set_option maxRecDepth 100000 in
theorem lk_X12_eveningLine : LkV yX12_eveningLine cX12_eveningLine 6 none 0 := ⟨gw_of 1582 rfl (by decide +kernel), gw_of 1581 (by decide +kernel) (by decide +kernel), gw_of 59 (by decide +kernel) (by decide +kernel), q_in_RX12, by decide +kernel, by decide +kernel, by decide +kernel⟩
set_option maxRecDepth 100000 in
theorem lk_X12_sightLine : LkV yX12_sightLine cX12_sightLine 3 none 0 := ⟨gw_of 1586 rfl (by decide +kernel), gw_of 1585 (by decide +kernel) (by decide +kernel), gw_of 60 (by decide +kernel) (by decide +kernel), q_in_RX12, by decide +kernel, by decide +kernel, by decide +kernel⟩
set_option maxRecDepth 100000 in
theorem lk_X12_placeOf : LkS yX12_placeOf cX12_placeOf 2 (some .int) 2 := ⟨gw_of 1596 rfl (by decide +kernel), gw_of 1595 (by decide +kernel) (by decide +kernel), q_in_RX12, by decide +kernel, by decide +kernel, by decide +kernel⟩
set_option maxRecDepth 100000 in
theorem lk_X12_sizeOf : LkS yX12_sizeOf cX12_sizeOf 1 (some .int) 1 := ⟨gw_of 1593 rfl (by decide +kernel), gw_of 1592 (by decide +kernel) (by decide +kernel), q_in_RX12, by decide +kernel, by decide +kernel, by decide +kernel⟩
set_option maxRecDepth 100000 in
theorem lk_X12_isOf : LkV yX12_isOf cX12_isOf 3 (some .boolean) 2 := ⟨gw_of 1505 rfl (by decide +kernel), gw_of 1504 (by decide +kernel) (by decide +kernel), gw_of 45 (by decide +kernel) (by decide +kernel), q_in_RX12, by decide +kernel, by decide +kernel, by decide +kernel⟩
set_option maxRecDepth 100000 in
theorem lk_X12_clears : LkV yX12_clears cX12_clears 3 none 1 := ⟨gw_of 1509 rfl (by decide +kernel), gw_of 1508 (by decide +kernel) (by decide +kernel), gw_of 46 (by decide +kernel) (by decide +kernel), q_in_RX12, by decide +kernel, by decide +kernel, by decide +kernel⟩
set_option maxRecDepth 100000 in
theorem lk_X12_wrongAtEnd : LkV yX12_wrongAtEnd cX12_wrongAtEnd 4 (some .int) 0 := ⟨gw_of 1590 rfl (by decide +kernel), gw_of 1589 (by decide +kernel) (by decide +kernel), gw_of 61 (by decide +kernel) (by decide +kernel), q_in_RX12, by decide +kernel, by decide +kernel, by decide +kernel⟩
set_option maxRecDepth 100000 in
theorem lk_X12_text : LkV yX12_text cX12_text 6 (some .int) 2 := ⟨gw_of 1498 rfl (by decide +kernel), gw_of 1496 (by decide +kernel) (by decide +kernel), gw_of 1497 (by decide +kernel) (by decide +kernel), q_in_RX12, by decide +kernel, by decide +kernel, by decide +kernel⟩
set_option maxRecDepth 100000 in
theorem lk_X12_fault : LkV yX12_fault cX12_fault 2 (some .int) 1 := ⟨gw_of 1600 rfl (by decide +kernel), gw_of 1598 (by decide +kernel) (by decide +kernel), gw_of 1599 (by decide +kernel) (by decide +kernel), q_in_RX12, by decide +kernel, by decide +kernel, by decide +kernel⟩
set_option maxRecDepth 100000 in
theorem lk_X12_isParish : LkV yX12_isParish cX12_isParish 3 (some .boolean) 1 := ⟨gw_of 1608 rfl (by decide +kernel), gw_of 1607 (by decide +kernel) (by decide +kernel), gw_of 62 (by decide +kernel) (by decide +kernel), q_in_RX12, by decide +kernel, by decide +kernel, by decide +kernel⟩
set_option maxRecDepth 100000 in
theorem lk_X12_wide : LkV yX12_wide cX12_wide 1 (some .int) 0 := ⟨gw_of 1620 rfl (by decide +kernel), gw_of 1619 (by decide +kernel) (by decide +kernel), gw_of 65 (by decide +kernel) (by decide +kernel), q_in_RX12, by decide +kernel, by decide +kernel, by decide +kernel⟩
set_option maxRecDepth 100000 in
theorem lk_X12_high : LkV yX12_high cX12_high 1 (some .int) 0 := ⟨gw_of 1636 rfl (by decide +kernel), gw_of 1635 (by decide +kernel) (by decide +kernel), gw_of 68 (by decide +kernel) (by decide +kernel), q_in_RX12, by decide +kernel, by decide +kernel, by decide +kernel⟩
set_option maxRecDepth 100000 in
theorem lk_X12_isSquare : LkV yX12_isSquare cX12_isSquare 2 (some .boolean) 1 := ⟨gw_of 1632 rfl (by decide +kernel), gw_of 1631 (by decide +kernel) (by decide +kernel), gw_of 67 (by decide +kernel) (by decide +kernel), q_in_RX12, by decide +kernel, by decide +kernel, by decide +kernel⟩
set_option maxRecDepth 100000 in
theorem lk_X12_inside : LkV yX12_inside cX12_inside 2 (some .int) 1 := ⟨gw_of 1640 rfl (by decide +kernel), gw_of 1639 (by decide +kernel) (by decide +kernel), gw_of 69 (by decide +kernel) (by decide +kernel), q_in_RX12, by decide +kernel, by decide +kernel, by decide +kernel⟩
set_option maxRecDepth 100000 in
theorem lk_X12_outside : LkV yX12_outside cX12_outside 2 (some .int) 1 := ⟨gw_of 1616 rfl (by decide +kernel), gw_of 1615 (by decide +kernel) (by decide +kernel), gw_of 64 (by decide +kernel) (by decide +kernel), q_in_RX12, by decide +kernel, by decide +kernel, by decide +kernel⟩
set_option maxRecDepth 100000 in
theorem lk_X12_isPerson : LkV yX12_isPerson cX12_isPerson 2 (some .boolean) 1 := ⟨gw_of 1612 rfl (by decide +kernel), gw_of 1611 (by decide +kernel) (by decide +kernel), gw_of 63 (by decide +kernel) (by decide +kernel), q_in_RX12, by decide +kernel, by decide +kernel, by decide +kernel⟩
set_option maxRecDepth 100000 in
theorem lk_X12_isShine : LkV yX12_isShine cX12_isShine 2 (some .boolean) 1 := ⟨gw_of 1624 rfl (by decide +kernel), gw_of 1623 (by decide +kernel) (by decide +kernel), gw_of 66 (by decide +kernel) (by decide +kernel), q_in_RX12, by decide +kernel, by decide +kernel, by decide +kernel⟩
set_option maxRecDepth 100000 in
theorem lk_X12_on : LkV yX12_on cX12_on 3 (some .int) 1 := ⟨gw_of 1644 rfl (by decide +kernel), gw_of 1643 (by decide +kernel) (by decide +kernel), gw_of 70 (by decide +kernel) (by decide +kernel), q_in_RX12, by decide +kernel, by decide +kernel, by decide +kernel⟩
set_option maxRecDepth 100000 in
theorem lk_X12_parish : LkV yX12_parish cX12_parish 4 (some .int) 2 := ⟨gw_of 1604 rfl (by decide +kernel), gw_of 1602 (by decide +kernel) (by decide +kernel), gw_of 1603 (by decide +kernel) (by decide +kernel), q_in_RX12, by decide +kernel, by decide +kernel, by decide +kernel⟩
set_option maxRecDepth 100000 in
theorem lk_X12_square : LkV yX12_square cX12_square 3 (some .int) 2 := ⟨gw_of 1628 rfl (by decide +kernel), gw_of 1626 (by decide +kernel) (by decide +kernel), gw_of 1627 (by decide +kernel) (by decide +kernel), q_in_RX12, by decide +kernel, by decide +kernel, by decide +kernel⟩
set_option maxRecDepth 100000 in
theorem lk_X12_isOpen : LkV yX12_isOpen cX12_isOpen 4 (some .boolean) 2 := ⟨gw_of 1656 rfl (by decide +kernel), gw_of 1655 (by decide +kernel) (by decide +kernel), gw_of 72 (by decide +kernel) (by decide +kernel), q_in_RX12, by decide +kernel, by decide +kernel, by decide +kernel⟩
set_option maxRecDepth 100000 in
theorem lk_X12_beside : LkV yX12_beside cX12_beside 5 (some .int) 2 := ⟨gw_of 1660 rfl (by decide +kernel), gw_of 1659 (by decide +kernel) (by decide +kernel), gw_of 73 (by decide +kernel) (by decide +kernel), q_in_RX12, by decide +kernel, by decide +kernel, by decide +kernel⟩
set_option maxRecDepth 100000 in
theorem lk_X12_meets : LkV yX12_meets cX12_meets 4 (some .int) 2 := ⟨gw_of 1652 rfl (by decide +kernel), gw_of 1651 (by decide +kernel) (by decide +kernel), gw_of 71 (by decide +kernel) (by decide +kernel), q_in_RX12, by decide +kernel, by decide +kernel, by decide +kernel⟩
set_option maxRecDepth 100000 in
theorem lk_X12_joins : LkV yX12_joins cX12_joins 5 none 2 := ⟨gw_of 1672 rfl (by decide +kernel), gw_of 1671 (by decide +kernel) (by decide +kernel), gw_of 75 (by decide +kernel) (by decide +kernel), q_in_RX12, by decide +kernel, by decide +kernel, by decide +kernel⟩
set_option maxRecDepth 100000 in
theorem lk_X12_laysOut : LkV yX12_laysOut cX12_laysOut 4 none 0 := ⟨gw_of 1668 rfl (by decide +kernel), gw_of 1667 (by decide +kernel) (by decide +kernel), gw_of 74 (by decide +kernel) (by decide +kernel), q_in_RX12, by decide +kernel, by decide +kernel, by decide +kernel⟩
set_option maxRecDepth 100000 in
theorem lk_X12_looks : LkV yX12_looks cX12_looks 4 (some .int) 3 := ⟨gw_of 1648 rfl (by decide +kernel), gw_of 1646 (by decide +kernel) (by decide +kernel), gw_of 1647 (by decide +kernel) (by decide +kernel), q_in_RX12, by decide +kernel, by decide +kernel, by decide +kernel⟩
set_option maxRecDepth 100000 in
theorem lk_X12_degree : LkV yX12_degree cX12_degree 4 (some .int) 3 := ⟨gw_of 1664 rfl (by decide +kernel), gw_of 1662 (by decide +kernel) (by decide +kernel), gw_of 1663 (by decide +kernel) (by decide +kernel), q_in_RX12, by decide +kernel, by decide +kernel, by decide +kernel⟩
set_option maxRecDepth 100000 in
theorem lk_X12_isLaw : LkV yX12_isLaw cX12_isLaw 2 (some .boolean) 1 := ⟨gw_of 1680 rfl (by decide +kernel), gw_of 1679 (by decide +kernel) (by decide +kernel), gw_of 76 (by decide +kernel) (by decide +kernel), q_in_RX12, by decide +kernel, by decide +kernel, by decide +kernel⟩
set_option maxRecDepth 100000 in
theorem lk_X12_law : LkV yX12_law cX12_law 3 (some .int) 2 := ⟨gw_of 1676 rfl (by decide +kernel), gw_of 1674 (by decide +kernel) (by decide +kernel), gw_of 1675 (by decide +kernel) (by decide +kernel), q_in_RX12, by decide +kernel, by decide +kernel, by decide +kernel⟩
set_option maxRecDepth 100000 in
theorem lk_X12_isSoup : LkV yX12_isSoup cX12_isSoup 2 (some .boolean) 1 := ⟨gw_of 1700 rfl (by decide +kernel), gw_of 1699 (by decide +kernel) (by decide +kernel), gw_of 80 (by decide +kernel) (by decide +kernel), q_in_RX12, by decide +kernel, by decide +kernel, by decide +kernel⟩
set_option maxRecDepth 100000 in
theorem lk_X12_isNear : LkV yX12_isNear cX12_isNear 3 (some .boolean) 2 := ⟨gw_of 1704 rfl (by decide +kernel), gw_of 1703 (by decide +kernel) (by decide +kernel), gw_of 81 (by decide +kernel) (by decide +kernel), q_in_RX12, by decide +kernel, by decide +kernel, by decide +kernel⟩
set_option maxRecDepth 100000 in
theorem lk_X12_countOf : LkV yX12_countOf cX12_countOf 6 (some .int) 1 := ⟨gw_of 1696 rfl (by decide +kernel), gw_of 1695 (by decide +kernel) (by decide +kernel), gw_of 79 (by decide +kernel) (by decide +kernel), q_in_RX12, by decide +kernel, by decide +kernel, by decide +kernel⟩
set_option maxRecDepth 100000 in
theorem lk_X12_sum : LkV yX12_sum cX12_sum 3 (some .int) 0 := ⟨gw_of 1692 rfl (by decide +kernel), gw_of 1691 (by decide +kernel) (by decide +kernel), gw_of 78 (by decide +kernel) (by decide +kernel), q_in_RX12, by decide +kernel, by decide +kernel, by decide +kernel⟩
set_option maxRecDepth 100000 in
theorem lk_X12_areTold : LkV yX12_areTold cX12_areTold 3 (some .boolean) 2 := ⟨gw_of 1688 rfl (by decide +kernel), gw_of 1687 (by decide +kernel) (by decide +kernel), gw_of 77 (by decide +kernel) (by decide +kernel), q_in_RX12, by decide +kernel, by decide +kernel, by decide +kernel⟩
set_option maxRecDepth 100000 in
theorem lk_X12_counted : LkV yX12_counted cX12_counted 5 (some .int) 3 := ⟨gw_of 1684 rfl (by decide +kernel), gw_of 1682 (by decide +kernel) (by decide +kernel), gw_of 1683 (by decide +kernel) (by decide +kernel), q_in_RX12, by decide +kernel, by decide +kernel, by decide +kernel⟩
set_option maxRecDepth 100000 in
theorem lk_X12_takesTotals : LkV yX12_takesTotals cX12_takesTotals 2 none 0 := ⟨gw_of 1716 rfl (by decide +kernel), gw_of 1715 (by decide +kernel) (by decide +kernel), gw_of 83 (by decide +kernel) (by decide +kernel), q_in_RX12, by decide +kernel, by decide +kernel, by decide +kernel⟩
set_option maxRecDepth 100000 in
theorem lk_X12_by : LkV yX12_by cX12_by 2 (some .int) 1 := ⟨gw_of 1720 rfl (by decide +kernel), gw_of 1719 (by decide +kernel) (by decide +kernel), gw_of 84 (by decide +kernel) (by decide +kernel), q_in_RX12, by decide +kernel, by decide +kernel, by decide +kernel⟩
set_option maxRecDepth 100000 in
theorem lk_X12_gives : LkV yX12_gives cX12_gives 6 none 0 := ⟨gw_of 1712 rfl (by decide +kernel), gw_of 1711 (by decide +kernel) (by decide +kernel), gw_of 82 (by decide +kernel) (by decide +kernel), q_in_RX12, by decide +kernel, by decide +kernel, by decide +kernel⟩
set_option maxRecDepth 100000 in
theorem lk_X12_party : LkV yX12_party cX12_party 5 (some .int) 4 := ⟨gw_of 1708 rfl (by decide +kernel), gw_of 1706 (by decide +kernel) (by decide +kernel), gw_of 1707 (by decide +kernel) (by decide +kernel), q_in_RX12, by decide +kernel, by decide +kernel, by decide +kernel⟩
set_option maxRecDepth 100000 in
theorem lk_X12_isEvening : LkV yX12_isEvening cX12_isEvening 2 (some .boolean) 1 := ⟨gw_of 1728 rfl (by decide +kernel), gw_of 1727 (by decide +kernel) (by decide +kernel), gw_of 85 (by decide +kernel) (by decide +kernel), q_in_RX12, by decide +kernel, by decide +kernel, by decide +kernel⟩
set_option maxRecDepth 100000 in
theorem lk_X12_deedOf : LkV yX12_deedOf cX12_deedOf 3 (some .int) 2 := ⟨gw_of 1732 rfl (by decide +kernel), gw_of 1731 (by decide +kernel) (by decide +kernel), gw_of 86 (by decide +kernel) (by decide +kernel), q_in_RX12, by decide +kernel, by decide +kernel, by decide +kernel⟩
set_option maxRecDepth 100000 in
theorem lk_X12_deed : LkV yX12_deed cX12_deed 4 (some .int) 3 := ⟨gw_of 1724 rfl (by decide +kernel), gw_of 1722 (by decide +kernel) (by decide +kernel), gw_of 1723 (by decide +kernel) (by decide +kernel), q_in_RX12, by decide +kernel, by decide +kernel, by decide +kernel⟩
set_option maxRecDepth 100000 in
theorem lk_X12_begins : LkV yX12_begins cX12_begins 2 none 0 := ⟨gw_of 1744 rfl (by decide +kernel), gw_of 1743 (by decide +kernel) (by decide +kernel), gw_of 88 (by decide +kernel) (by decide +kernel), q_in_RX12, by decide +kernel, by decide +kernel, by decide +kernel⟩
set_option maxRecDepth 100000 in
theorem lk_X12_can : LkV yX12_can cX12_can 4 (some .boolean) 3 := ⟨gw_of 1748 rfl (by decide +kernel), gw_of 1747 (by decide +kernel) (by decide +kernel), gw_of 89 (by decide +kernel) (by decide +kernel), q_in_RX12, by decide +kernel, by decide +kernel, by decide +kernel⟩
set_option maxRecDepth 100000 in
theorem lk_X12_counts : LkV yX12_counts cX12_counts 3 none 0 := ⟨gw_of 1756 rfl (by decide +kernel), gw_of 1755 (by decide +kernel) (by decide +kernel), gw_of 91 (by decide +kernel) (by decide +kernel), q_in_RX12, by decide +kernel, by decide +kernel, by decide +kernel⟩
set_option maxRecDepth 100000 in
theorem lk_X12_does : LkV yX12_does cX12_does 4 none 3 := ⟨gw_of 1752 rfl (by decide +kernel), gw_of 1751 (by decide +kernel) (by decide +kernel), gw_of 90 (by decide +kernel) (by decide +kernel), q_in_RX12, by decide +kernel, by decide +kernel, by decide +kernel⟩
set_option maxRecDepth 100000 in
theorem lk_X12_runs : LkV yX12_runs cX12_runs 2 none 1 := ⟨gw_of 1740 rfl (by decide +kernel), gw_of 1739 (by decide +kernel) (by decide +kernel), gw_of 87 (by decide +kernel) (by decide +kernel), q_in_RX12, by decide +kernel, by decide +kernel, by decide +kernel⟩
set_option maxRecDepth 100000 in
theorem lk_X12_stop : LkV yX12_stop cX12_stop 4 (some .int) 3 := ⟨gw_of 1736 rfl (by decide +kernel), gw_of 1734 (by decide +kernel) (by decide +kernel), gw_of 1735 (by decide +kernel) (by decide +kernel), q_in_RX12, by decide +kernel, by decide +kernel, by decide +kernel⟩
set_option maxRecDepth 100000 in
theorem lk_X12_nowOf : LkV yX12_nowOf cX12_nowOf 3 (some .int) 1 := ⟨gw_of 1764 rfl (by decide +kernel), gw_of 1763 (by decide +kernel) (by decide +kernel), gw_of 92 (by decide +kernel) (by decide +kernel), q_in_RX12, by decide +kernel, by decide +kernel, by decide +kernel⟩
set_option maxRecDepth 100000 in
theorem lk_X12_state : LkV yX12_state cX12_state 6 (some .int) 5 := ⟨gw_of 1760 rfl (by decide +kernel), gw_of 1758 (by decide +kernel) (by decide +kernel), gw_of 1759 (by decide +kernel) (by decide +kernel), q_in_RX12, by decide +kernel, by decide +kernel, by decide +kernel⟩
set_option maxRecDepth 100000 in
theorem lk_X12_isFreeFor : LkV yX12_isFreeFor cX12_isFreeFor 4 (some .boolean) 3 := ⟨gw_of 1772 rfl (by decide +kernel), gw_of 1771 (by decide +kernel) (by decide +kernel), gw_of 93 (by decide +kernel) (by decide +kernel), q_in_RX12, by decide +kernel, by decide +kernel, by decide +kernel⟩
set_option maxRecDepth 100000 in
theorem lk_X12_stand : LkV yX12_stand cX12_stand 11 (some .int) 5 := ⟨gw_of 1768 rfl (by decide +kernel), gw_of 1766 (by decide +kernel) (by decide +kernel), gw_of 1767 (by decide +kernel) (by decide +kernel), q_in_RX12, by decide +kernel, by decide +kernel, by decide +kernel⟩
set_option maxRecDepth 100000 in
theorem lk_X12_together : LkV yX12_together cX12_together 14 (some .int) 5 := ⟨gw_of 1776 rfl (by decide +kernel), gw_of 1774 (by decide +kernel) (by decide +kernel), gw_of 1775 (by decide +kernel) (by decide +kernel), q_in_RX12, by decide +kernel, by decide +kernel, by decide +kernel⟩
set_option maxRecDepth 100000 in
theorem lk_X12_turned : LkV yX12_turned cX12_turned 9 (some .int) 4 := ⟨gw_of 1780 rfl (by decide +kernel), gw_of 1778 (by decide +kernel) (by decide +kernel), gw_of 1779 (by decide +kernel) (by decide +kernel), q_in_RX12, by decide +kernel, by decide +kernel, by decide +kernel⟩
set_option maxRecDepth 100000 in
theorem lk_X12_spoon : LkV yX12_spoon cX12_spoon 9 (some .int) 4 := ⟨gw_of 1784 rfl (by decide +kernel), gw_of 1782 (by decide +kernel) (by decide +kernel), gw_of 1783 (by decide +kernel) (by decide +kernel), q_in_RX12, by decide +kernel, by decide +kernel, by decide +kernel⟩
set_option maxRecDepth 100000 in
theorem lk_X12_leastOf : LkV yX12_leastOf cX12_leastOf 3 (some .int) 1 := ⟨gw_of 1796 rfl (by decide +kernel), gw_of 1795 (by decide +kernel) (by decide +kernel), gw_of 95 (by decide +kernel) (by decide +kernel), q_in_RX12, by decide +kernel, by decide +kernel, by decide +kernel⟩
set_option maxRecDepth 100000 in
theorem lk_X12_prizeOf : LkV yX12_prizeOf cX12_prizeOf 3 (some .int) 2 := ⟨gw_of 1800 rfl (by decide +kernel), gw_of 1799 (by decide +kernel) (by decide +kernel), gw_of 96 (by decide +kernel) (by decide +kernel), q_in_RX12, by decide +kernel, by decide +kernel, by decide +kernel⟩
set_option maxRecDepth 100000 in
theorem lk_X12_arePlayers : LkV yX12_arePlayers cX12_arePlayers 3 (some .boolean) 2 := ⟨gw_of 1792 rfl (by decide +kernel), gw_of 1791 (by decide +kernel) (by decide +kernel), gw_of 94 (by decide +kernel) (by decide +kernel), q_in_RX12, by decide +kernel, by decide +kernel, by decide +kernel⟩
set_option maxRecDepth 100000 in
theorem lk_X12_prize : LkV yX12_prize cX12_prize 5 (some .int) 4 := ⟨gw_of 1788 rfl (by decide +kernel), gw_of 1786 (by decide +kernel) (by decide +kernel), gw_of 1787 (by decide +kernel) (by decide +kernel), q_in_RX12, by decide +kernel, by decide +kernel, by decide +kernel⟩
set_option maxRecDepth 100000 in
theorem lk_X12_isRest : LkV yX12_isRest cX12_isRest 4 (some .boolean) 1 := ⟨gw_of 1808 rfl (by decide +kernel), gw_of 1807 (by decide +kernel) (by decide +kernel), gw_of 97 (by decide +kernel) (by decide +kernel), q_in_RX12, by decide +kernel, by decide +kernel, by decide +kernel⟩
set_option maxRecDepth 100000 in
theorem lk_X12_rest : LkV yX12_rest cX12_rest 6 (some .int) 3 := ⟨gw_of 1804 rfl (by decide +kernel), gw_of 1802 (by decide +kernel) (by decide +kernel), gw_of 1803 (by decide +kernel) (by decide +kernel), q_in_RX12, by decide +kernel, by decide +kernel, by decide +kernel⟩
set_option maxRecDepth 100000 in
theorem lk_X12_isWall : LkV yX12_isWall cX12_isWall 2 (some .boolean) 1 := ⟨gw_of 1816 rfl (by decide +kernel), gw_of 1815 (by decide +kernel) (by decide +kernel), gw_of 98 (by decide +kernel) (by decide +kernel), q_in_RX12, by decide +kernel, by decide +kernel, by decide +kernel⟩
set_option maxRecDepth 100000 in
theorem lk_X12_walks : LkV yX12_walks cX12_walks 6 none 1 := ⟨gw_of 1820 rfl (by decide +kernel), gw_of 1819 (by decide +kernel) (by decide +kernel), gw_of 99 (by decide +kernel) (by decide +kernel), q_in_RX12, by decide +kernel, by decide +kernel, by decide +kernel⟩
set_option maxRecDepth 100000 in
theorem lk_X12_way : LkV yX12_way cX12_way 4 (some .int) 3 := ⟨gw_of 1812 rfl (by decide +kernel), gw_of 1810 (by decide +kernel) (by decide +kernel), gw_of 1811 (by decide +kernel) (by decide +kernel), q_in_RX12, by decide +kernel, by decide +kernel, by decide +kernel⟩
set_option maxRecDepth 100000 in
theorem lk_X12_laysRounds : LkV yX12_laysRounds cX12_laysRounds 6 none 1 := ⟨gw_of 1828 rfl (by decide +kernel), gw_of 1827 (by decide +kernel) (by decide +kernel), gw_of 100 (by decide +kernel) (by decide +kernel), q_in_RX12, by decide +kernel, by decide +kernel, by decide +kernel⟩
set_option maxRecDepth 100000 in
theorem lk_X12_bitsOf : LkS yX12_bitsOf cX12_bitsOf 3 (some .int) 1 := ⟨gw_of 1831 rfl (by decide +kernel), gw_of 1830 (by decide +kernel) (by decide +kernel), q_in_RX12, by decide +kernel, by decide +kernel, by decide +kernel⟩
set_option maxRecDepth 100000 in
theorem lk_X12_round : LkV yX12_round cX12_round 8 (some .int) 3 := ⟨gw_of 1824 rfl (by decide +kernel), gw_of 1822 (by decide +kernel) (by decide +kernel), gw_of 1823 (by decide +kernel) (by decide +kernel), q_in_RX12, by decide +kernel, by decide +kernel, by decide +kernel⟩
set_option maxRecDepth 100000 in
theorem lk_X12_sight : LkV yX12_sight cX12_sight 3 (some .int) 2 := ⟨gw_of 1835 rfl (by decide +kernel), gw_of 1833 (by decide +kernel) (by decide +kernel), gw_of 1834 (by decide +kernel) (by decide +kernel), q_in_RX12, by decide +kernel, by decide +kernel, by decide +kernel⟩
set_option maxRecDepth 100000 in
theorem lk_X12_unlike : LkV yX12_unlike cX12_unlike 6 (some .int) 1 := ⟨gw_of 1843 rfl (by decide +kernel), gw_of 1842 (by decide +kernel) (by decide +kernel), gw_of 101 (by decide +kernel) (by decide +kernel), q_in_RX12, by decide +kernel, by decide +kernel, by decide +kernel⟩
set_option maxRecDepth 100000 in
theorem lk_X12_next : LkV yX12_next cX12_next 7 (some .int) 1 := ⟨gw_of 1847 rfl (by decide +kernel), gw_of 1846 (by decide +kernel) (by decide +kernel), gw_of 102 (by decide +kernel) (by decide +kernel), q_in_RX12, by decide +kernel, by decide +kernel, by decide +kernel⟩
set_option maxRecDepth 100000 in
theorem lk_X12_fits : LkV yX12_fits cX12_fits 12 (some .int) 4 := ⟨gw_of 1839 rfl (by decide +kernel), gw_of 1837 (by decide +kernel) (by decide +kernel), gw_of 1838 (by decide +kernel) (by decide +kernel), q_in_RX12, by decide +kernel, by decide +kernel, by decide +kernel⟩
set_option maxRecDepth 100000 in
theorem lk_X12_common : LkS yX12_common cX12_common 5 (some .int) 2 := ⟨gw_of 1854 rfl (by decide +kernel), gw_of 1853 (by decide +kernel) (by decide +kernel), q_in_RX12, by decide +kernel, by decide +kernel, by decide +kernel⟩
set_option maxRecDepth 100000 in
theorem lk_X12_wind : LkV yX12_wind cX12_wind 7 (some .int) 4 := ⟨gw_of 1851 rfl (by decide +kernel), gw_of 1849 (by decide +kernel) (by decide +kernel), gw_of 1850 (by decide +kernel) (by decide +kernel), q_in_RX12, by decide +kernel, by decide +kernel, by decide +kernel⟩
set_option maxRecDepth 100000 in
theorem lk_X12_clan : LkV yX12_clan cX12_clan 6 (some .int) 2 := ⟨gw_of 1858 rfl (by decide +kernel), gw_of 1856 (by decide +kernel) (by decide +kernel), gw_of 1857 (by decide +kernel) (by decide +kernel), q_in_RX12, by decide +kernel, by decide +kernel, by decide +kernel⟩
set_option maxRecDepth 100000 in
theorem lk_X12_puddle : LkV yX12_puddle cX12_puddle 7 (some .int) 3 := ⟨gw_of 1862 rfl (by decide +kernel), gw_of 1860 (by decide +kernel) (by decide +kernel), gw_of 1861 (by decide +kernel) (by decide +kernel), q_in_RX12, by decide +kernel, by decide +kernel, by decide +kernel⟩
set_option maxRecDepth 100000 in
theorem lk_X12_isBlind : LkV yX12_isBlind cX12_isBlind 4 (some .boolean) 1 := ⟨gw_of 1870 rfl (by decide +kernel), gw_of 1869 (by decide +kernel) (by decide +kernel), gw_of 103 (by decide +kernel) (by decide +kernel), q_in_RX12, by decide +kernel, by decide +kernel, by decide +kernel⟩
set_option maxRecDepth 100000 in
theorem lk_X12_isLone : LkV yX12_isLone cX12_isLone 4 (some .boolean) 1 := ⟨gw_of 1874 rfl (by decide +kernel), gw_of 1873 (by decide +kernel) (by decide +kernel), gw_of 104 (by decide +kernel) (by decide +kernel), q_in_RX12, by decide +kernel, by decide +kernel, by decide +kernel⟩
set_option maxRecDepth 100000 in
theorem lk_X12_glances : LkV yX12_glances cX12_glances 4 (some .int) 0 := ⟨gw_of 1878 rfl (by decide +kernel), gw_of 1877 (by decide +kernel) (by decide +kernel), gw_of 105 (by decide +kernel) (by decide +kernel), q_in_RX12, by decide +kernel, by decide +kernel, by decide +kernel⟩
set_option maxRecDepth 100000 in
theorem lk_X12_deep : LkV yX12_deep cX12_deep 3 (some .int) 0 := ⟨gw_of 1882 rfl (by decide +kernel), gw_of 1881 (by decide +kernel) (by decide +kernel), gw_of 106 (by decide +kernel) (by decide +kernel), q_in_RX12, by decide +kernel, by decide +kernel, by decide +kernel⟩
set_option maxRecDepth 100000 in
theorem lk_X12_alone : LkV yX12_alone cX12_alone 5 (some .int) 2 := ⟨gw_of 1866 rfl (by decide +kernel), gw_of 1864 (by decide +kernel) (by decide +kernel), gw_of 1865 (by decide +kernel) (by decide +kernel), q_in_RX12, by decide +kernel, by decide +kernel, by decide +kernel⟩
set_option maxRecDepth 100000 in
theorem lk_X12_barred : LkV yX12_barred cX12_barred 8 (some .int) 3 := ⟨gw_of 1886 rfl (by decide +kernel), gw_of 1884 (by decide +kernel) (by decide +kernel), gw_of 1885 (by decide +kernel) (by decide +kernel), q_in_RX12, by decide +kernel, by decide +kernel, by decide +kernel⟩
set_option maxRecDepth 100000 in
theorem lk_X12_knownIn : LkV yX12_knownIn cX12_knownIn 4 (some .int) 1 := ⟨gw_of 1894 rfl (by decide +kernel), gw_of 1893 (by decide +kernel) (by decide +kernel), gw_of 107 (by decide +kernel) (by decide +kernel), q_in_RX12, by decide +kernel, by decide +kernel, by decide +kernel⟩
set_option maxRecDepth 100000 in
theorem lk_X12_known : LkV yX12_known cX12_known 6 (some .int) 3 := ⟨gw_of 1890 rfl (by decide +kernel), gw_of 1888 (by decide +kernel) (by decide +kernel), gw_of 1889 (by decide +kernel) (by decide +kernel), q_in_RX12, by decide +kernel, by decide +kernel, by decide +kernel⟩
set_option maxRecDepth 100000 in
theorem lk_X12_below : LkV yX12_below cX12_below 2 (some .int) 1 := ⟨gw_of 1906 rfl (by decide +kernel), gw_of 1905 (by decide +kernel) (by decide +kernel), gw_of 109 (by decide +kernel) (by decide +kernel), q_in_RX12, by decide +kernel, by decide +kernel, by decide +kernel⟩
set_option maxRecDepth 100000 in
theorem lk_X12_draws : LkV yX12_draws cX12_draws 6 none 0 := ⟨gw_of 1902 rfl (by decide +kernel), gw_of 1901 (by decide +kernel) (by decide +kernel), gw_of 108 (by decide +kernel) (by decide +kernel), q_in_RX12, by decide +kernel, by decide +kernel, by decide +kernel⟩
set_option maxRecDepth 100000 in
theorem lk_X12_drawn : LkV yX12_drawn cX12_drawn 7 (some .int) 5 := ⟨gw_of 1898 rfl (by decide +kernel), gw_of 1896 (by decide +kernel) (by decide +kernel), gw_of 1897 (by decide +kernel) (by decide +kernel), q_in_RX12, by decide +kernel, by decide +kernel, by decide +kernel⟩
set_option maxRecDepth 100000 in
theorem lk_X12_count : LkV yX12_count cX12_count 2 (some .int) 1 := ⟨gw_of 1911 rfl (by decide +kernel), gw_of 1909 (by decide +kernel) (by decide +kernel), gw_of 1910 (by decide +kernel) (by decide +kernel), q_in_RX12, by decide +kernel, by decide +kernel, by decide +kernel⟩
set_option maxRecDepth 100000 in
theorem lk_X12_image : LkV yX12_image cX12_image 3 (some .boolean) 1 := ⟨gw_of 1915 rfl (by decide +kernel), gw_of 1913 (by decide +kernel) (by decide +kernel), gw_of 1914 (by decide +kernel) (by decide +kernel), q_in_RX12, by decide +kernel, by decide +kernel, by decide +kernel⟩
set_option maxRecDepth 100000 in
theorem lk_X12_again : LkV yX12_again cX12_again 3 (some .boolean) 1 := ⟨gw_of 1919 rfl (by decide +kernel), gw_of 1917 (by decide +kernel) (by decide +kernel), gw_of 1918 (by decide +kernel) (by decide +kernel), q_in_RX12, by decide +kernel, by decide +kernel, by decide +kernel⟩
set_option maxRecDepth 100000 in
theorem lk_X11_image : LkV yX11_image cX11_image 2 (some .boolean) 1 := ⟨gw_of 1333 rfl (by decide +kernel), gw_of 1331 (by decide +kernel) (by decide +kernel), gw_of 1332 (by decide +kernel) (by decide +kernel), q_in_RX11, by decide +kernel, by decide +kernel, by decide +kernel⟩
set_option maxRecDepth 100000 in
theorem lk_X11_again : LkV yX11_again cX11_again 2 (some .boolean) 1 := ⟨gw_of 1346 rfl (by decide +kernel), gw_of 1344 (by decide +kernel) (by decide +kernel), gw_of 1345 (by decide +kernel) (by decide +kernel), q_in_RX11, by decide +kernel, by decide +kernel, by decide +kernel⟩
