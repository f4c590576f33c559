section
variable {p : Program} {l : Launch} {e : Env} {s : State} {m : MethodId} {args : Array Value} {below : List Frame} {meth : Method} {c : Code} {G : GG} {Q : State → Prop} {cells slots : Nat} {b L : Nat} {xs : Nat → Int32}
set_option maxHeartbeats 4000000 in
set_option maxRecDepth 100000 in
theorem law_c0 {Inv : SK → MM → Prop} (hInv : ∀ K M, Inv K M → KI K) (E : E0 Inv) (C : CX p s m args meth c cL_law 4 (some .boolean) RL G) (hX : va_X b L xs s s.heap) (hbl : b < s.heap.size) (hbA : ¬ AG G b) {i : Nat} (hi : i + 6 ≤ L) (hL : L ≤ 3072) {K : SK} {M : MM} (hI : Inv K M) (hcb : cells ≤ 590000 ∧ slots ≤ 7200000) (hk : ∀ (K2 : SK) (M2 : MM), Inv K2 M2 → Z p l e room_1 s m args below meth c 4 G Q K2 cells slots M2 1780 [(0, .ref b), (1, .ref (G.1 + 0)), (2, .ref (G.1 + 90)), (3, .int (nI i))] []) : Z p l e room_1 s m args below meth c 4 G Q K cells slots M 184 [(0, .ref b), (1, .ref (G.1 + 0)), (2, .ref (G.1 + 90)), (3, .int (nI i))] [] := by
  have hLay := (hInv K M hI).1
  have hcs : cells ≤ room_1.cells ∧ slots ≤ room_1.slots := ⟨Nat.le_trans hcb.1 (by decide), Nat.le_trans hcb.2 (by decide)⟩
  refine z_aload_n C 1 1 dL_law_184 rfl rfl ?_
  refine z_aload_n C 0 0 dL_law_185 rfl rfl ?_
  refine z_iload_n C 3 3 dL_law_186 rfl rfl ?_
  refine z_iconst C 1 dL_law_187 (by decide) ?_
  refine z_iadd C dL_law_188 ?_
  refine z_sldk C hX hbl hbA 1 rfl (by omega) hL dL_law_189 ?_
  refine z_aload_n C 0 0 dL_law_190 rfl rfl ?_
  refine z_iload_n C 3 3 dL_law_191 rfl rfl ?_
  refine z_iconst C 2 dL_law_192 (by decide) ?_
  refine z_iadd C dL_law_193 ?_
  refine z_sldk C hX hbl hbA 2 rfl (by omega) hL dL_law_194 ?_
  refine z_aload_n C 0 0 dL_law_195 rfl rfl ?_
  refine z_iload_n C 3 3 dL_law_196 rfl rfl ?_
  refine z_iconst C 3 dL_law_197 (by decide) ?_
  refine z_iadd C dL_law_198 ?_
  refine z_sldk C hX hbl hbA 3 rfl (by omega) hL dL_law_199 ?_
  refine z_aload_n C 0 0 dL_law_200 rfl rfl ?_
  refine z_iload_n C 3 3 dL_law_201 rfl rfl ?_
  refine z_iconst C 4 dL_law_202 (by decide) ?_
  refine z_iadd C dL_law_203 ?_
  refine z_sldk C hX hbl hbA 4 rfl (by omega) hL dL_law_204 ?_
  refine z_aload_n C 0 0 dL_law_205 rfl rfl ?_
  refine z_iload_n C 3 3 dL_law_206 rfl rfl ?_
  refine z_iconst C 5 dL_law_207 (by decide) ?_
  refine z_iadd C dL_law_208 ?_
  refine z_sldk C hX hbl hbA 5 rfl (by omega) hL dL_law_209 ?_
  obtain ⟨r, M1, M2, e1, e2, hI2⟩ := E K M (xs (i + 1)) (xs (i + 2)) (xs (i + 3)) (xs (i + 4)) (xs (i + 5)) hI
  refine z_cV1 C [] (tX11_feed l G hLay M (xs (i + 1)) (xs (i + 2)) (xs (i + 3)) (xs (i + 4)) (xs (i + 5)) _ e1) lk_X11_feed ok_X11 (lay_c0 hLay) q_ml_L_13 rfl ⟨Nat.le_of_ble_eq_true rfl, Nat.le_of_ble_eq_true rfl⟩ rfl (Nat.le_of_ble_eq_true rfl) hcs dL_law_210 ?_
  have hLay2 := hLay
  refine z_aload_n C 2 2 dL_law_213 rfl rfl ?_
  refine z_aload_n C 0 0 dL_law_214 rfl rfl ?_
  refine z_iload_n C 3 3 dL_law_215 rfl rfl ?_
  refine z_iconst C 1 dL_law_216 (by decide) ?_
  refine z_iadd C dL_law_217 ?_
  refine z_sldk C hX hbl hbA 1 rfl (by omega) hL dL_law_218 ?_
  refine z_aload_n C 0 0 dL_law_219 rfl rfl ?_
  refine z_iload_n C 3 3 dL_law_220 rfl rfl ?_
  refine z_iconst C 2 dL_law_221 (by decide) ?_
  refine z_iadd C dL_law_222 ?_
  refine z_sldk C hX hbl hbA 2 rfl (by omega) hL dL_law_223 ?_
  refine z_aload_n C 0 0 dL_law_224 rfl rfl ?_
  refine z_iload_n C 3 3 dL_law_225 rfl rfl ?_
  refine z_iconst C 3 dL_law_226 (by decide) ?_
  refine z_iadd C dL_law_227 ?_
  refine z_sldk C hX hbl hbA 3 rfl (by omega) hL dL_law_228 ?_
  refine z_aload_n C 0 0 dL_law_229 rfl rfl ?_
  refine z_iload_n C 3 3 dL_law_230 rfl rfl ?_
  refine z_iconst C 4 dL_law_231 (by decide) ?_
  refine z_iadd C dL_law_232 ?_
  refine z_sldk C hX hbl hbA 4 rfl (by omega) hL dL_law_233 ?_
  refine z_aload_n C 0 0 dL_law_234 rfl rfl ?_
  refine z_iload_n C 3 3 dL_law_235 rfl rfl ?_
  refine z_iconst C 5 dL_law_236 (by decide) ?_
  refine z_iadd C dL_law_237 ?_
  refine z_sldk C hX hbl hbA 5 rfl (by omega) hL dL_law_238 ?_
  refine z_cV1 C [.int r] (tX12_feed l G hLay2 M1 (xs (i + 1)) (xs (i + 2)) (xs (i + 3)) (xs (i + 4)) (xs (i + 5)) _ e2) lk_X12_feed ok_X12 (lay_c90 hLay2) q_ml_L_17 rfl ⟨Nat.le_of_ble_eq_true rfl, Nat.le_of_ble_eq_true rfl⟩ rfl (Nat.le_of_ble_eq_true rfl) hcs dL_law_239 ?_
  refine z_icmp_eq C 1780 dL_law_242 (by decide) (fun _ => ?_) (fun h => absurd rfl h)
  exact hk K M2 hI2
set_option maxHeartbeats 4000000 in
set_option maxRecDepth 100000 in
theorem law_c1 {Inv : SK → MM → Prop} (hInv : ∀ K M, Inv K M → KI K) (E : E1 Inv) (C : CX p s m args meth c cL_law 4 (some .boolean) RL G) (hX : va_X b L xs s s.heap) (hbl : b < s.heap.size) (hbA : ¬ AG G b) {i : Nat} (hi : i + 6 ≤ L) (hL : L ≤ 3072) {K : SK} {M : MM} (hI : Inv K M) (hcb : cells ≤ 590000 ∧ slots ≤ 7200000) (hk : ∀ (K2 : SK) (M2 : MM), Inv K2 M2 → Z p l e room_1 s m args below meth c 4 G Q K2 cells slots M2 1780 [(0, .ref b), (1, .ref (G.1 + 0)), (2, .ref (G.1 + 90)), (3, .int (nI i))] []) : Z p l e room_1 s m args below meth c 4 G Q K cells slots M 247 [(0, .ref b), (1, .ref (G.1 + 0)), (2, .ref (G.1 + 90)), (3, .int (nI i))] [] := by
  have hLay := (hInv K M hI).1
  have hcs : cells ≤ room_1.cells ∧ slots ≤ room_1.slots := ⟨Nat.le_trans hcb.1 (by decide), Nat.le_trans hcb.2 (by decide)⟩
  refine z_aload_n C 1 1 dL_law_247 rfl rfl ?_
  refine z_aload_n C 0 0 dL_law_248 rfl rfl ?_
  refine z_iload_n C 3 3 dL_law_249 rfl rfl ?_
  refine z_iconst C 1 dL_law_250 (by decide) ?_
  refine z_iadd C dL_law_251 ?_
  refine z_sldk C hX hbl hbA 1 rfl (by omega) hL dL_law_252 ?_
  obtain ⟨r, M1, M2, e1, e2, hI2⟩ := E K M (xs (i + 1)) hI
  refine z_cV1 C [] (tX11_end l G hLay M (xs (i + 1)) _ e1) lk_X11_end ok_X11 (lay_c0 hLay) q_ml_L_18 rfl ⟨Nat.le_of_ble_eq_true rfl, Nat.le_of_ble_eq_true rfl⟩ rfl (Nat.le_of_ble_eq_true rfl) hcs dL_law_253 ?_
  have hLay2 := hLay
  refine z_aload_n C 2 2 dL_law_256 rfl rfl ?_
  refine z_aload_n C 0 0 dL_law_257 rfl rfl ?_
  refine z_iload_n C 3 3 dL_law_258 rfl rfl ?_
  refine z_iconst C 1 dL_law_259 (by decide) ?_
  refine z_iadd C dL_law_260 ?_
  refine z_sldk C hX hbl hbA 1 rfl (by omega) hL dL_law_261 ?_
  refine z_cV1 C [.int r] (tX12_end l G hLay2 M1 (xs (i + 1)) _ e2) lk_X12_end ok_X12 (lay_c90 hLay2) q_ml_L_22 rfl ⟨Nat.le_of_ble_eq_true rfl, Nat.le_of_ble_eq_true rfl⟩ rfl (Nat.le_of_ble_eq_true rfl) hcs dL_law_262 ?_
  refine z_icmp_eq C 1780 dL_law_265 (by decide) (fun _ => ?_) (fun h => absurd rfl h)
  exact hk K M2 hI2
set_option maxHeartbeats 4000000 in
set_option maxRecDepth 100000 in
theorem law_c2 {Inv : SK → MM → Prop} (hInv : ∀ K M, Inv K M → KI K) (E : E2 Inv) (C : CX p s m args meth c cL_law 4 (some .boolean) RL G) (hX : va_X b L xs s s.heap) (hbl : b < s.heap.size) (hbA : ¬ AG G b) {i : Nat} (hi : i + 6 ≤ L) (hL : L ≤ 3072) {K : SK} {M : MM} (hI : Inv K M) (hcb : cells ≤ 590000 ∧ slots ≤ 7200000) (hk : ∀ (K2 : SK) (M2 : MM), Inv K2 M2 → Z p l e room_1 s m args below meth c 4 G Q K2 cells slots M2 1780 [(0, .ref b), (1, .ref (G.1 + 0)), (2, .ref (G.1 + 90)), (3, .int (nI i))] []) : Z p l e room_1 s m args below meth c 4 G Q K cells slots M 270 [(0, .ref b), (1, .ref (G.1 + 0)), (2, .ref (G.1 + 90)), (3, .int (nI i))] [] := by
  have hLay := (hInv K M hI).1
  have hcs : cells ≤ room_1.cells ∧ slots ≤ room_1.slots := ⟨Nat.le_trans hcb.1 (by decide), Nat.le_trans hcb.2 (by decide)⟩
  have hcs2 : cells + 0 ≤ room_1.cells ∧ slots + 0 ≤ room_1.slots := hcs
  refine z_aload_n C 1 1 dL_law_270 rfl rfl ?_
  refine z_aload_n C 0 0 dL_law_271 rfl rfl ?_
  refine z_iload_n C 3 3 dL_law_272 rfl rfl ?_
  refine z_iconst C 1 dL_law_273 (by decide) ?_
  refine z_iadd C dL_law_274 ?_
  refine z_sldk C hX hbl hbA 1 rfl (by omega) hL dL_law_275 ?_
  refine z_aload_n C 0 0 dL_law_276 rfl rfl ?_
  refine z_iload_n C 3 3 dL_law_277 rfl rfl ?_
  refine z_iconst C 2 dL_law_278 (by decide) ?_
  refine z_iadd C dL_law_279 ?_
  refine z_sldk C hX hbl hbA 2 rfl (by omega) hL dL_law_280 ?_
  obtain ⟨r, M1, M2, fl, e1, e2, hI2⟩ := E K M (xs (i + 1)) (xs (i + 2)) hI
  refine z_cV1K C [] (tX11_text l G hLay M (xs (i + 1)) (xs (i + 2)) _ e1) lk_X11_text ok_X11 (lay_c0 hLay) q_ml_L_23 rfl ⟨Nat.le_of_ble_eq_true rfl, Nat.le_of_ble_eq_true rfl⟩ rfl (Nat.le_of_ble_eq_true rfl) hcs2 dL_law_281 ?_
  have hLay2 := (hInv _ _ hI2).1
  refine z_aload_n C 2 2 dL_law_284 rfl rfl ?_
  refine z_aload_n C 0 0 dL_law_285 rfl rfl ?_
  refine z_iload_n C 3 3 dL_law_286 rfl rfl ?_
  refine z_iconst C 1 dL_law_287 (by decide) ?_
  refine z_iadd C dL_law_288 ?_
  refine z_sldk C hX hbl hbA 1 rfl (by omega) hL dL_law_289 ?_
  refine z_aload_n C 0 0 dL_law_290 rfl rfl ?_
  refine z_iload_n C 3 3 dL_law_291 rfl rfl ?_
  refine z_iconst C 2 dL_law_292 (by decide) ?_
  refine z_iadd C dL_law_293 ?_
  refine z_sldk C hX hbl hbA 2 rfl (by omega) hL dL_law_294 ?_
  refine z_cV1 C [.int r] (tX12_text l G hLay2 M1 (xs (i + 1)) (xs (i + 2)) _ e2) lk_X12_text ok_X12 (lay_c90 hLay2) q_ml_L_27 rfl ⟨Nat.le_of_ble_eq_true rfl, Nat.le_of_ble_eq_true rfl⟩ rfl (Nat.le_of_ble_eq_true rfl) hcs dL_law_295 ?_
  refine z_icmp_eq C 1780 dL_law_298 (by decide) (fun _ => ?_) (fun h => absurd rfl h)
  exact hk _ M2 hI2
set_option maxHeartbeats 4000000 in
set_option maxRecDepth 100000 in
theorem law_c3 {Inv : SK → MM → Prop} (hInv : ∀ K M, Inv K M → KI K) (E : E3 Inv) (C : CX p s m args meth c cL_law 4 (some .boolean) RL G) (hX : va_X b L xs s s.heap) (hbl : b < s.heap.size) (hbA : ¬ AG G b) {i : Nat} (hi : i + 6 ≤ L) (hL : L ≤ 3072) {K : SK} {M : MM} (hI : Inv K M) (hcb : cells ≤ 590000 ∧ slots ≤ 7200000) (hk : ∀ (K2 : SK) (M2 : MM), Inv K2 M2 → Z p l e room_1 s m args below meth c 4 G Q K2 cells slots M2 1780 [(0, .ref b), (1, .ref (G.1 + 0)), (2, .ref (G.1 + 90)), (3, .int (nI i))] []) : Z p l e room_1 s m args below meth c 4 G Q K cells slots M 303 [(0, .ref b), (1, .ref (G.1 + 0)), (2, .ref (G.1 + 90)), (3, .int (nI i))] [] := by
  have hLay := (hInv K M hI).1
  have hcs : cells ≤ room_1.cells ∧ slots ≤ room_1.slots := ⟨Nat.le_trans hcb.1 (by decide), Nat.le_trans hcb.2 (by decide)⟩
  refine z_aload_n C 1 1 dL_law_303 rfl rfl ?_
  refine z_aload_n C 0 0 dL_law_304 rfl rfl ?_
  refine z_iload_n C 3 3 dL_law_305 rfl rfl ?_
  refine z_iconst C 1 dL_law_306 (by decide) ?_
  refine z_iadd C dL_law_307 ?_
  refine z_sldk C hX hbl hbA 1 rfl (by omega) hL dL_law_308 ?_
  obtain ⟨r, e1, e2, hI2⟩ := E K M (xs (i + 1)) hI
  refine z_cV1 C [] (tX11_fault l G hLay M (xs (i + 1))) lk_X11_fault ok_X11 (lay_c0 hLay) q_ml_L_28 rfl ⟨Nat.le_of_ble_eq_true rfl, Nat.le_of_ble_eq_true rfl⟩ rfl (Nat.le_of_ble_eq_true rfl) hcs dL_law_309 ?_
  have hLay2 := hLay
  refine z_aload_n C 2 2 dL_law_312 rfl rfl ?_
  refine z_aload_n C 0 0 dL_law_313 rfl rfl ?_
  refine z_iload_n C 3 3 dL_law_314 rfl rfl ?_
  refine z_iconst C 1 dL_law_315 (by decide) ?_
  refine z_iadd C dL_law_316 ?_
  refine z_sldk C hX hbl hbA 1 rfl (by omega) hL dL_law_317 ?_
  refine z_cV1 C [.int (fX11_fault M (xs (i + 1)))] (tX12_fault l G hLay2 M (xs (i + 1))) lk_X12_fault ok_X12 (lay_c90 hLay2) q_ml_L_31 rfl ⟨Nat.le_of_ble_eq_true rfl, Nat.le_of_ble_eq_true rfl⟩ rfl (Nat.le_of_ble_eq_true rfl) hcs dL_law_318 ?_
  refine z_icmp_eq C 1780 dL_law_321 (by decide) (fun _ => ?_) (fun h => absurd (e1.trans e2.symm) h)
  exact hk K M hI2
set_option maxHeartbeats 4000000 in
set_option maxRecDepth 100000 in
theorem law_c4 {Inv : SK → MM → Prop} (hInv : ∀ K M, Inv K M → KI K) (E : E4 Inv) (C : CX p s m args meth c cL_law 4 (some .boolean) RL G) (hX : va_X b L xs s s.heap) (hbl : b < s.heap.size) (hbA : ¬ AG G b) {i : Nat} (hi : i + 6 ≤ L) (hL : L ≤ 3072) {K : SK} {M : MM} (hI : Inv K M) (hcb : cells ≤ 590000 ∧ slots ≤ 7200000) (hk : ∀ (K2 : SK) (M2 : MM), Inv K2 M2 → Z p l e room_1 s m args below meth c 4 G Q K2 cells slots M2 1780 [(0, .ref b), (1, .ref (G.1 + 0)), (2, .ref (G.1 + 90)), (3, .int (nI i))] []) : Z p l e room_1 s m args below meth c 4 G Q K cells slots M 326 [(0, .ref b), (1, .ref (G.1 + 0)), (2, .ref (G.1 + 90)), (3, .int (nI i))] [] := by
  have hLay := (hInv K M hI).1
  have hcs : cells ≤ room_1.cells ∧ slots ≤ room_1.slots := ⟨Nat.le_trans hcb.1 (by decide), Nat.le_trans hcb.2 (by decide)⟩
  refine z_aload_n C 1 1 dL_law_326 rfl rfl ?_
  refine z_aload_n C 0 0 dL_law_327 rfl rfl ?_
  refine z_iload_n C 3 3 dL_law_328 rfl rfl ?_
  refine z_iconst C 1 dL_law_329 (by decide) ?_
  refine z_iadd C dL_law_330 ?_
  refine z_sldk C hX hbl hbA 1 rfl (by omega) hL dL_law_331 ?_
  refine z_aload_n C 0 0 dL_law_332 rfl rfl ?_
  refine z_iload_n C 3 3 dL_law_333 rfl rfl ?_
  refine z_iconst C 2 dL_law_334 (by decide) ?_
  refine z_iadd C dL_law_335 ?_
  refine z_sldk C hX hbl hbA 2 rfl (by omega) hL dL_law_336 ?_
  obtain ⟨r, M2, e1, e2, hI2⟩ := E K M (xs (i + 1)) (xs (i + 2)) hI
  refine z_cV1 C [] (tX11_parish l G hLay M (xs (i + 1)) (xs (i + 2)) _ e1) lk_X11_parish ok_X11 (lay_c0 hLay) q_ml_L_32 rfl ⟨Nat.le_of_ble_eq_true rfl, Nat.le_of_ble_eq_true rfl⟩ rfl (Nat.le_of_ble_eq_true rfl) hcs dL_law_337 ?_
  have hLay2 := hLay
  refine z_aload_n C 2 2 dL_law_340 rfl rfl ?_
  refine z_aload_n C 0 0 dL_law_341 rfl rfl ?_
  refine z_iload_n C 3 3 dL_law_342 rfl rfl ?_
  refine z_iconst C 1 dL_law_343 (by decide) ?_
  refine z_iadd C dL_law_344 ?_
  refine z_sldk C hX hbl hbA 1 rfl (by omega) hL dL_law_345 ?_
  refine z_aload_n C 0 0 dL_law_346 rfl rfl ?_
  refine z_iload_n C 3 3 dL_law_347 rfl rfl ?_
  refine z_iconst C 2 dL_law_348 (by decide) ?_
  refine z_iadd C dL_law_349 ?_
  refine z_sldk C hX hbl hbA 2 rfl (by omega) hL dL_law_350 ?_
  refine z_cV1 C [.int r] (tX12_parish l G hLay2 M (xs (i + 1)) (xs (i + 2)) _ e2) lk_X12_parish ok_X12 (lay_c90 hLay2) q_ml_L_35 rfl ⟨Nat.le_of_ble_eq_true rfl, Nat.le_of_ble_eq_true rfl⟩ rfl (Nat.le_of_ble_eq_true rfl) hcs dL_law_351 ?_
  refine z_icmp_eq C 1780 dL_law_354 (by decide) (fun _ => ?_) (fun h => absurd rfl h)
  exact hk K M2 hI2
set_option maxHeartbeats 4000000 in
set_option maxRecDepth 100000 in
theorem law_c5 {Inv : SK → MM → Prop} (hInv : ∀ K M, Inv K M → KI K) (E : E5 Inv) (C : CX p s m args meth c cL_law 4 (some .boolean) RL G) (hX : va_X b L xs s s.heap) (hbl : b < s.heap.size) (hbA : ¬ AG G b) {i : Nat} (hi : i + 6 ≤ L) (hL : L ≤ 3072) {K : SK} {M : MM} (hI : Inv K M) (hcb : cells ≤ 590000 ∧ slots ≤ 7200000) (hk : ∀ (K2 : SK) (M2 : MM), Inv K2 M2 → Z p l e room_1 s m args below meth c 4 G Q K2 cells slots M2 1780 [(0, .ref b), (1, .ref (G.1 + 0)), (2, .ref (G.1 + 90)), (3, .int (nI i))] []) : Z p l e room_1 s m args below meth c 4 G Q K cells slots M 359 [(0, .ref b), (1, .ref (G.1 + 0)), (2, .ref (G.1 + 90)), (3, .int (nI i))] [] := by
  have hLay := (hInv K M hI).1
  have hcs : cells ≤ room_1.cells ∧ slots ≤ room_1.slots := ⟨Nat.le_trans hcb.1 (by decide), Nat.le_trans hcb.2 (by decide)⟩
  refine z_aload_n C 1 1 dL_law_359 rfl rfl ?_
  refine z_aload_n C 0 0 dL_law_360 rfl rfl ?_
  refine z_iload_n C 3 3 dL_law_361 rfl rfl ?_
  refine z_iconst C 1 dL_law_362 (by decide) ?_
  refine z_iadd C dL_law_363 ?_
  refine z_sldk C hX hbl hbA 1 rfl (by omega) hL dL_law_364 ?_
  refine z_aload_n C 0 0 dL_law_365 rfl rfl ?_
  refine z_iload_n C 3 3 dL_law_366 rfl rfl ?_
  refine z_iconst C 2 dL_law_367 (by decide) ?_
  refine z_iadd C dL_law_368 ?_
  refine z_sldk C hX hbl hbA 2 rfl (by omega) hL dL_law_369 ?_
  obtain ⟨r, M2, e1, e2, hI2⟩ := E K M (xs (i + 1)) (xs (i + 2)) hI
  refine z_cV1 C [] (tX11_square l G hLay M (xs (i + 1)) (xs (i + 2)) _ e1) lk_X11_square ok_X11 (lay_c0 hLay) q_ml_L_36 rfl ⟨Nat.le_of_ble_eq_true rfl, Nat.le_of_ble_eq_true rfl⟩ rfl (Nat.le_of_ble_eq_true rfl) hcs dL_law_370 ?_
  have hLay2 := hLay
  refine z_aload_n C 2 2 dL_law_373 rfl rfl ?_
  refine z_aload_n C 0 0 dL_law_374 rfl rfl ?_
  refine z_iload_n C 3 3 dL_law_375 rfl rfl ?_
  refine z_iconst C 1 dL_law_376 (by decide) ?_
  refine z_iadd C dL_law_377 ?_
  refine z_sldk C hX hbl hbA 1 rfl (by omega) hL dL_law_378 ?_
  refine z_aload_n C 0 0 dL_law_379 rfl rfl ?_
  refine z_iload_n C 3 3 dL_law_380 rfl rfl ?_
  refine z_iconst C 2 dL_law_381 (by decide) ?_
  refine z_iadd C dL_law_382 ?_
  refine z_sldk C hX hbl hbA 2 rfl (by omega) hL dL_law_383 ?_
  refine z_cV1 C [.int r] (tX12_square l G hLay2 M (xs (i + 1)) (xs (i + 2)) _ e2) lk_X12_square ok_X12 (lay_c90 hLay2) q_ml_L_39 rfl ⟨Nat.le_of_ble_eq_true rfl, Nat.le_of_ble_eq_true rfl⟩ rfl (Nat.le_of_ble_eq_true rfl) hcs dL_law_384 ?_
  refine z_icmp_eq C 1780 dL_law_387 (by decide) (fun _ => ?_) (fun h => absurd rfl h)
  exact hk K M2 hI2
set_option maxHeartbeats 4000000 in
set_option maxRecDepth 100000 in
theorem law_c6 {Inv : SK → MM → Prop} (hInv : ∀ K M, Inv K M → KI K) (E : E6 Inv) (C : CX p s m args meth c cL_law 4 (some .boolean) RL G) (hX : va_X b L xs s s.heap) (hbl : b < s.heap.size) (hbA : ¬ AG G b) {i : Nat} (hi : i + 6 ≤ L) (hL : L ≤ 3072) {K : SK} {M : MM} (hI : Inv K M) (hcb : cells ≤ 590000 ∧ slots ≤ 7200000) (hk : ∀ (K2 : SK) (M2 : MM), Inv K2 M2 → Z p l e room_1 s m args below meth c 4 G Q K2 cells slots M2 1780 [(0, .ref b), (1, .ref (G.1 + 0)), (2, .ref (G.1 + 90)), (3, .int (nI i))] []) : Z p l e room_1 s m args below meth c 4 G Q K cells slots M 392 [(0, .ref b), (1, .ref (G.1 + 0)), (2, .ref (G.1 + 90)), (3, .int (nI i))] [] := by
  have hLay := (hInv K M hI).1
  have hcs : cells ≤ room_1.cells ∧ slots ≤ room_1.slots := ⟨Nat.le_trans hcb.1 (by decide), Nat.le_trans hcb.2 (by decide)⟩
  refine z_aload_n C 1 1 dL_law_392 rfl rfl ?_
  refine z_aload_n C 0 0 dL_law_393 rfl rfl ?_
  refine z_iload_n C 3 3 dL_law_394 rfl rfl ?_
  refine z_iconst C 1 dL_law_395 (by decide) ?_
  refine z_iadd C dL_law_396 ?_
  refine z_sldk C hX hbl hbA 1 rfl (by omega) hL dL_law_397 ?_
  refine z_aload_n C 0 0 dL_law_398 rfl rfl ?_
  refine z_iload_n C 3 3 dL_law_399 rfl rfl ?_
  refine z_iconst C 2 dL_law_400 (by decide) ?_
  refine z_iadd C dL_law_401 ?_
  refine z_sldk C hX hbl hbA 2 rfl (by omega) hL dL_law_402 ?_
  obtain ⟨r, M2, e1, e2, hI2⟩ := E K M (xs (i + 1)) (xs (i + 2)) hI
  refine z_cV1 C [] (tX11_law l G hLay M (xs (i + 1)) (xs (i + 2)) _ e1) lk_X11_law ok_X11 (lay_c0 hLay) q_ml_L_40 rfl ⟨Nat.le_of_ble_eq_true rfl, Nat.le_of_ble_eq_true rfl⟩ rfl (Nat.le_of_ble_eq_true rfl) hcs dL_law_403 ?_
  have hLay2 := hLay
  refine z_aload_n C 2 2 dL_law_406 rfl rfl ?_
  refine z_aload_n C 0 0 dL_law_407 rfl rfl ?_
  refine z_iload_n C 3 3 dL_law_408 rfl rfl ?_
  refine z_iconst C 1 dL_law_409 (by decide) ?_
  refine z_iadd C dL_law_410 ?_
  refine z_sldk C hX hbl hbA 1 rfl (by omega) hL dL_law_411 ?_
  refine z_aload_n C 0 0 dL_law_412 rfl rfl ?_
  refine z_iload_n C 3 3 dL_law_413 rfl rfl ?_
  refine z_iconst C 2 dL_law_414 (by decide) ?_
  refine z_iadd C dL_law_415 ?_
  refine z_sldk C hX hbl hbA 2 rfl (by omega) hL dL_law_416 ?_
  refine z_cV1 C [.int r] (tX12_law l G hLay2 M (xs (i + 1)) (xs (i + 2)) _ e2) lk_X12_law ok_X12 (lay_c90 hLay2) q_ml_L_43 rfl ⟨Nat.le_of_ble_eq_true rfl, Nat.le_of_ble_eq_true rfl⟩ rfl (Nat.le_of_ble_eq_true rfl) hcs dL_law_417 ?_
  refine z_icmp_eq C 1780 dL_law_420 (by decide) (fun _ => ?_) (fun h => absurd rfl h)
  exact hk K M2 hI2
set_option maxHeartbeats 4000000 in
set_option maxRecDepth 100000 in
theorem law_c7 {Inv : SK → MM → Prop} (hInv : ∀ K M, Inv K M → KI K) (E : E7 Inv) (C : CX p s m args meth c cL_law 4 (some .boolean) RL G) (hX : va_X b L xs s s.heap) (hbl : b < s.heap.size) (hbA : ¬ AG G b) {i : Nat} (hi : i + 6 ≤ L) (hL : L ≤ 3072) {K : SK} {M : MM} (hI : Inv K M) (hcb : cells ≤ 590000 ∧ slots ≤ 7200000) (hk : ∀ (K2 : SK) (M2 : MM), Inv K2 M2 → Z p l e room_1 s m args below meth c 4 G Q K2 cells slots M2 1780 [(0, .ref b), (1, .ref (G.1 + 0)), (2, .ref (G.1 + 90)), (3, .int (nI i))] []) : Z p l e room_1 s m args below meth c 4 G Q K cells slots M 425 [(0, .ref b), (1, .ref (G.1 + 0)), (2, .ref (G.1 + 90)), (3, .int (nI i))] [] := by
  have hLay := (hInv K M hI).1
  have hcs : cells ≤ room_1.cells ∧ slots ≤ room_1.slots := ⟨Nat.le_trans hcb.1 (by decide), Nat.le_trans hcb.2 (by decide)⟩
  refine z_aload_n C 1 1 dL_law_425 rfl rfl ?_
  refine z_aload_n C 0 0 dL_law_426 rfl rfl ?_
  refine z_iload_n C 3 3 dL_law_427 rfl rfl ?_
  refine z_iconst C 1 dL_law_428 (by decide) ?_
  refine z_iadd C dL_law_429 ?_
  refine z_sldk C hX hbl hbA 1 rfl (by omega) hL dL_law_430 ?_
  refine z_aload_n C 0 0 dL_law_431 rfl rfl ?_
  refine z_iload_n C 3 3 dL_law_432 rfl rfl ?_
  refine z_iconst C 2 dL_law_433 (by decide) ?_
  refine z_iadd C dL_law_434 ?_
  refine z_sldk C hX hbl hbA 2 rfl (by omega) hL dL_law_435 ?_
  refine z_aload_n C 0 0 dL_law_436 rfl rfl ?_
  refine z_iload_n C 3 3 dL_law_437 rfl rfl ?_
  refine z_iconst C 3 dL_law_438 (by decide) ?_
  refine z_iadd C dL_law_439 ?_
  refine z_sldk C hX hbl hbA 3 rfl (by omega) hL dL_law_440 ?_
  obtain ⟨r, M2, e1, e2, hI2⟩ := E K M (xs (i + 1)) (xs (i + 2)) (xs (i + 3)) hI
  refine z_cV1 C [] (tX11_deed l G hLay M (xs (i + 1)) (xs (i + 2)) (xs (i + 3)) _ e1) lk_X11_deed ok_X11 (lay_c0 hLay) q_ml_L_44 rfl ⟨Nat.le_of_ble_eq_true rfl, Nat.le_of_ble_eq_true rfl⟩ rfl (Nat.le_of_ble_eq_true rfl) hcs dL_law_441 ?_
  have hLay2 := hLay
  refine z_aload_n C 2 2 dL_law_444 rfl rfl ?_
  refine z_aload_n C 0 0 dL_law_445 rfl rfl ?_
  refine z_iload_n C 3 3 dL_law_446 rfl rfl ?_
  refine z_iconst C 1 dL_law_447 (by decide) ?_
  refine z_iadd C dL_law_448 ?_
  refine z_sldk C hX hbl hbA 1 rfl (by omega) hL dL_law_449 ?_
  refine z_aload_n C 0 0 dL_law_450 rfl rfl ?_
  refine z_iload_n C 3 3 dL_law_451 rfl rfl ?_
  refine z_iconst C 2 dL_law_452 (by decide) ?_
  refine z_iadd C dL_law_453 ?_
  refine z_sldk C hX hbl hbA 2 rfl (by omega) hL dL_law_454 ?_
  refine z_aload_n C 0 0 dL_law_455 rfl rfl ?_
  refine z_iload_n C 3 3 dL_law_456 rfl rfl ?_
  refine z_iconst C 3 dL_law_457 (by decide) ?_
  refine z_iadd C dL_law_458 ?_
  refine z_sldk C hX hbl hbA 3 rfl (by omega) hL dL_law_459 ?_
  refine z_cV1 C [.int r] (tX12_deed l G hLay2 M (xs (i + 1)) (xs (i + 2)) (xs (i + 3)) _ e2) lk_X12_deed ok_X12 (lay_c90 hLay2) q_ml_L_48 rfl ⟨Nat.le_of_ble_eq_true rfl, Nat.le_of_ble_eq_true rfl⟩ rfl (Nat.le_of_ble_eq_true rfl) hcs dL_law_460 ?_
  refine z_icmp_eq C 1780 dL_law_463 (by decide) (fun _ => ?_) (fun h => absurd rfl h)
  exact hk K M2 hI2
set_option maxHeartbeats 4000000 in
set_option maxRecDepth 100000 in
theorem law_c8 {Inv : SK → MM → Prop} (hInv : ∀ K M, Inv K M → KI K) (E : E8 Inv) (C : CX p s m args meth c cL_law 4 (some .boolean) RL G) (hX : va_X b L xs s s.heap) (hbl : b < s.heap.size) (hbA : ¬ AG G b) {i : Nat} (hi : i + 6 ≤ L) (hL : L ≤ 3072) {K : SK} {M : MM} (hI : Inv K M) (hcb : cells ≤ 590000 ∧ slots ≤ 7200000) (hk : ∀ (K2 : SK) (M2 : MM), Inv K2 M2 → Z p l e room_1 s m args below meth c 4 G Q K2 cells slots M2 1780 [(0, .ref b), (1, .ref (G.1 + 0)), (2, .ref (G.1 + 90)), (3, .int (nI i))] []) : Z p l e room_1 s m args below meth c 4 G Q K cells slots M 468 [(0, .ref b), (1, .ref (G.1 + 0)), (2, .ref (G.1 + 90)), (3, .int (nI i))] [] := by
  have hLay := (hInv K M hI).1
  have hcs : cells ≤ room_1.cells ∧ slots ≤ room_1.slots := ⟨Nat.le_trans hcb.1 (by decide), Nat.le_trans hcb.2 (by decide)⟩
  refine z_aload_n C 1 1 dL_law_468 rfl rfl ?_
  refine z_aload_n C 0 0 dL_law_469 rfl rfl ?_
  refine z_iload_n C 3 3 dL_law_470 rfl rfl ?_
  refine z_iconst C 1 dL_law_471 (by decide) ?_
  refine z_iadd C dL_law_472 ?_
  refine z_sldk C hX hbl hbA 1 rfl (by omega) hL dL_law_473 ?_
  refine z_aload_n C 0 0 dL_law_474 rfl rfl ?_
  refine z_iload_n C 3 3 dL_law_475 rfl rfl ?_
  refine z_iconst C 2 dL_law_476 (by decide) ?_
  refine z_iadd C dL_law_477 ?_
  refine z_sldk C hX hbl hbA 2 rfl (by omega) hL dL_law_478 ?_
  refine z_aload_n C 0 0 dL_law_479 rfl rfl ?_
  refine z_iload_n C 3 3 dL_law_480 rfl rfl ?_
  refine z_iconst C 3 dL_law_481 (by decide) ?_
  refine z_iadd C dL_law_482 ?_
  refine z_sldk C hX hbl hbA 3 rfl (by omega) hL dL_law_483 ?_
  obtain ⟨r, M1, M2, e1, e2, hI2⟩ := E K M (xs (i + 1)) (xs (i + 2)) (xs (i + 3)) hI
  refine z_cV1 C [] (tX11_looks l G hLay M (xs (i + 1)) (xs (i + 2)) (xs (i + 3)) _ e1) lk_X11_looks ok_X11 (lay_c0 hLay) q_ml_L_49 rfl ⟨Nat.le_of_ble_eq_true rfl, Nat.le_of_ble_eq_true rfl⟩ rfl (Nat.le_of_ble_eq_true rfl) hcs dL_law_484 ?_
  have hLay2 := hLay
  refine z_aload_n C 2 2 dL_law_487 rfl rfl ?_
  refine z_aload_n C 0 0 dL_law_488 rfl rfl ?_
  refine z_iload_n C 3 3 dL_law_489 rfl rfl ?_
  refine z_iconst C 1 dL_law_490 (by decide) ?_
  refine z_iadd C dL_law_491 ?_
  refine z_sldk C hX hbl hbA 1 rfl (by omega) hL dL_law_492 ?_
  refine z_aload_n C 0 0 dL_law_493 rfl rfl ?_
  refine z_iload_n C 3 3 dL_law_494 rfl rfl ?_
  refine z_iconst C 2 dL_law_495 (by decide) ?_
  refine z_iadd C dL_law_496 ?_
  refine z_sldk C hX hbl hbA 2 rfl (by omega) hL dL_law_497 ?_
  refine z_aload_n C 0 0 dL_law_498 rfl rfl ?_
  refine z_iload_n C 3 3 dL_law_499 rfl rfl ?_
  refine z_iconst C 3 dL_law_500 (by decide) ?_
  refine z_iadd C dL_law_501 ?_
  refine z_sldk C hX hbl hbA 3 rfl (by omega) hL dL_law_502 ?_
  refine z_cV1 C [.int r] (tX12_looks l G hLay2 M1 (xs (i + 1)) (xs (i + 2)) (xs (i + 3)) _ e2) lk_X12_looks ok_X12 (lay_c90 hLay2) q_ml_L_52 rfl ⟨Nat.le_of_ble_eq_true rfl, Nat.le_of_ble_eq_true rfl⟩ rfl (Nat.le_of_ble_eq_true rfl) hcs dL_law_503 ?_
  refine z_icmp_eq C 1780 dL_law_506 (by decide) (fun _ => ?_) (fun h => absurd rfl h)
  exact hk K M2 hI2
set_option maxHeartbeats 4000000 in
set_option maxRecDepth 100000 in
theorem law_c9 {Inv : SK → MM → Prop} (hInv : ∀ K M, Inv K M → KI K) (E : E9 Inv) (C : CX p s m args meth c cL_law 4 (some .boolean) RL G) (hX : va_X b L xs s s.heap) (hbl : b < s.heap.size) (hbA : ¬ AG G b) {i : Nat} (hi : i + 6 ≤ L) (hL : L ≤ 3072) {K : SK} {M : MM} (hI : Inv K M) (hcb : cells ≤ 590000 ∧ slots ≤ 7200000) (hk : ∀ (K2 : SK) (M2 : MM), Inv K2 M2 → Z p l e room_1 s m args below meth c 4 G Q K2 cells slots M2 1780 [(0, .ref b), (1, .ref (G.1 + 0)), (2, .ref (G.1 + 90)), (3, .int (nI i))] []) : Z p l e room_1 s m args below meth c 4 G Q K cells slots M 511 [(0, .ref b), (1, .ref (G.1 + 0)), (2, .ref (G.1 + 90)), (3, .int (nI i))] [] := by
  have hLay := (hInv K M hI).1
  have hcs : cells ≤ room_1.cells ∧ slots ≤ room_1.slots := ⟨Nat.le_trans hcb.1 (by decide), Nat.le_trans hcb.2 (by decide)⟩
  refine z_aload_n C 1 1 dL_law_511 rfl rfl ?_
  refine z_aload_n C 0 0 dL_law_512 rfl rfl ?_
  refine z_iload_n C 3 3 dL_law_513 rfl rfl ?_
  refine z_iconst C 1 dL_law_514 (by decide) ?_
  refine z_iadd C dL_law_515 ?_
  refine z_sldk C hX hbl hbA 1 rfl (by omega) hL dL_law_516 ?_
  refine z_aload_n C 0 0 dL_law_517 rfl rfl ?_
  refine z_iload_n C 3 3 dL_law_518 rfl rfl ?_
  refine z_iconst C 2 dL_law_519 (by decide) ?_
  refine z_iadd C dL_law_520 ?_
  refine z_sldk C hX hbl hbA 2 rfl (by omega) hL dL_law_521 ?_
  refine z_aload_n C 0 0 dL_law_522 rfl rfl ?_
  refine z_iload_n C 3 3 dL_law_523 rfl rfl ?_
  refine z_iconst C 3 dL_law_524 (by decide) ?_
  refine z_iadd C dL_law_525 ?_
  refine z_sldk C hX hbl hbA 3 rfl (by omega) hL dL_law_526 ?_
  obtain ⟨r, M1, M2, e1, e2, hI2⟩ := E K M (xs (i + 1)) (xs (i + 2)) (xs (i + 3)) hI
  refine z_cV1 C [] (tX11_degree l G hLay M (xs (i + 1)) (xs (i + 2)) (xs (i + 3)) _ e1) lk_X11_degree ok_X11 (lay_c0 hLay) q_ml_L_53 rfl ⟨Nat.le_of_ble_eq_true rfl, Nat.le_of_ble_eq_true rfl⟩ rfl (Nat.le_of_ble_eq_true rfl) hcs dL_law_527 ?_
  have hLay2 := hLay
  refine z_aload_n C 2 2 dL_law_530 rfl rfl ?_
  refine z_aload_n C 0 0 dL_law_531 rfl rfl ?_
  refine z_iload_n C 3 3 dL_law_532 rfl rfl ?_
  refine z_iconst C 1 dL_law_533 (by decide) ?_
  refine z_iadd C dL_law_534 ?_
  refine z_sldk C hX hbl hbA 1 rfl (by omega) hL dL_law_535 ?_
  refine z_aload_n C 0 0 dL_law_536 rfl rfl ?_
  refine z_iload_n C 3 3 dL_law_537 rfl rfl ?_
  refine z_iconst C 2 dL_law_538 (by decide) ?_
  refine z_iadd C dL_law_539 ?_
  refine z_sldk C hX hbl hbA 2 rfl (by omega) hL dL_law_540 ?_
  refine z_aload_n C 0 0 dL_law_541 rfl rfl ?_
  refine z_iload_n C 3 3 dL_law_542 rfl rfl ?_
  refine z_iconst C 3 dL_law_543 (by decide) ?_
  refine z_iadd C dL_law_544 ?_
  refine z_sldk C hX hbl hbA 3 rfl (by omega) hL dL_law_545 ?_
  refine z_cV1 C [.int r] (tX12_degree l G hLay2 M1 (xs (i + 1)) (xs (i + 2)) (xs (i + 3)) _ e2) lk_X12_degree ok_X12 (lay_c90 hLay2) q_ml_L_56 rfl ⟨Nat.le_of_ble_eq_true rfl, Nat.le_of_ble_eq_true rfl⟩ rfl (Nat.le_of_ble_eq_true rfl) hcs dL_law_546 ?_
  refine z_icmp_eq C 1780 dL_law_549 (by decide) (fun _ => ?_) (fun h => absurd rfl h)
  exact hk K M2 hI2
set_option maxHeartbeats 4000000 in
set_option maxRecDepth 100000 in
theorem law_c10 {Inv : SK → MM → Prop} (hInv : ∀ K M, Inv K M → KI K) (E : E10 Inv) (C : CX p s m args meth c cL_law 4 (some .boolean) RL G) (hX : va_X b L xs s s.heap) (hbl : b < s.heap.size) (hbA : ¬ AG G b) {i : Nat} (hi : i + 6 ≤ L) (hL : L ≤ 3072) {K : SK} {M : MM} (hI : Inv K M) (hcb : cells ≤ 590000 ∧ slots ≤ 7200000) (hk : ∀ (K2 : SK) (M2 : MM), Inv K2 M2 → Z p l e room_1 s m args below meth c 4 G Q K2 cells slots M2 1780 [(0, .ref b), (1, .ref (G.1 + 0)), (2, .ref (G.1 + 90)), (3, .int (nI i))] []) : Z p l e room_1 s m args below meth c 4 G Q K cells slots M 554 [(0, .ref b), (1, .ref (G.1 + 0)), (2, .ref (G.1 + 90)), (3, .int (nI i))] [] := by
  have hLay := (hInv K M hI).1
  have hcs : cells ≤ room_1.cells ∧ slots ≤ room_1.slots := ⟨Nat.le_trans hcb.1 (by decide), Nat.le_trans hcb.2 (by decide)⟩
  refine z_aload_n C 1 1 dL_law_554 rfl rfl ?_
  refine z_aload_n C 0 0 dL_law_555 rfl rfl ?_
  refine z_iload_n C 3 3 dL_law_556 rfl rfl ?_
  refine z_iconst C 1 dL_law_557 (by decide) ?_
  refine z_iadd C dL_law_558 ?_
  refine z_sldk C hX hbl hbA 1 rfl (by omega) hL dL_law_559 ?_
  refine z_aload_n C 0 0 dL_law_560 rfl rfl ?_
  refine z_iload_n C 3 3 dL_law_561 rfl rfl ?_
  refine z_iconst C 2 dL_law_562 (by decide) ?_
  refine z_iadd C dL_law_563 ?_
  refine z_sldk C hX hbl hbA 2 rfl (by omega) hL dL_law_564 ?_
  refine z_aload_n C 0 0 dL_law_565 rfl rfl ?_
  refine z_iload_n C 3 3 dL_law_566 rfl rfl ?_
  refine z_iconst C 3 dL_law_567 (by decide) ?_
  refine z_iadd C dL_law_568 ?_
  refine z_sldk C hX hbl hbA 3 rfl (by omega) hL dL_law_569 ?_
  obtain ⟨r, M1, M2, e1, e2, hI2⟩ := E K M (xs (i + 1)) (xs (i + 2)) (xs (i + 3)) hI
  refine z_cV1 C [] (tX11_counted l G hLay M (xs (i + 1)) (xs (i + 2)) (xs (i + 3)) _ e1) lk_X11_counted ok_X11 (lay_c0 hLay) q_ml_L_57 rfl ⟨Nat.le_of_ble_eq_true rfl, Nat.le_of_ble_eq_true rfl⟩ rfl (Nat.le_of_ble_eq_true rfl) hcs dL_law_570 ?_
  have hLay2 := hLay
  refine z_aload_n C 2 2 dL_law_573 rfl rfl ?_
  refine z_aload_n C 0 0 dL_law_574 rfl rfl ?_
  refine z_iload_n C 3 3 dL_law_575 rfl rfl ?_
  refine z_iconst C 1 dL_law_576 (by decide) ?_
  refine z_iadd C dL_law_577 ?_
  refine z_sldk C hX hbl hbA 1 rfl (by omega) hL dL_law_578 ?_
  refine z_aload_n C 0 0 dL_law_579 rfl rfl ?_
  refine z_iload_n C 3 3 dL_law_580 rfl rfl ?_
  refine z_iconst C 2 dL_law_581 (by decide) ?_
  refine z_iadd C dL_law_582 ?_
  refine z_sldk C hX hbl hbA 2 rfl (by omega) hL dL_law_583 ?_
  refine z_aload_n C 0 0 dL_law_584 rfl rfl ?_
  refine z_iload_n C 3 3 dL_law_585 rfl rfl ?_
  refine z_iconst C 3 dL_law_586 (by decide) ?_
  refine z_iadd C dL_law_587 ?_
  refine z_sldk C hX hbl hbA 3 rfl (by omega) hL dL_law_588 ?_
  refine z_cV1 C [.int r] (tX12_counted l G hLay2 M1 (xs (i + 1)) (xs (i + 2)) (xs (i + 3)) _ e2) lk_X12_counted ok_X12 (lay_c90 hLay2) q_ml_L_60 rfl ⟨Nat.le_of_ble_eq_true rfl, Nat.le_of_ble_eq_true rfl⟩ rfl (Nat.le_of_ble_eq_true rfl) hcs dL_law_589 ?_
  refine z_icmp_eq C 1780 dL_law_592 (by decide) (fun _ => ?_) (fun h => absurd rfl h)
  exact hk K M2 hI2
set_option maxHeartbeats 4000000 in
set_option maxRecDepth 100000 in
theorem law_c11 {Inv : SK → MM → Prop} (hInv : ∀ K M, Inv K M → KI K) (E : E11 Inv) (C : CX p s m args meth c cL_law 4 (some .boolean) RL G) (hX : va_X b L xs s s.heap) (hbl : b < s.heap.size) (hbA : ¬ AG G b) {i : Nat} (hi : i + 6 ≤ L) (hL : L ≤ 3072) {K : SK} {M : MM} (hI : Inv K M) (hcb : cells ≤ 590000 ∧ slots ≤ 7200000) (hk : ∀ (K2 : SK) (M2 : MM), Inv K2 M2 → Z p l e room_1 s m args below meth c 4 G Q K2 cells slots M2 1780 [(0, .ref b), (1, .ref (G.1 + 0)), (2, .ref (G.1 + 90)), (3, .int (nI i))] []) : Z p l e room_1 s m args below meth c 4 G Q K cells slots M 597 [(0, .ref b), (1, .ref (G.1 + 0)), (2, .ref (G.1 + 90)), (3, .int (nI i))] [] := by
  have hLay := (hInv K M hI).1
  have hcs : cells ≤ room_1.cells ∧ slots ≤ room_1.slots := ⟨Nat.le_trans hcb.1 (by decide), Nat.le_trans hcb.2 (by decide)⟩
  refine z_aload_n C 1 1 dL_law_597 rfl rfl ?_
  refine z_aload_n C 0 0 dL_law_598 rfl rfl ?_
  refine z_iload_n C 3 3 dL_law_599 rfl rfl ?_
  refine z_iconst C 1 dL_law_600 (by decide) ?_
  refine z_iadd C dL_law_601 ?_
  refine z_sldk C hX hbl hbA 1 rfl (by omega) hL dL_law_602 ?_
  refine z_aload_n C 0 0 dL_law_603 rfl rfl ?_
  refine z_iload_n C 3 3 dL_law_604 rfl rfl ?_
  refine z_iconst C 2 dL_law_605 (by decide) ?_
  refine z_iadd C dL_law_606 ?_
  refine z_sldk C hX hbl hbA 2 rfl (by omega) hL dL_law_607 ?_
  refine z_aload_n C 0 0 dL_law_608 rfl rfl ?_
  refine z_iload_n C 3 3 dL_law_609 rfl rfl ?_
  refine z_iconst C 3 dL_law_610 (by decide) ?_
  refine z_iadd C dL_law_611 ?_
  refine z_sldk C hX hbl hbA 3 rfl (by omega) hL dL_law_612 ?_
  refine z_aload_n C 0 0 dL_law_613 rfl rfl ?_
  refine z_iload_n C 3 3 dL_law_614 rfl rfl ?_
  refine z_iconst C 4 dL_law_615 (by decide) ?_
  refine z_iadd C dL_law_616 ?_
  refine z_sldk C hX hbl hbA 4 rfl (by omega) hL dL_law_617 ?_
  refine z_if_eq C 625 dL_law_618 (by decide) (fun b4 => ?_) (fun b4 => ?_)
  · refine z_iconst C 0 dL_law_625 (by decide) ?_
    obtain ⟨r, M1, M2, e1, e2, hI2⟩ := E K M (xs (i + 1)) (xs (i + 2)) (xs (i + 3)) 0 (Or.inl rfl) hI
    refine z_cV1 C [] (tX11_party l G hLay M (xs (i + 1)) (xs (i + 2)) (xs (i + 3)) 0 _ e1) lk_X11_party ok_X11 (lay_c0 hLay) q_ml_L_61 rfl ⟨Nat.le_of_ble_eq_true rfl, Nat.le_of_ble_eq_true rfl⟩ rfl (Nat.le_of_ble_eq_true rfl) hcs dL_law_626 ?_
    have hLay2 := hLay
    refine z_aload_n C 2 2 dL_law_629 rfl rfl ?_
    refine z_aload_n C 0 0 dL_law_630 rfl rfl ?_
    refine z_iload_n C 3 3 dL_law_631 rfl rfl ?_
    refine z_iconst C 1 dL_law_632 (by decide) ?_
    refine z_iadd C dL_law_633 ?_
    refine z_sldk C hX hbl hbA 1 rfl (by omega) hL dL_law_634 ?_
    refine z_aload_n C 0 0 dL_law_635 rfl rfl ?_
    refine z_iload_n C 3 3 dL_law_636 rfl rfl ?_
    refine z_iconst C 2 dL_law_637 (by decide) ?_
    refine z_iadd C dL_law_638 ?_
    refine z_sldk C hX hbl hbA 2 rfl (by omega) hL dL_law_639 ?_
    refine z_aload_n C 0 0 dL_law_640 rfl rfl ?_
    refine z_iload_n C 3 3 dL_law_641 rfl rfl ?_
    refine z_iconst C 3 dL_law_642 (by decide) ?_
    refine z_iadd C dL_law_643 ?_
    refine z_sldk C hX hbl hbA 3 rfl (by omega) hL dL_law_644 ?_
    refine z_aload_n C 0 0 dL_law_645 rfl rfl ?_
    refine z_iload_n C 3 3 dL_law_646 rfl rfl ?_
    refine z_iconst C 4 dL_law_647 (by decide) ?_
    refine z_iadd C dL_law_648 ?_
    refine z_sldk C hX hbl hbA 4 rfl (by omega) hL dL_law_649 ?_
    refine z_if_eq C 657 dL_law_650 (by decide) (fun _ => ?_) (fun h => absurd b4 h)
    refine z_iconst C 0 dL_law_657 (by decide) ?_
    refine z_cV1 C [.int r] (tX12_party l G hLay2 M1 (xs (i + 1)) (xs (i + 2)) (xs (i + 3)) 0 _ e2) lk_X12_party ok_X12 (lay_c90 hLay2) q_ml_L_65 rfl ⟨Nat.le_of_ble_eq_true rfl, Nat.le_of_ble_eq_true rfl⟩ rfl (Nat.le_of_ble_eq_true rfl) hcs dL_law_658 ?_
    refine z_icmp_eq C 1780 dL_law_661 (by decide) (fun _ => ?_) (fun h => absurd rfl h)
    exact hk K M2 hI2
  · refine z_iconst C 1 dL_law_621 (by decide) ?_
    refine z_goto C 626 dL_law_622 (by decide) ?_
    obtain ⟨r, M1, M2, e1, e2, hI2⟩ := E K M (xs (i + 1)) (xs (i + 2)) (xs (i + 3)) 1 (Or.inr rfl) hI
    refine z_cV1 C [] (tX11_party l G hLay M (xs (i + 1)) (xs (i + 2)) (xs (i + 3)) 1 _ e1) lk_X11_party ok_X11 (lay_c0 hLay) q_ml_L_61 rfl ⟨Nat.le_of_ble_eq_true rfl, Nat.le_of_ble_eq_true rfl⟩ rfl (Nat.le_of_ble_eq_true rfl) hcs dL_law_626 ?_
    have hLay2 := hLay
    refine z_aload_n C 2 2 dL_law_629 rfl rfl ?_
    refine z_aload_n C 0 0 dL_law_630 rfl rfl ?_
    refine z_iload_n C 3 3 dL_law_631 rfl rfl ?_
    refine z_iconst C 1 dL_law_632 (by decide) ?_
    refine z_iadd C dL_law_633 ?_
    refine z_sldk C hX hbl hbA 1 rfl (by omega) hL dL_law_634 ?_
    refine z_aload_n C 0 0 dL_law_635 rfl rfl ?_
    refine z_iload_n C 3 3 dL_law_636 rfl rfl ?_
    refine z_iconst C 2 dL_law_637 (by decide) ?_
    refine z_iadd C dL_law_638 ?_
    refine z_sldk C hX hbl hbA 2 rfl (by omega) hL dL_law_639 ?_
    refine z_aload_n C 0 0 dL_law_640 rfl rfl ?_
    refine z_iload_n C 3 3 dL_law_641 rfl rfl ?_
    refine z_iconst C 3 dL_law_642 (by decide) ?_
    refine z_iadd C dL_law_643 ?_
    refine z_sldk C hX hbl hbA 3 rfl (by omega) hL dL_law_644 ?_
    refine z_aload_n C 0 0 dL_law_645 rfl rfl ?_
    refine z_iload_n C 3 3 dL_law_646 rfl rfl ?_
    refine z_iconst C 4 dL_law_647 (by decide) ?_
    refine z_iadd C dL_law_648 ?_
    refine z_sldk C hX hbl hbA 4 rfl (by omega) hL dL_law_649 ?_
    refine z_if_eq C 657 dL_law_650 (by decide) (fun h => absurd h b4) (fun _ => ?_)
    refine z_iconst C 1 dL_law_653 (by decide) ?_
    refine z_goto C 658 dL_law_654 (by decide) ?_
    refine z_cV1 C [.int r] (tX12_party l G hLay2 M1 (xs (i + 1)) (xs (i + 2)) (xs (i + 3)) 1 _ e2) lk_X12_party ok_X12 (lay_c90 hLay2) q_ml_L_65 rfl ⟨Nat.le_of_ble_eq_true rfl, Nat.le_of_ble_eq_true rfl⟩ rfl (Nat.le_of_ble_eq_true rfl) hcs dL_law_658 ?_
    refine z_icmp_eq C 1780 dL_law_661 (by decide) (fun _ => ?_) (fun h => absurd rfl h)
    exact hk K M2 hI2
set_option maxHeartbeats 4000000 in
set_option maxRecDepth 100000 in
theorem law_c12 {Inv : SK → MM → Prop} (hInv : ∀ K M, Inv K M → KI K) (E : E12 Inv) (C : CX p s m args meth c cL_law 4 (some .boolean) RL G) (hX : va_X b L xs s s.heap) (hbl : b < s.heap.size) (hbA : ¬ AG G b) {i : Nat} (hi : i + 6 ≤ L) (hL : L ≤ 3072) {K : SK} {M : MM} (hI : Inv K M) (hcb : cells ≤ 590000 ∧ slots ≤ 7200000) (hk : ∀ (K2 : SK) (M2 : MM), Inv K2 M2 → Z p l e room_1 s m args below meth c 4 G Q K2 cells slots M2 1780 [(0, .ref b), (1, .ref (G.1 + 0)), (2, .ref (G.1 + 90)), (3, .int (nI i))] []) : Z p l e room_1 s m args below meth c 4 G Q K cells slots M 666 [(0, .ref b), (1, .ref (G.1 + 0)), (2, .ref (G.1 + 90)), (3, .int (nI i))] [] := by
  have hLay := (hInv K M hI).1
  have hcs : cells ≤ room_1.cells ∧ slots ≤ room_1.slots := ⟨Nat.le_trans hcb.1 (by decide), Nat.le_trans hcb.2 (by decide)⟩
  refine z_aload_n C 1 1 dL_law_666 rfl rfl ?_
  refine z_aload_n C 0 0 dL_law_667 rfl rfl ?_
  refine z_iload_n C 3 3 dL_law_668 rfl rfl ?_
  refine z_iconst C 1 dL_law_669 (by decide) ?_
  refine z_iadd C dL_law_670 ?_
  refine z_sldk C hX hbl hbA 1 rfl (by omega) hL dL_law_671 ?_
  refine z_aload_n C 0 0 dL_law_672 rfl rfl ?_
  refine z_iload_n C 3 3 dL_law_673 rfl rfl ?_
  refine z_iconst C 2 dL_law_674 (by decide) ?_
  refine z_iadd C dL_law_675 ?_
  refine z_sldk C hX hbl hbA 2 rfl (by omega) hL dL_law_676 ?_
  refine z_aload_n C 0 0 dL_law_677 rfl rfl ?_
  refine z_iload_n C 3 3 dL_law_678 rfl rfl ?_
  refine z_iconst C 3 dL_law_679 (by decide) ?_
  refine z_iadd C dL_law_680 ?_
  refine z_sldk C hX hbl hbA 3 rfl (by omega) hL dL_law_681 ?_
  obtain ⟨r, M1, M2, e1, e2, hI2⟩ := E K M (xs (i + 1)) (xs (i + 2)) (xs (i + 3)) hI
  refine z_cV1 C [] (tX11_stop l G hLay M (xs (i + 1)) (xs (i + 2)) (xs (i + 3)) _ e1) lk_X11_stop ok_X11 (lay_c0 hLay) q_ml_L_66 rfl ⟨Nat.le_of_ble_eq_true rfl, Nat.le_of_ble_eq_true rfl⟩ rfl (Nat.le_of_ble_eq_true rfl) hcs dL_law_682 ?_
  have hLay2 := hLay
  refine z_aload_n C 2 2 dL_law_685 rfl rfl ?_
  refine z_aload_n C 0 0 dL_law_686 rfl rfl ?_
  refine z_iload_n C 3 3 dL_law_687 rfl rfl ?_
  refine z_iconst C 1 dL_law_688 (by decide) ?_
  refine z_iadd C dL_law_689 ?_
  refine z_sldk C hX hbl hbA 1 rfl (by omega) hL dL_law_690 ?_
  refine z_aload_n C 0 0 dL_law_691 rfl rfl ?_
  refine z_iload_n C 3 3 dL_law_692 rfl rfl ?_
  refine z_iconst C 2 dL_law_693 (by decide) ?_
  refine z_iadd C dL_law_694 ?_
  refine z_sldk C hX hbl hbA 2 rfl (by omega) hL dL_law_695 ?_
  refine z_aload_n C 0 0 dL_law_696 rfl rfl ?_
  refine z_iload_n C 3 3 dL_law_697 rfl rfl ?_
  refine z_iconst C 3 dL_law_698 (by decide) ?_
  refine z_iadd C dL_law_699 ?_
  refine z_sldk C hX hbl hbA 3 rfl (by omega) hL dL_law_700 ?_
  refine z_cV1 C [.int r] (tX12_stop l G hLay2 M1 (xs (i + 1)) (xs (i + 2)) (xs (i + 3)) _ e2) lk_X12_stop ok_X12 (lay_c90 hLay2) q_ml_L_69 rfl ⟨Nat.le_of_ble_eq_true rfl, Nat.le_of_ble_eq_true rfl⟩ rfl (Nat.le_of_ble_eq_true rfl) hcs dL_law_701 ?_
  refine z_icmp_eq C 1780 dL_law_704 (by decide) (fun _ => ?_) (fun h => absurd rfl h)
  exact hk K M2 hI2
set_option maxHeartbeats 4000000 in
set_option maxRecDepth 100000 in
theorem law_c13 {Inv : SK → MM → Prop} (hInv : ∀ K M, Inv K M → KI K) (E : E13 Inv) (C : CX p s m args meth c cL_law 4 (some .boolean) RL G) (hX : va_X b L xs s s.heap) (hbl : b < s.heap.size) (hbA : ¬ AG G b) {i : Nat} (hi : i + 6 ≤ L) (hL : L ≤ 3072) {K : SK} {M : MM} (hI : Inv K M) (hcb : cells ≤ 590000 ∧ slots ≤ 7200000) (hk : ∀ (K2 : SK) (M2 : MM), Inv K2 M2 → Z p l e room_1 s m args below meth c 4 G Q K2 cells slots M2 1780 [(0, .ref b), (1, .ref (G.1 + 0)), (2, .ref (G.1 + 90)), (3, .int (nI i))] []) : Z p l e room_1 s m args below meth c 4 G Q K cells slots M 709 [(0, .ref b), (1, .ref (G.1 + 0)), (2, .ref (G.1 + 90)), (3, .int (nI i))] [] := by
  have hLay := (hInv K M hI).1
  have hcs : cells ≤ room_1.cells ∧ slots ≤ room_1.slots := ⟨Nat.le_trans hcb.1 (by decide), Nat.le_trans hcb.2 (by decide)⟩
  refine z_aload_n C 1 1 dL_law_709 rfl rfl ?_
  refine z_aload_n C 0 0 dL_law_710 rfl rfl ?_
  refine z_iload_n C 3 3 dL_law_711 rfl rfl ?_
  refine z_iconst C 1 dL_law_712 (by decide) ?_
  refine z_iadd C dL_law_713 ?_
  refine z_sldk C hX hbl hbA 1 rfl (by omega) hL dL_law_714 ?_
  refine z_aload_n C 0 0 dL_law_715 rfl rfl ?_
  refine z_iload_n C 3 3 dL_law_716 rfl rfl ?_
  refine z_iconst C 2 dL_law_717 (by decide) ?_
  refine z_iadd C dL_law_718 ?_
  refine z_sldk C hX hbl hbA 2 rfl (by omega) hL dL_law_719 ?_
  refine z_aload_n C 0 0 dL_law_720 rfl rfl ?_
  refine z_iload_n C 3 3 dL_law_721 rfl rfl ?_
  refine z_iconst C 3 dL_law_722 (by decide) ?_
  refine z_iadd C dL_law_723 ?_
  refine z_sldk C hX hbl hbA 3 rfl (by omega) hL dL_law_724 ?_
  refine z_aload_n C 0 0 dL_law_725 rfl rfl ?_
  refine z_iload_n C 3 3 dL_law_726 rfl rfl ?_
  refine z_iconst C 4 dL_law_727 (by decide) ?_
  refine z_iadd C dL_law_728 ?_
  refine z_sldk C hX hbl hbA 4 rfl (by omega) hL dL_law_729 ?_
  refine z_aload_n C 0 0 dL_law_730 rfl rfl ?_
  refine z_iload_n C 3 3 dL_law_731 rfl rfl ?_
  refine z_iconst C 5 dL_law_732 (by decide) ?_
  refine z_iadd C dL_law_733 ?_
  refine z_sldk C hX hbl hbA 5 rfl (by omega) hL dL_law_734 ?_
  obtain ⟨r, M1, M2, e1, e2, hI2⟩ := E K M (xs (i + 1)) (xs (i + 2)) (xs (i + 3)) (xs (i + 4)) (xs (i + 5)) hI
  refine z_cV1 C [] (tX11_state l G hLay M (xs (i + 1)) (xs (i + 2)) (xs (i + 3)) (xs (i + 4)) (xs (i + 5)) _ e1) lk_X11_state ok_X11 (lay_c0 hLay) q_ml_L_70 rfl ⟨Nat.le_of_ble_eq_true rfl, Nat.le_of_ble_eq_true rfl⟩ rfl (Nat.le_of_ble_eq_true rfl) hcs dL_law_735 ?_
  have hLay2 := hLay
  refine z_aload_n C 2 2 dL_law_738 rfl rfl ?_
  refine z_aload_n C 0 0 dL_law_739 rfl rfl ?_
  refine z_iload_n C 3 3 dL_law_740 rfl rfl ?_
  refine z_iconst C 1 dL_law_741 (by decide) ?_
  refine z_iadd C dL_law_742 ?_
  refine z_sldk C hX hbl hbA 1 rfl (by omega) hL dL_law_743 ?_
  refine z_aload_n C 0 0 dL_law_744 rfl rfl ?_
  refine z_iload_n C 3 3 dL_law_745 rfl rfl ?_
  refine z_iconst C 2 dL_law_746 (by decide) ?_
  refine z_iadd C dL_law_747 ?_
  refine z_sldk C hX hbl hbA 2 rfl (by omega) hL dL_law_748 ?_
  refine z_aload_n C 0 0 dL_law_749 rfl rfl ?_
  refine z_iload_n C 3 3 dL_law_750 rfl rfl ?_
  refine z_iconst C 3 dL_law_751 (by decide) ?_
  refine z_iadd C dL_law_752 ?_
  refine z_sldk C hX hbl hbA 3 rfl (by omega) hL dL_law_753 ?_
  refine z_aload_n C 0 0 dL_law_754 rfl rfl ?_
  refine z_iload_n C 3 3 dL_law_755 rfl rfl ?_
  refine z_iconst C 4 dL_law_756 (by decide) ?_
  refine z_iadd C dL_law_757 ?_
  refine z_sldk C hX hbl hbA 4 rfl (by omega) hL dL_law_758 ?_
  refine z_aload_n C 0 0 dL_law_759 rfl rfl ?_
  refine z_iload_n C 3 3 dL_law_760 rfl rfl ?_
  refine z_iconst C 5 dL_law_761 (by decide) ?_
  refine z_iadd C dL_law_762 ?_
  refine z_sldk C hX hbl hbA 5 rfl (by omega) hL dL_law_763 ?_
  refine z_cV1 C [.int r] (tX12_state l G hLay2 M1 (xs (i + 1)) (xs (i + 2)) (xs (i + 3)) (xs (i + 4)) (xs (i + 5)) _ e2) lk_X12_state ok_X12 (lay_c90 hLay2) q_ml_L_73 rfl ⟨Nat.le_of_ble_eq_true rfl, Nat.le_of_ble_eq_true rfl⟩ rfl (Nat.le_of_ble_eq_true rfl) hcs dL_law_764 ?_
  refine z_icmp_eq C 1780 dL_law_767 (by decide) (fun _ => ?_) (fun h => absurd rfl h)
  exact hk K M2 hI2
set_option maxHeartbeats 4000000 in
set_option maxRecDepth 100000 in
theorem law_c14 {Inv : SK → MM → Prop} (hInv : ∀ K M, Inv K M → KI K) (E : E14 Inv) (C : CX p s m args meth c cL_law 4 (some .boolean) RL G) (hX : va_X b L xs s s.heap) (hbl : b < s.heap.size) (hbA : ¬ AG G b) {i : Nat} (hi : i + 6 ≤ L) (hL : L ≤ 3072) {K : SK} {M : MM} (hI : Inv K M) (hcb : cells ≤ 590000 ∧ slots ≤ 7200000) (hk : ∀ (K2 : SK) (M2 : MM), Inv K2 M2 → Z p l e room_1 s m args below meth c 4 G Q K2 cells slots M2 1780 [(0, .ref b), (1, .ref (G.1 + 0)), (2, .ref (G.1 + 90)), (3, .int (nI i))] []) : Z p l e room_1 s m args below meth c 4 G Q K cells slots M 772 [(0, .ref b), (1, .ref (G.1 + 0)), (2, .ref (G.1 + 90)), (3, .int (nI i))] [] := by
  have hLay := (hInv K M hI).1
  have hcs : cells ≤ room_1.cells ∧ slots ≤ room_1.slots := ⟨Nat.le_trans hcb.1 (by decide), Nat.le_trans hcb.2 (by decide)⟩
  refine z_aload_n C 1 1 dL_law_772 rfl rfl ?_
  refine z_aload_n C 0 0 dL_law_773 rfl rfl ?_
  refine z_iload_n C 3 3 dL_law_774 rfl rfl ?_
  refine z_iconst C 1 dL_law_775 (by decide) ?_
  refine z_iadd C dL_law_776 ?_
  refine z_sldk C hX hbl hbA 1 rfl (by omega) hL dL_law_777 ?_
  refine z_aload_n C 0 0 dL_law_778 rfl rfl ?_
  refine z_iload_n C 3 3 dL_law_779 rfl rfl ?_
  refine z_iconst C 2 dL_law_780 (by decide) ?_
  refine z_iadd C dL_law_781 ?_
  refine z_sldk C hX hbl hbA 2 rfl (by omega) hL dL_law_782 ?_
  refine z_aload_n C 0 0 dL_law_783 rfl rfl ?_
  refine z_iload_n C 3 3 dL_law_784 rfl rfl ?_
  refine z_iconst C 3 dL_law_785 (by decide) ?_
  refine z_iadd C dL_law_786 ?_
  refine z_sldk C hX hbl hbA 3 rfl (by omega) hL dL_law_787 ?_
  refine z_aload_n C 0 0 dL_law_788 rfl rfl ?_
  refine z_iload_n C 3 3 dL_law_789 rfl rfl ?_
  refine z_iconst C 4 dL_law_790 (by decide) ?_
  refine z_iadd C dL_law_791 ?_
  refine z_sldk C hX hbl hbA 4 rfl (by omega) hL dL_law_792 ?_
  refine z_if_eq C 800 dL_law_793 (by decide) (fun b4 => ?_) (fun b4 => ?_)
  · refine z_iconst C 0 dL_law_800 (by decide) ?_
    refine z_aload_n C 0 0 dL_law_801 rfl rfl ?_
    refine z_iload_n C 3 3 dL_law_802 rfl rfl ?_
    refine z_iconst C 5 dL_law_803 (by decide) ?_
    refine z_iadd C dL_law_804 ?_
    refine z_sldk C hX hbl hbA 5 rfl (by omega) hL dL_law_805 ?_
    refine z_if_eq C 813 dL_law_806 (by decide) (fun b5 => ?_) (fun b5 => ?_)
    · refine z_iconst C 0 dL_law_813 (by decide) ?_
      obtain ⟨r, M1, M2, e1, e2, hI2⟩ := E K M (xs (i + 1)) (xs (i + 2)) (xs (i + 3)) 0 0 (Or.inl rfl) (Or.inl rfl) hI
      refine z_cV1 C [] (tX11_stand l G hLay M (xs (i + 1)) (xs (i + 2)) (xs (i + 3)) 0 0 _ e1) lk_X11_stand ok_X11 (lay_c0 hLay) q_ml_L_74 rfl ⟨Nat.le_of_ble_eq_true rfl, Nat.le_of_ble_eq_true rfl⟩ rfl (Nat.le_of_ble_eq_true rfl) hcs dL_law_814 ?_
      have hLay2 := hLay
      refine z_aload_n C 2 2 dL_law_817 rfl rfl ?_
      refine z_aload_n C 0 0 dL_law_818 rfl rfl ?_
      refine z_iload_n C 3 3 dL_law_819 rfl rfl ?_
      refine z_iconst C 1 dL_law_820 (by decide) ?_
      refine z_iadd C dL_law_821 ?_
      refine z_sldk C hX hbl hbA 1 rfl (by omega) hL dL_law_822 ?_
      refine z_aload_n C 0 0 dL_law_823 rfl rfl ?_
      refine z_iload_n C 3 3 dL_law_824 rfl rfl ?_
      refine z_iconst C 2 dL_law_825 (by decide) ?_
      refine z_iadd C dL_law_826 ?_
      refine z_sldk C hX hbl hbA 2 rfl (by omega) hL dL_law_827 ?_
      refine z_aload_n C 0 0 dL_law_828 rfl rfl ?_
      refine z_iload_n C 3 3 dL_law_829 rfl rfl ?_
      refine z_iconst C 3 dL_law_830 (by decide) ?_
      refine z_iadd C dL_law_831 ?_
      refine z_sldk C hX hbl hbA 3 rfl (by omega) hL dL_law_832 ?_
      refine z_aload_n C 0 0 dL_law_833 rfl rfl ?_
      refine z_iload_n C 3 3 dL_law_834 rfl rfl ?_
      refine z_iconst C 4 dL_law_835 (by decide) ?_
      refine z_iadd C dL_law_836 ?_
      refine z_sldk C hX hbl hbA 4 rfl (by omega) hL dL_law_837 ?_
      refine z_if_eq C 845 dL_law_838 (by decide) (fun _ => ?_) (fun h => absurd b4 h)
      refine z_iconst C 0 dL_law_845 (by decide) ?_
      refine z_aload_n C 0 0 dL_law_846 rfl rfl ?_
      refine z_iload_n C 3 3 dL_law_847 rfl rfl ?_
      refine z_iconst C 5 dL_law_848 (by decide) ?_
      refine z_iadd C dL_law_849 ?_
      refine z_sldk C hX hbl hbA 5 rfl (by omega) hL dL_law_850 ?_
      refine z_if_eq C 858 dL_law_851 (by decide) (fun _ => ?_) (fun h => absurd b5 h)
      refine z_iconst C 0 dL_law_858 (by decide) ?_
      refine z_cV1 C [.int r] (tX12_stand l G hLay2 M1 (xs (i + 1)) (xs (i + 2)) (xs (i + 3)) 0 0 _ e2) lk_X12_stand ok_X12 (lay_c90 hLay2) q_ml_L_78 rfl ⟨Nat.le_of_ble_eq_true rfl, Nat.le_of_ble_eq_true rfl⟩ rfl (Nat.le_of_ble_eq_true rfl) hcs dL_law_859 ?_
      refine z_icmp_eq C 1780 dL_law_862 (by decide) (fun _ => ?_) (fun h => absurd rfl h)
      exact hk K M2 hI2
    · refine z_iconst C 1 dL_law_809 (by decide) ?_
      refine z_goto C 814 dL_law_810 (by decide) ?_
      obtain ⟨r, M1, M2, e1, e2, hI2⟩ := E K M (xs (i + 1)) (xs (i + 2)) (xs (i + 3)) 0 1 (Or.inl rfl) (Or.inr rfl) hI
      refine z_cV1 C [] (tX11_stand l G hLay M (xs (i + 1)) (xs (i + 2)) (xs (i + 3)) 0 1 _ e1) lk_X11_stand ok_X11 (lay_c0 hLay) q_ml_L_74 rfl ⟨Nat.le_of_ble_eq_true rfl, Nat.le_of_ble_eq_true rfl⟩ rfl (Nat.le_of_ble_eq_true rfl) hcs dL_law_814 ?_
      have hLay2 := hLay
      refine z_aload_n C 2 2 dL_law_817 rfl rfl ?_
      refine z_aload_n C 0 0 dL_law_818 rfl rfl ?_
      refine z_iload_n C 3 3 dL_law_819 rfl rfl ?_
      refine z_iconst C 1 dL_law_820 (by decide) ?_
      refine z_iadd C dL_law_821 ?_
      refine z_sldk C hX hbl hbA 1 rfl (by omega) hL dL_law_822 ?_
      refine z_aload_n C 0 0 dL_law_823 rfl rfl ?_
      refine z_iload_n C 3 3 dL_law_824 rfl rfl ?_
      refine z_iconst C 2 dL_law_825 (by decide) ?_
      refine z_iadd C dL_law_826 ?_
      refine z_sldk C hX hbl hbA 2 rfl (by omega) hL dL_law_827 ?_
      refine z_aload_n C 0 0 dL_law_828 rfl rfl ?_
      refine z_iload_n C 3 3 dL_law_829 rfl rfl ?_
      refine z_iconst C 3 dL_law_830 (by decide) ?_
      refine z_iadd C dL_law_831 ?_
      refine z_sldk C hX hbl hbA 3 rfl (by omega) hL dL_law_832 ?_
      refine z_aload_n C 0 0 dL_law_833 rfl rfl ?_
      refine z_iload_n C 3 3 dL_law_834 rfl rfl ?_
      refine z_iconst C 4 dL_law_835 (by decide) ?_
      refine z_iadd C dL_law_836 ?_
      refine z_sldk C hX hbl hbA 4 rfl (by omega) hL dL_law_837 ?_
      refine z_if_eq C 845 dL_law_838 (by decide) (fun _ => ?_) (fun h => absurd b4 h)
      refine z_iconst C 0 dL_law_845 (by decide) ?_
      refine z_aload_n C 0 0 dL_law_846 rfl rfl ?_
      refine z_iload_n C 3 3 dL_law_847 rfl rfl ?_
      refine z_iconst C 5 dL_law_848 (by decide) ?_
      refine z_iadd C dL_law_849 ?_
      refine z_sldk C hX hbl hbA 5 rfl (by omega) hL dL_law_850 ?_
      refine z_if_eq C 858 dL_law_851 (by decide) (fun h => absurd h b5) (fun _ => ?_)
      refine z_iconst C 1 dL_law_854 (by decide) ?_
      refine z_goto C 859 dL_law_855 (by decide) ?_
      refine z_cV1 C [.int r] (tX12_stand l G hLay2 M1 (xs (i + 1)) (xs (i + 2)) (xs (i + 3)) 0 1 _ e2) lk_X12_stand ok_X12 (lay_c90 hLay2) q_ml_L_78 rfl ⟨Nat.le_of_ble_eq_true rfl, Nat.le_of_ble_eq_true rfl⟩ rfl (Nat.le_of_ble_eq_true rfl) hcs dL_law_859 ?_
      refine z_icmp_eq C 1780 dL_law_862 (by decide) (fun _ => ?_) (fun h => absurd rfl h)
      exact hk K M2 hI2
  · refine z_iconst C 1 dL_law_796 (by decide) ?_
    refine z_goto C 801 dL_law_797 (by decide) ?_
    refine z_aload_n C 0 0 dL_law_801 rfl rfl ?_
    refine z_iload_n C 3 3 dL_law_802 rfl rfl ?_
    refine z_iconst C 5 dL_law_803 (by decide) ?_
    refine z_iadd C dL_law_804 ?_
    refine z_sldk C hX hbl hbA 5 rfl (by omega) hL dL_law_805 ?_
    refine z_if_eq C 813 dL_law_806 (by decide) (fun b5 => ?_) (fun b5 => ?_)
    · refine z_iconst C 0 dL_law_813 (by decide) ?_
      obtain ⟨r, M1, M2, e1, e2, hI2⟩ := E K M (xs (i + 1)) (xs (i + 2)) (xs (i + 3)) 1 0 (Or.inr rfl) (Or.inl rfl) hI
      refine z_cV1 C [] (tX11_stand l G hLay M (xs (i + 1)) (xs (i + 2)) (xs (i + 3)) 1 0 _ e1) lk_X11_stand ok_X11 (lay_c0 hLay) q_ml_L_74 rfl ⟨Nat.le_of_ble_eq_true rfl, Nat.le_of_ble_eq_true rfl⟩ rfl (Nat.le_of_ble_eq_true rfl) hcs dL_law_814 ?_
      have hLay2 := hLay
      refine z_aload_n C 2 2 dL_law_817 rfl rfl ?_
      refine z_aload_n C 0 0 dL_law_818 rfl rfl ?_
      refine z_iload_n C 3 3 dL_law_819 rfl rfl ?_
      refine z_iconst C 1 dL_law_820 (by decide) ?_
      refine z_iadd C dL_law_821 ?_
      refine z_sldk C hX hbl hbA 1 rfl (by omega) hL dL_law_822 ?_
      refine z_aload_n C 0 0 dL_law_823 rfl rfl ?_
      refine z_iload_n C 3 3 dL_law_824 rfl rfl ?_
      refine z_iconst C 2 dL_law_825 (by decide) ?_
      refine z_iadd C dL_law_826 ?_
      refine z_sldk C hX hbl hbA 2 rfl (by omega) hL dL_law_827 ?_
      refine z_aload_n C 0 0 dL_law_828 rfl rfl ?_
      refine z_iload_n C 3 3 dL_law_829 rfl rfl ?_
      refine z_iconst C 3 dL_law_830 (by decide) ?_
      refine z_iadd C dL_law_831 ?_
      refine z_sldk C hX hbl hbA 3 rfl (by omega) hL dL_law_832 ?_
      refine z_aload_n C 0 0 dL_law_833 rfl rfl ?_
      refine z_iload_n C 3 3 dL_law_834 rfl rfl ?_
      refine z_iconst C 4 dL_law_835 (by decide) ?_
      refine z_iadd C dL_law_836 ?_
      refine z_sldk C hX hbl hbA 4 rfl (by omega) hL dL_law_837 ?_
      refine z_if_eq C 845 dL_law_838 (by decide) (fun h => absurd h b4) (fun _ => ?_)
      refine z_iconst C 1 dL_law_841 (by decide) ?_
      refine z_goto C 846 dL_law_842 (by decide) ?_
      refine z_aload_n C 0 0 dL_law_846 rfl rfl ?_
      refine z_iload_n C 3 3 dL_law_847 rfl rfl ?_
      refine z_iconst C 5 dL_law_848 (by decide) ?_
      refine z_iadd C dL_law_849 ?_
      refine z_sldk C hX hbl hbA 5 rfl (by omega) hL dL_law_850 ?_
      refine z_if_eq C 858 dL_law_851 (by decide) (fun _ => ?_) (fun h => absurd b5 h)
      refine z_iconst C 0 dL_law_858 (by decide) ?_
      refine z_cV1 C [.int r] (tX12_stand l G hLay2 M1 (xs (i + 1)) (xs (i + 2)) (xs (i + 3)) 1 0 _ e2) lk_X12_stand ok_X12 (lay_c90 hLay2) q_ml_L_78 rfl ⟨Nat.le_of_ble_eq_true rfl, Nat.le_of_ble_eq_true rfl⟩ rfl (Nat.le_of_ble_eq_true rfl) hcs dL_law_859 ?_
      refine z_icmp_eq C 1780 dL_law_862 (by decide) (fun _ => ?_) (fun h => absurd rfl h)
      exact hk K M2 hI2
    · refine z_iconst C 1 dL_law_809 (by decide) ?_
      refine z_goto C 814 dL_law_810 (by decide) ?_
      obtain ⟨r, M1, M2, e1, e2, hI2⟩ := E K M (xs (i + 1)) (xs (i + 2)) (xs (i + 3)) 1 1 (Or.inr rfl) (Or.inr rfl) hI
      refine z_cV1 C [] (tX11_stand l G hLay M (xs (i + 1)) (xs (i + 2)) (xs (i + 3)) 1 1 _ e1) lk_X11_stand ok_X11 (lay_c0 hLay) q_ml_L_74 rfl ⟨Nat.le_of_ble_eq_true rfl, Nat.le_of_ble_eq_true rfl⟩ rfl (Nat.le_of_ble_eq_true rfl) hcs dL_law_814 ?_
      have hLay2 := hLay
      refine z_aload_n C 2 2 dL_law_817 rfl rfl ?_
      refine z_aload_n C 0 0 dL_law_818 rfl rfl ?_
      refine z_iload_n C 3 3 dL_law_819 rfl rfl ?_
      refine z_iconst C 1 dL_law_820 (by decide) ?_
      refine z_iadd C dL_law_821 ?_
      refine z_sldk C hX hbl hbA 1 rfl (by omega) hL dL_law_822 ?_
      refine z_aload_n C 0 0 dL_law_823 rfl rfl ?_
      refine z_iload_n C 3 3 dL_law_824 rfl rfl ?_
      refine z_iconst C 2 dL_law_825 (by decide) ?_
      refine z_iadd C dL_law_826 ?_
      refine z_sldk C hX hbl hbA 2 rfl (by omega) hL dL_law_827 ?_
      refine z_aload_n C 0 0 dL_law_828 rfl rfl ?_
      refine z_iload_n C 3 3 dL_law_829 rfl rfl ?_
      refine z_iconst C 3 dL_law_830 (by decide) ?_
      refine z_iadd C dL_law_831 ?_
      refine z_sldk C hX hbl hbA 3 rfl (by omega) hL dL_law_832 ?_
      refine z_aload_n C 0 0 dL_law_833 rfl rfl ?_
      refine z_iload_n C 3 3 dL_law_834 rfl rfl ?_
      refine z_iconst C 4 dL_law_835 (by decide) ?_
      refine z_iadd C dL_law_836 ?_
      refine z_sldk C hX hbl hbA 4 rfl (by omega) hL dL_law_837 ?_
      refine z_if_eq C 845 dL_law_838 (by decide) (fun h => absurd h b4) (fun _ => ?_)
      refine z_iconst C 1 dL_law_841 (by decide) ?_
      refine z_goto C 846 dL_law_842 (by decide) ?_
      refine z_aload_n C 0 0 dL_law_846 rfl rfl ?_
      refine z_iload_n C 3 3 dL_law_847 rfl rfl ?_
      refine z_iconst C 5 dL_law_848 (by decide) ?_
      refine z_iadd C dL_law_849 ?_
      refine z_sldk C hX hbl hbA 5 rfl (by omega) hL dL_law_850 ?_
      refine z_if_eq C 858 dL_law_851 (by decide) (fun h => absurd h b5) (fun _ => ?_)
      refine z_iconst C 1 dL_law_854 (by decide) ?_
      refine z_goto C 859 dL_law_855 (by decide) ?_
      refine z_cV1 C [.int r] (tX12_stand l G hLay2 M1 (xs (i + 1)) (xs (i + 2)) (xs (i + 3)) 1 1 _ e2) lk_X12_stand ok_X12 (lay_c90 hLay2) q_ml_L_78 rfl ⟨Nat.le_of_ble_eq_true rfl, Nat.le_of_ble_eq_true rfl⟩ rfl (Nat.le_of_ble_eq_true rfl) hcs dL_law_859 ?_
      refine z_icmp_eq C 1780 dL_law_862 (by decide) (fun _ => ?_) (fun h => absurd rfl h)
      exact hk K M2 hI2
set_option maxHeartbeats 4000000 in
set_option maxRecDepth 100000 in
theorem law_c15 {Inv : SK → MM → Prop} (hInv : ∀ K M, Inv K M → KI K) (E : E15 Inv) (C : CX p s m args meth c cL_law 4 (some .boolean) RL G) (hX : va_X b L xs s s.heap) (hbl : b < s.heap.size) (hbA : ¬ AG G b) {i : Nat} (hi : i + 6 ≤ L) (hL : L ≤ 3072) {K : SK} {M : MM} (hI : Inv K M) (hcb : cells ≤ 590000 ∧ slots ≤ 7200000) (hk : ∀ (K2 : SK) (M2 : MM), Inv K2 M2 → Z p l e room_1 s m args below meth c 4 G Q K2 cells slots M2 1780 [(0, .ref b), (1, .ref (G.1 + 0)), (2, .ref (G.1 + 90)), (3, .int (nI i))] []) : Z p l e room_1 s m args below meth c 4 G Q K cells slots M 867 [(0, .ref b), (1, .ref (G.1 + 0)), (2, .ref (G.1 + 90)), (3, .int (nI i))] [] := by
  have hLay := (hInv K M hI).1
  have hcs : cells ≤ room_1.cells ∧ slots ≤ room_1.slots := ⟨Nat.le_trans hcb.1 (by decide), Nat.le_trans hcb.2 (by decide)⟩
  refine z_aload_n C 1 1 dL_law_867 rfl rfl ?_
  refine z_aload_n C 0 0 dL_law_868 rfl rfl ?_
  refine z_iload_n C 3 3 dL_law_869 rfl rfl ?_
  refine z_iconst C 1 dL_law_870 (by decide) ?_
  refine z_iadd C dL_law_871 ?_
  refine z_sldk C hX hbl hbA 1 rfl (by omega) hL dL_law_872 ?_
  refine z_aload_n C 0 0 dL_law_873 rfl rfl ?_
  refine z_iload_n C 3 3 dL_law_874 rfl rfl ?_
  refine z_iconst C 2 dL_law_875 (by decide) ?_
  refine z_iadd C dL_law_876 ?_
  refine z_sldk C hX hbl hbA 2 rfl (by omega) hL dL_law_877 ?_
  refine z_aload_n C 0 0 dL_law_878 rfl rfl ?_
  refine z_iload_n C 3 3 dL_law_879 rfl rfl ?_
  refine z_iconst C 3 dL_law_880 (by decide) ?_
  refine z_iadd C dL_law_881 ?_
  refine z_sldk C hX hbl hbA 3 rfl (by omega) hL dL_law_882 ?_
  refine z_aload_n C 0 0 dL_law_883 rfl rfl ?_
  refine z_iload_n C 3 3 dL_law_884 rfl rfl ?_
  refine z_iconst C 4 dL_law_885 (by decide) ?_
  refine z_iadd C dL_law_886 ?_
  refine z_sldk C hX hbl hbA 4 rfl (by omega) hL dL_law_887 ?_
  refine z_aload_n C 0 0 dL_law_888 rfl rfl ?_
  refine z_iload_n C 3 3 dL_law_889 rfl rfl ?_
  refine z_iconst C 5 dL_law_890 (by decide) ?_
  refine z_iadd C dL_law_891 ?_
  refine z_sldk C hX hbl hbA 5 rfl (by omega) hL dL_law_892 ?_
  refine z_if_eq C 900 dL_law_893 (by decide) (fun b5 => ?_) (fun b5 => ?_)
  · refine z_iconst C 0 dL_law_900 (by decide) ?_
    obtain ⟨r, M1, M2, e1, e2, hI2⟩ := E K M (xs (i + 1)) (xs (i + 2)) (xs (i + 3)) (xs (i + 4)) 0 (Or.inl rfl) hI
    refine z_cV1 C [] (tX11_together l G hLay M (xs (i + 1)) (xs (i + 2)) (xs (i + 3)) (xs (i + 4)) 0 _ e1) lk_X11_together ok_X11 (lay_c0 hLay) q_ml_L_79 rfl ⟨Nat.le_of_ble_eq_true rfl, Nat.le_of_ble_eq_true rfl⟩ rfl (Nat.le_of_ble_eq_true rfl) hcs dL_law_901 ?_
    have hLay2 := hLay
    refine z_aload_n C 2 2 dL_law_904 rfl rfl ?_
    refine z_aload_n C 0 0 dL_law_905 rfl rfl ?_
    refine z_iload_n C 3 3 dL_law_906 rfl rfl ?_
    refine z_iconst C 1 dL_law_907 (by decide) ?_
    refine z_iadd C dL_law_908 ?_
    refine z_sldk C hX hbl hbA 1 rfl (by omega) hL dL_law_909 ?_
    refine z_aload_n C 0 0 dL_law_910 rfl rfl ?_
    refine z_iload_n C 3 3 dL_law_911 rfl rfl ?_
    refine z_iconst C 2 dL_law_912 (by decide) ?_
    refine z_iadd C dL_law_913 ?_
    refine z_sldk C hX hbl hbA 2 rfl (by omega) hL dL_law_914 ?_
    refine z_aload_n C 0 0 dL_law_915 rfl rfl ?_
    refine z_iload_n C 3 3 dL_law_916 rfl rfl ?_
    refine z_iconst C 3 dL_law_917 (by decide) ?_
    refine z_iadd C dL_law_918 ?_
    refine z_sldk C hX hbl hbA 3 rfl (by omega) hL dL_law_919 ?_
    refine z_aload_n C 0 0 dL_law_920 rfl rfl ?_
    refine z_iload_n C 3 3 dL_law_921 rfl rfl ?_
    refine z_iconst C 4 dL_law_922 (by decide) ?_
    refine z_iadd C dL_law_923 ?_
    refine z_sldk C hX hbl hbA 4 rfl (by omega) hL dL_law_924 ?_
    refine z_aload_n C 0 0 dL_law_925 rfl rfl ?_
    refine z_iload_n C 3 3 dL_law_926 rfl rfl ?_
    refine z_iconst C 5 dL_law_927 (by decide) ?_
    refine z_iadd C dL_law_928 ?_
    refine z_sldk C hX hbl hbA 5 rfl (by omega) hL dL_law_929 ?_
    refine z_if_eq C 937 dL_law_930 (by decide) (fun _ => ?_) (fun h => absurd b5 h)
    refine z_iconst C 0 dL_law_937 (by decide) ?_
    refine z_cV1 C [.int r] (tX12_together l G hLay2 M1 (xs (i + 1)) (xs (i + 2)) (xs (i + 3)) (xs (i + 4)) 0 _ e2) lk_X12_together ok_X12 (lay_c90 hLay2) q_ml_L_83 rfl ⟨Nat.le_of_ble_eq_true rfl, Nat.le_of_ble_eq_true rfl⟩ rfl (Nat.le_of_ble_eq_true rfl) hcs dL_law_938 ?_
    refine z_icmp_eq C 1780 dL_law_941 (by decide) (fun _ => ?_) (fun h => absurd rfl h)
    exact hk K M2 hI2
  · refine z_iconst C 1 dL_law_896 (by decide) ?_
    refine z_goto C 901 dL_law_897 (by decide) ?_
    obtain ⟨r, M1, M2, e1, e2, hI2⟩ := E K M (xs (i + 1)) (xs (i + 2)) (xs (i + 3)) (xs (i + 4)) 1 (Or.inr rfl) hI
    refine z_cV1 C [] (tX11_together l G hLay M (xs (i + 1)) (xs (i + 2)) (xs (i + 3)) (xs (i + 4)) 1 _ e1) lk_X11_together ok_X11 (lay_c0 hLay) q_ml_L_79 rfl ⟨Nat.le_of_ble_eq_true rfl, Nat.le_of_ble_eq_true rfl⟩ rfl (Nat.le_of_ble_eq_true rfl) hcs dL_law_901 ?_
    have hLay2 := hLay
    refine z_aload_n C 2 2 dL_law_904 rfl rfl ?_
    refine z_aload_n C 0 0 dL_law_905 rfl rfl ?_
    refine z_iload_n C 3 3 dL_law_906 rfl rfl ?_
    refine z_iconst C 1 dL_law_907 (by decide) ?_
    refine z_iadd C dL_law_908 ?_
    refine z_sldk C hX hbl hbA 1 rfl (by omega) hL dL_law_909 ?_
    refine z_aload_n C 0 0 dL_law_910 rfl rfl ?_
    refine z_iload_n C 3 3 dL_law_911 rfl rfl ?_
    refine z_iconst C 2 dL_law_912 (by decide) ?_
    refine z_iadd C dL_law_913 ?_
    refine z_sldk C hX hbl hbA 2 rfl (by omega) hL dL_law_914 ?_
    refine z_aload_n C 0 0 dL_law_915 rfl rfl ?_
    refine z_iload_n C 3 3 dL_law_916 rfl rfl ?_
    refine z_iconst C 3 dL_law_917 (by decide) ?_
    refine z_iadd C dL_law_918 ?_
    refine z_sldk C hX hbl hbA 3 rfl (by omega) hL dL_law_919 ?_
    refine z_aload_n C 0 0 dL_law_920 rfl rfl ?_
    refine z_iload_n C 3 3 dL_law_921 rfl rfl ?_
    refine z_iconst C 4 dL_law_922 (by decide) ?_
    refine z_iadd C dL_law_923 ?_
    refine z_sldk C hX hbl hbA 4 rfl (by omega) hL dL_law_924 ?_
    refine z_aload_n C 0 0 dL_law_925 rfl rfl ?_
    refine z_iload_n C 3 3 dL_law_926 rfl rfl ?_
    refine z_iconst C 5 dL_law_927 (by decide) ?_
    refine z_iadd C dL_law_928 ?_
    refine z_sldk C hX hbl hbA 5 rfl (by omega) hL dL_law_929 ?_
    refine z_if_eq C 937 dL_law_930 (by decide) (fun h => absurd h b5) (fun _ => ?_)
    refine z_iconst C 1 dL_law_933 (by decide) ?_
    refine z_goto C 938 dL_law_934 (by decide) ?_
    refine z_cV1 C [.int r] (tX12_together l G hLay2 M1 (xs (i + 1)) (xs (i + 2)) (xs (i + 3)) (xs (i + 4)) 1 _ e2) lk_X12_together ok_X12 (lay_c90 hLay2) q_ml_L_83 rfl ⟨Nat.le_of_ble_eq_true rfl, Nat.le_of_ble_eq_true rfl⟩ rfl (Nat.le_of_ble_eq_true rfl) hcs dL_law_938 ?_
    refine z_icmp_eq C 1780 dL_law_941 (by decide) (fun _ => ?_) (fun h => absurd rfl h)
    exact hk K M2 hI2
set_option maxHeartbeats 4000000 in
set_option maxRecDepth 100000 in
theorem law_c16 {Inv : SK → MM → Prop} (hInv : ∀ K M, Inv K M → KI K) (E : E16 Inv) (C : CX p s m args meth c cL_law 4 (some .boolean) RL G) (hX : va_X b L xs s s.heap) (hbl : b < s.heap.size) (hbA : ¬ AG G b) {i : Nat} (hi : i + 6 ≤ L) (hL : L ≤ 3072) {K : SK} {M : MM} (hI : Inv K M) (hcb : cells ≤ 590000 ∧ slots ≤ 7200000) (hk : ∀ (K2 : SK) (M2 : MM), Inv K2 M2 → Z p l e room_1 s m args below meth c 4 G Q K2 cells slots M2 1780 [(0, .ref b), (1, .ref (G.1 + 0)), (2, .ref (G.1 + 90)), (3, .int (nI i))] []) : Z p l e room_1 s m args below meth c 4 G Q K cells slots M 946 [(0, .ref b), (1, .ref (G.1 + 0)), (2, .ref (G.1 + 90)), (3, .int (nI i))] [] := by
  have hLay := (hInv K M hI).1
  have hcs : cells ≤ room_1.cells ∧ slots ≤ room_1.slots := ⟨Nat.le_trans hcb.1 (by decide), Nat.le_trans hcb.2 (by decide)⟩
  refine z_aload_n C 1 1 dL_law_946 rfl rfl ?_
  refine z_aload_n C 0 0 dL_law_947 rfl rfl ?_
  refine z_iload_n C 3 3 dL_law_948 rfl rfl ?_
  refine z_iconst C 1 dL_law_949 (by decide) ?_
  refine z_iadd C dL_law_950 ?_
  refine z_sldk C hX hbl hbA 1 rfl (by omega) hL dL_law_951 ?_
  refine z_aload_n C 0 0 dL_law_952 rfl rfl ?_
  refine z_iload_n C 3 3 dL_law_953 rfl rfl ?_
  refine z_iconst C 2 dL_law_954 (by decide) ?_
  refine z_iadd C dL_law_955 ?_
  refine z_sldk C hX hbl hbA 2 rfl (by omega) hL dL_law_956 ?_
  refine z_aload_n C 0 0 dL_law_957 rfl rfl ?_
  refine z_iload_n C 3 3 dL_law_958 rfl rfl ?_
  refine z_iconst C 3 dL_law_959 (by decide) ?_
  refine z_iadd C dL_law_960 ?_
  refine z_sldk C hX hbl hbA 3 rfl (by omega) hL dL_law_961 ?_
  refine z_aload_n C 0 0 dL_law_962 rfl rfl ?_
  refine z_iload_n C 3 3 dL_law_963 rfl rfl ?_
  refine z_iconst C 4 dL_law_964 (by decide) ?_
  refine z_iadd C dL_law_965 ?_
  refine z_sldk C hX hbl hbA 4 rfl (by omega) hL dL_law_966 ?_
  refine z_if_eq C 974 dL_law_967 (by decide) (fun b4 => ?_) (fun b4 => ?_)
  · refine z_iconst C 0 dL_law_974 (by decide) ?_
    obtain ⟨r, M1, M2, e1, e2, hI2⟩ := E K M (xs (i + 1)) (xs (i + 2)) (xs (i + 3)) 0 (Or.inl rfl) hI
    refine z_cV1 C [] (tX11_turned l G hLay M (xs (i + 1)) (xs (i + 2)) (xs (i + 3)) 0 _ e1) lk_X11_turned ok_X11 (lay_c0 hLay) q_ml_L_84 rfl ⟨Nat.le_of_ble_eq_true rfl, Nat.le_of_ble_eq_true rfl⟩ rfl (Nat.le_of_ble_eq_true rfl) hcs dL_law_975 ?_
    have hLay2 := hLay
    refine z_aload_n C 2 2 dL_law_978 rfl rfl ?_
    refine z_aload_n C 0 0 dL_law_979 rfl rfl ?_
    refine z_iload_n C 3 3 dL_law_980 rfl rfl ?_
    refine z_iconst C 1 dL_law_981 (by decide) ?_
    refine z_iadd C dL_law_982 ?_
    refine z_sldk C hX hbl hbA 1 rfl (by omega) hL dL_law_983 ?_
    refine z_aload_n C 0 0 dL_law_984 rfl rfl ?_
    refine z_iload_n C 3 3 dL_law_985 rfl rfl ?_
    refine z_iconst C 2 dL_law_986 (by decide) ?_
    refine z_iadd C dL_law_987 ?_
    refine z_sldk C hX hbl hbA 2 rfl (by omega) hL dL_law_988 ?_
    refine z_aload_n C 0 0 dL_law_989 rfl rfl ?_
    refine z_iload_n C 3 3 dL_law_990 rfl rfl ?_
    refine z_iconst C 3 dL_law_991 (by decide) ?_
    refine z_iadd C dL_law_992 ?_
    refine z_sldk C hX hbl hbA 3 rfl (by omega) hL dL_law_993 ?_
    refine z_aload_n C 0 0 dL_law_994 rfl rfl ?_
    refine z_iload_n C 3 3 dL_law_995 rfl rfl ?_
    refine z_iconst C 4 dL_law_996 (by decide) ?_
    refine z_iadd C dL_law_997 ?_
    refine z_sldk C hX hbl hbA 4 rfl (by omega) hL dL_law_998 ?_
    refine z_if_eq C 1006 dL_law_999 (by decide) (fun _ => ?_) (fun h => absurd b4 h)
    refine z_iconst C 0 dL_law_1006 (by decide) ?_
    refine z_cV1 C [.int r] (tX12_turned l G hLay2 M1 (xs (i + 1)) (xs (i + 2)) (xs (i + 3)) 0 _ e2) lk_X12_turned ok_X12 (lay_c90 hLay2) q_ml_L_87 rfl ⟨Nat.le_of_ble_eq_true rfl, Nat.le_of_ble_eq_true rfl⟩ rfl (Nat.le_of_ble_eq_true rfl) hcs dL_law_1007 ?_
    refine z_icmp_eq C 1780 dL_law_1010 (by decide) (fun _ => ?_) (fun h => absurd rfl h)
    exact hk K M2 hI2
  · refine z_iconst C 1 dL_law_970 (by decide) ?_
    refine z_goto C 975 dL_law_971 (by decide) ?_
    obtain ⟨r, M1, M2, e1, e2, hI2⟩ := E K M (xs (i + 1)) (xs (i + 2)) (xs (i + 3)) 1 (Or.inr rfl) hI
    refine z_cV1 C [] (tX11_turned l G hLay M (xs (i + 1)) (xs (i + 2)) (xs (i + 3)) 1 _ e1) lk_X11_turned ok_X11 (lay_c0 hLay) q_ml_L_84 rfl ⟨Nat.le_of_ble_eq_true rfl, Nat.le_of_ble_eq_true rfl⟩ rfl (Nat.le_of_ble_eq_true rfl) hcs dL_law_975 ?_
    have hLay2 := hLay
    refine z_aload_n C 2 2 dL_law_978 rfl rfl ?_
    refine z_aload_n C 0 0 dL_law_979 rfl rfl ?_
    refine z_iload_n C 3 3 dL_law_980 rfl rfl ?_
    refine z_iconst C 1 dL_law_981 (by decide) ?_
    refine z_iadd C dL_law_982 ?_
    refine z_sldk C hX hbl hbA 1 rfl (by omega) hL dL_law_983 ?_
    refine z_aload_n C 0 0 dL_law_984 rfl rfl ?_
    refine z_iload_n C 3 3 dL_law_985 rfl rfl ?_
    refine z_iconst C 2 dL_law_986 (by decide) ?_
    refine z_iadd C dL_law_987 ?_
    refine z_sldk C hX hbl hbA 2 rfl (by omega) hL dL_law_988 ?_
    refine z_aload_n C 0 0 dL_law_989 rfl rfl ?_
    refine z_iload_n C 3 3 dL_law_990 rfl rfl ?_
    refine z_iconst C 3 dL_law_991 (by decide) ?_
    refine z_iadd C dL_law_992 ?_
    refine z_sldk C hX hbl hbA 3 rfl (by omega) hL dL_law_993 ?_
    refine z_aload_n C 0 0 dL_law_994 rfl rfl ?_
    refine z_iload_n C 3 3 dL_law_995 rfl rfl ?_
    refine z_iconst C 4 dL_law_996 (by decide) ?_
    refine z_iadd C dL_law_997 ?_
    refine z_sldk C hX hbl hbA 4 rfl (by omega) hL dL_law_998 ?_
    refine z_if_eq C 1006 dL_law_999 (by decide) (fun h => absurd h b4) (fun _ => ?_)
    refine z_iconst C 1 dL_law_1002 (by decide) ?_
    refine z_goto C 1007 dL_law_1003 (by decide) ?_
    refine z_cV1 C [.int r] (tX12_turned l G hLay2 M1 (xs (i + 1)) (xs (i + 2)) (xs (i + 3)) 1 _ e2) lk_X12_turned ok_X12 (lay_c90 hLay2) q_ml_L_87 rfl ⟨Nat.le_of_ble_eq_true rfl, Nat.le_of_ble_eq_true rfl⟩ rfl (Nat.le_of_ble_eq_true rfl) hcs dL_law_1007 ?_
    refine z_icmp_eq C 1780 dL_law_1010 (by decide) (fun _ => ?_) (fun h => absurd rfl h)
    exact hk K M2 hI2
set_option maxHeartbeats 4000000 in
set_option maxRecDepth 100000 in
theorem law_c17 {Inv : SK → MM → Prop} (hInv : ∀ K M, Inv K M → KI K) (E : E17 Inv) (C : CX p s m args meth c cL_law 4 (some .boolean) RL G) (hX : va_X b L xs s s.heap) (hbl : b < s.heap.size) (hbA : ¬ AG G b) {i : Nat} (hi : i + 6 ≤ L) (hL : L ≤ 3072) {K : SK} {M : MM} (hI : Inv K M) (hcb : cells ≤ 590000 ∧ slots ≤ 7200000) (hk : ∀ (K2 : SK) (M2 : MM), Inv K2 M2 → Z p l e room_1 s m args below meth c 4 G Q K2 cells slots M2 1780 [(0, .ref b), (1, .ref (G.1 + 0)), (2, .ref (G.1 + 90)), (3, .int (nI i))] []) : Z p l e room_1 s m args below meth c 4 G Q K cells slots M 1015 [(0, .ref b), (1, .ref (G.1 + 0)), (2, .ref (G.1 + 90)), (3, .int (nI i))] [] := by
  have hLay := (hInv K M hI).1
  have hcs : cells ≤ room_1.cells ∧ slots ≤ room_1.slots := ⟨Nat.le_trans hcb.1 (by decide), Nat.le_trans hcb.2 (by decide)⟩
  refine z_aload_n C 1 1 dL_law_1015 rfl rfl ?_
  refine z_aload_n C 0 0 dL_law_1016 rfl rfl ?_
  refine z_iload_n C 3 3 dL_law_1017 rfl rfl ?_
  refine z_iconst C 1 dL_law_1018 (by decide) ?_
  refine z_iadd C dL_law_1019 ?_
  refine z_sldk C hX hbl hbA 1 rfl (by omega) hL dL_law_1020 ?_
  refine z_aload_n C 0 0 dL_law_1021 rfl rfl ?_
  refine z_iload_n C 3 3 dL_law_1022 rfl rfl ?_
  refine z_iconst C 2 dL_law_1023 (by decide) ?_
  refine z_iadd C dL_law_1024 ?_
  refine z_sldk C hX hbl hbA 2 rfl (by omega) hL dL_law_1025 ?_
  refine z_aload_n C 0 0 dL_law_1026 rfl rfl ?_
  refine z_iload_n C 3 3 dL_law_1027 rfl rfl ?_
  refine z_iconst C 3 dL_law_1028 (by decide) ?_
  refine z_iadd C dL_law_1029 ?_
  refine z_sldk C hX hbl hbA 3 rfl (by omega) hL dL_law_1030 ?_
  refine z_aload_n C 0 0 dL_law_1031 rfl rfl ?_
  refine z_iload_n C 3 3 dL_law_1032 rfl rfl ?_
  refine z_iconst C 4 dL_law_1033 (by decide) ?_
  refine z_iadd C dL_law_1034 ?_
  refine z_sldk C hX hbl hbA 4 rfl (by omega) hL dL_law_1035 ?_
  refine z_if_eq C 1043 dL_law_1036 (by decide) (fun b4 => ?_) (fun b4 => ?_)
  · refine z_iconst C 0 dL_law_1043 (by decide) ?_
    obtain ⟨r, M1, M2, e1, e2, hI2⟩ := E K M (xs (i + 1)) (xs (i + 2)) (xs (i + 3)) 0 (Or.inl rfl) hI
    refine z_cV1 C [] (tX11_spoon l G hLay M (xs (i + 1)) (xs (i + 2)) (xs (i + 3)) 0 _ e1) lk_X11_spoon ok_X11 (lay_c0 hLay) q_ml_L_88 rfl ⟨Nat.le_of_ble_eq_true rfl, Nat.le_of_ble_eq_true rfl⟩ rfl (Nat.le_of_ble_eq_true rfl) hcs dL_law_1044 ?_
    have hLay2 := hLay
    refine z_aload_n C 2 2 dL_law_1047 rfl rfl ?_
    refine z_aload_n C 0 0 dL_law_1048 rfl rfl ?_
    refine z_iload_n C 3 3 dL_law_1049 rfl rfl ?_
    refine z_iconst C 1 dL_law_1050 (by decide) ?_
    refine z_iadd C dL_law_1051 ?_
    refine z_sldk C hX hbl hbA 1 rfl (by omega) hL dL_law_1052 ?_
    refine z_aload_n C 0 0 dL_law_1053 rfl rfl ?_
    refine z_iload_n C 3 3 dL_law_1054 rfl rfl ?_
    refine z_iconst C 2 dL_law_1055 (by decide) ?_
    refine z_iadd C dL_law_1056 ?_
    refine z_sldk C hX hbl hbA 2 rfl (by omega) hL dL_law_1057 ?_
    refine z_aload_n C 0 0 dL_law_1058 rfl rfl ?_
    refine z_iload_n C 3 3 dL_law_1059 rfl rfl ?_
    refine z_iconst C 3 dL_law_1060 (by decide) ?_
    refine z_iadd C dL_law_1061 ?_
    refine z_sldk C hX hbl hbA 3 rfl (by omega) hL dL_law_1062 ?_
    refine z_aload_n C 0 0 dL_law_1063 rfl rfl ?_
    refine z_iload_n C 3 3 dL_law_1064 rfl rfl ?_
    refine z_iconst C 4 dL_law_1065 (by decide) ?_
    refine z_iadd C dL_law_1066 ?_
    refine z_sldk C hX hbl hbA 4 rfl (by omega) hL dL_law_1067 ?_
    refine z_if_eq C 1075 dL_law_1068 (by decide) (fun _ => ?_) (fun h => absurd b4 h)
    refine z_iconst C 0 dL_law_1075 (by decide) ?_
    refine z_cV1 C [.int r] (tX12_spoon l G hLay2 M1 (xs (i + 1)) (xs (i + 2)) (xs (i + 3)) 0 _ e2) lk_X12_spoon ok_X12 (lay_c90 hLay2) q_ml_L_91 rfl ⟨Nat.le_of_ble_eq_true rfl, Nat.le_of_ble_eq_true rfl⟩ rfl (Nat.le_of_ble_eq_true rfl) hcs dL_law_1076 ?_
    refine z_icmp_eq C 1780 dL_law_1079 (by decide) (fun _ => ?_) (fun h => absurd rfl h)
    exact hk K M2 hI2
  · refine z_iconst C 1 dL_law_1039 (by decide) ?_
    refine z_goto C 1044 dL_law_1040 (by decide) ?_
    obtain ⟨r, M1, M2, e1, e2, hI2⟩ := E K M (xs (i + 1)) (xs (i + 2)) (xs (i + 3)) 1 (Or.inr rfl) hI
    refine z_cV1 C [] (tX11_spoon l G hLay M (xs (i + 1)) (xs (i + 2)) (xs (i + 3)) 1 _ e1) lk_X11_spoon ok_X11 (lay_c0 hLay) q_ml_L_88 rfl ⟨Nat.le_of_ble_eq_true rfl, Nat.le_of_ble_eq_true rfl⟩ rfl (Nat.le_of_ble_eq_true rfl) hcs dL_law_1044 ?_
    have hLay2 := hLay
    refine z_aload_n C 2 2 dL_law_1047 rfl rfl ?_
    refine z_aload_n C 0 0 dL_law_1048 rfl rfl ?_
    refine z_iload_n C 3 3 dL_law_1049 rfl rfl ?_
    refine z_iconst C 1 dL_law_1050 (by decide) ?_
    refine z_iadd C dL_law_1051 ?_
    refine z_sldk C hX hbl hbA 1 rfl (by omega) hL dL_law_1052 ?_
    refine z_aload_n C 0 0 dL_law_1053 rfl rfl ?_
    refine z_iload_n C 3 3 dL_law_1054 rfl rfl ?_
    refine z_iconst C 2 dL_law_1055 (by decide) ?_
    refine z_iadd C dL_law_1056 ?_
    refine z_sldk C hX hbl hbA 2 rfl (by omega) hL dL_law_1057 ?_
    refine z_aload_n C 0 0 dL_law_1058 rfl rfl ?_
    refine z_iload_n C 3 3 dL_law_1059 rfl rfl ?_
    refine z_iconst C 3 dL_law_1060 (by decide) ?_
    refine z_iadd C dL_law_1061 ?_
    refine z_sldk C hX hbl hbA 3 rfl (by omega) hL dL_law_1062 ?_
    refine z_aload_n C 0 0 dL_law_1063 rfl rfl ?_
    refine z_iload_n C 3 3 dL_law_1064 rfl rfl ?_
    refine z_iconst C 4 dL_law_1065 (by decide) ?_
    refine z_iadd C dL_law_1066 ?_
    refine z_sldk C hX hbl hbA 4 rfl (by omega) hL dL_law_1067 ?_
    refine z_if_eq C 1075 dL_law_1068 (by decide) (fun h => absurd h b4) (fun _ => ?_)
    refine z_iconst C 1 dL_law_1071 (by decide) ?_
    refine z_goto C 1076 dL_law_1072 (by decide) ?_
    refine z_cV1 C [.int r] (tX12_spoon l G hLay2 M1 (xs (i + 1)) (xs (i + 2)) (xs (i + 3)) 1 _ e2) lk_X12_spoon ok_X12 (lay_c90 hLay2) q_ml_L_91 rfl ⟨Nat.le_of_ble_eq_true rfl, Nat.le_of_ble_eq_true rfl⟩ rfl (Nat.le_of_ble_eq_true rfl) hcs dL_law_1076 ?_
    refine z_icmp_eq C 1780 dL_law_1079 (by decide) (fun _ => ?_) (fun h => absurd rfl h)
    exact hk K M2 hI2
set_option maxHeartbeats 4000000 in
set_option maxRecDepth 100000 in
theorem law_c18 {Inv : SK → MM → Prop} (hInv : ∀ K M, Inv K M → KI K) (E : E18 Inv) (C : CX p s m args meth c cL_law 4 (some .boolean) RL G) (hX : va_X b L xs s s.heap) (hbl : b < s.heap.size) (hbA : ¬ AG G b) {i : Nat} (hi : i + 6 ≤ L) (hL : L ≤ 3072) {K : SK} {M : MM} (hI : Inv K M) (hcb : cells ≤ 590000 ∧ slots ≤ 7200000) (hk : ∀ (K2 : SK) (M2 : MM), Inv K2 M2 → Z p l e room_1 s m args below meth c 4 G Q K2 cells slots M2 1780 [(0, .ref b), (1, .ref (G.1 + 0)), (2, .ref (G.1 + 90)), (3, .int (nI i))] []) : Z p l e room_1 s m args below meth c 4 G Q K cells slots M 1084 [(0, .ref b), (1, .ref (G.1 + 0)), (2, .ref (G.1 + 90)), (3, .int (nI i))] [] := by
  have hLay := (hInv K M hI).1
  have hcs : cells ≤ room_1.cells ∧ slots ≤ room_1.slots := ⟨Nat.le_trans hcb.1 (by decide), Nat.le_trans hcb.2 (by decide)⟩
  refine z_aload_n C 1 1 dL_law_1084 rfl rfl ?_
  refine z_aload_n C 0 0 dL_law_1085 rfl rfl ?_
  refine z_iload_n C 3 3 dL_law_1086 rfl rfl ?_
  refine z_iconst C 1 dL_law_1087 (by decide) ?_
  refine z_iadd C dL_law_1088 ?_
  refine z_sldk C hX hbl hbA 1 rfl (by omega) hL dL_law_1089 ?_
  refine z_aload_n C 0 0 dL_law_1090 rfl rfl ?_
  refine z_iload_n C 3 3 dL_law_1091 rfl rfl ?_
  refine z_iconst C 2 dL_law_1092 (by decide) ?_
  refine z_iadd C dL_law_1093 ?_
  refine z_sldk C hX hbl hbA 2 rfl (by omega) hL dL_law_1094 ?_
  refine z_aload_n C 0 0 dL_law_1095 rfl rfl ?_
  refine z_iload_n C 3 3 dL_law_1096 rfl rfl ?_
  refine z_iconst C 3 dL_law_1097 (by decide) ?_
  refine z_iadd C dL_law_1098 ?_
  refine z_sldk C hX hbl hbA 3 rfl (by omega) hL dL_law_1099 ?_
  refine z_aload_n C 0 0 dL_law_1100 rfl rfl ?_
  refine z_iload_n C 3 3 dL_law_1101 rfl rfl ?_
  refine z_iconst C 4 dL_law_1102 (by decide) ?_
  refine z_iadd C dL_law_1103 ?_
  refine z_sldk C hX hbl hbA 4 rfl (by omega) hL dL_law_1104 ?_
  obtain ⟨r, M1, M2, e1, e2, hI2⟩ := E K M (xs (i + 1)) (xs (i + 2)) (xs (i + 3)) (xs (i + 4)) hI
  refine z_cV1 C [] (tX11_prize l G hLay M (xs (i + 1)) (xs (i + 2)) (xs (i + 3)) (xs (i + 4)) _ e1) lk_X11_prize ok_X11 (lay_c0 hLay) q_ml_L_92 rfl ⟨Nat.le_of_ble_eq_true rfl, Nat.le_of_ble_eq_true rfl⟩ rfl (Nat.le_of_ble_eq_true rfl) hcs dL_law_1105 ?_
  have hLay2 := hLay
  refine z_aload_n C 2 2 dL_law_1108 rfl rfl ?_
  refine z_aload_n C 0 0 dL_law_1109 rfl rfl ?_
  refine z_iload_n C 3 3 dL_law_1110 rfl rfl ?_
  refine z_iconst C 1 dL_law_1111 (by decide) ?_
  refine z_iadd C dL_law_1112 ?_
  refine z_sldk C hX hbl hbA 1 rfl (by omega) hL dL_law_1113 ?_
  refine z_aload_n C 0 0 dL_law_1114 rfl rfl ?_
  refine z_iload_n C 3 3 dL_law_1115 rfl rfl ?_
  refine z_iconst C 2 dL_law_1116 (by decide) ?_
  refine z_iadd C dL_law_1117 ?_
  refine z_sldk C hX hbl hbA 2 rfl (by omega) hL dL_law_1118 ?_
  refine z_aload_n C 0 0 dL_law_1119 rfl rfl ?_
  refine z_iload_n C 3 3 dL_law_1120 rfl rfl ?_
  refine z_iconst C 3 dL_law_1121 (by decide) ?_
  refine z_iadd C dL_law_1122 ?_
  refine z_sldk C hX hbl hbA 3 rfl (by omega) hL dL_law_1123 ?_
  refine z_aload_n C 0 0 dL_law_1124 rfl rfl ?_
  refine z_iload_n C 3 3 dL_law_1125 rfl rfl ?_
  refine z_iconst C 4 dL_law_1126 (by decide) ?_
  refine z_iadd C dL_law_1127 ?_
  refine z_sldk C hX hbl hbA 4 rfl (by omega) hL dL_law_1128 ?_
  refine z_cV1 C [.int r] (tX12_prize l G hLay2 M1 (xs (i + 1)) (xs (i + 2)) (xs (i + 3)) (xs (i + 4)) _ e2) lk_X12_prize ok_X12 (lay_c90 hLay2) q_ml_L_96 rfl ⟨Nat.le_of_ble_eq_true rfl, Nat.le_of_ble_eq_true rfl⟩ rfl (Nat.le_of_ble_eq_true rfl) hcs dL_law_1129 ?_
  refine z_icmp_eq C 1780 dL_law_1132 (by decide) (fun _ => ?_) (fun h => absurd rfl h)
  exact hk K M2 hI2
set_option maxHeartbeats 4000000 in
set_option maxRecDepth 100000 in
theorem law_c19 {Inv : SK → MM → Prop} (hInv : ∀ K M, Inv K M → KI K) (E : E19 Inv) (C : CX p s m args meth c cL_law 4 (some .boolean) RL G) (hX : va_X b L xs s s.heap) (hbl : b < s.heap.size) (hbA : ¬ AG G b) {i : Nat} (hi : i + 6 ≤ L) (hL : L ≤ 3072) {K : SK} {M : MM} (hI : Inv K M) (hcb : cells ≤ 590000 ∧ slots ≤ 7200000) (hk : ∀ (K2 : SK) (M2 : MM), Inv K2 M2 → Z p l e room_1 s m args below meth c 4 G Q K2 cells slots M2 1780 [(0, .ref b), (1, .ref (G.1 + 0)), (2, .ref (G.1 + 90)), (3, .int (nI i))] []) : Z p l e room_1 s m args below meth c 4 G Q K cells slots M 1137 [(0, .ref b), (1, .ref (G.1 + 0)), (2, .ref (G.1 + 90)), (3, .int (nI i))] [] := by
  have hLay := (hInv K M hI).1
  have hcs : cells ≤ room_1.cells ∧ slots ≤ room_1.slots := ⟨Nat.le_trans hcb.1 (by decide), Nat.le_trans hcb.2 (by decide)⟩
  refine z_aload_n C 1 1 dL_law_1137 rfl rfl ?_
  refine z_aload_n C 0 0 dL_law_1138 rfl rfl ?_
  refine z_iload_n C 3 3 dL_law_1139 rfl rfl ?_
  refine z_iconst C 1 dL_law_1140 (by decide) ?_
  refine z_iadd C dL_law_1141 ?_
  refine z_sldk C hX hbl hbA 1 rfl (by omega) hL dL_law_1142 ?_
  refine z_aload_n C 0 0 dL_law_1143 rfl rfl ?_
  refine z_iload_n C 3 3 dL_law_1144 rfl rfl ?_
  refine z_iconst C 2 dL_law_1145 (by decide) ?_
  refine z_iadd C dL_law_1146 ?_
  refine z_sldk C hX hbl hbA 2 rfl (by omega) hL dL_law_1147 ?_
  refine z_aload_n C 0 0 dL_law_1148 rfl rfl ?_
  refine z_iload_n C 3 3 dL_law_1149 rfl rfl ?_
  refine z_iconst C 3 dL_law_1150 (by decide) ?_
  refine z_iadd C dL_law_1151 ?_
  refine z_sldk C hX hbl hbA 3 rfl (by omega) hL dL_law_1152 ?_
  obtain ⟨r, M1, M2, e1, e2, hI2⟩ := E K M (xs (i + 1)) (xs (i + 2)) (xs (i + 3)) hI
  refine z_cV1 C [] (tX11_rest l G hLay M (xs (i + 1)) (xs (i + 2)) (xs (i + 3)) _ e1) lk_X11_rest ok_X11 (lay_c0 hLay) q_ml_L_97 rfl ⟨Nat.le_of_ble_eq_true rfl, Nat.le_of_ble_eq_true rfl⟩ rfl (Nat.le_of_ble_eq_true rfl) hcs dL_law_1153 ?_
  have hLay2 := hLay
  refine z_aload_n C 2 2 dL_law_1156 rfl rfl ?_
  refine z_aload_n C 0 0 dL_law_1157 rfl rfl ?_
  refine z_iload_n C 3 3 dL_law_1158 rfl rfl ?_
  refine z_iconst C 1 dL_law_1159 (by decide) ?_
  refine z_iadd C dL_law_1160 ?_
  refine z_sldk C hX hbl hbA 1 rfl (by omega) hL dL_law_1161 ?_
  refine z_aload_n C 0 0 dL_law_1162 rfl rfl ?_
  refine z_iload_n C 3 3 dL_law_1163 rfl rfl ?_
  refine z_iconst C 2 dL_law_1164 (by decide) ?_
  refine z_iadd C dL_law_1165 ?_
  refine z_sldk C hX hbl hbA 2 rfl (by omega) hL dL_law_1166 ?_
  refine z_aload_n C 0 0 dL_law_1167 rfl rfl ?_
  refine z_iload_n C 3 3 dL_law_1168 rfl rfl ?_
  refine z_iconst C 3 dL_law_1169 (by decide) ?_
  refine z_iadd C dL_law_1170 ?_
  refine z_sldk C hX hbl hbA 3 rfl (by omega) hL dL_law_1171 ?_
  refine z_cV1 C [.int r] (tX12_rest l G hLay2 M1 (xs (i + 1)) (xs (i + 2)) (xs (i + 3)) _ e2) lk_X12_rest ok_X12 (lay_c90 hLay2) q_ml_L_100 rfl ⟨Nat.le_of_ble_eq_true rfl, Nat.le_of_ble_eq_true rfl⟩ rfl (Nat.le_of_ble_eq_true rfl) hcs dL_law_1172 ?_
  refine z_icmp_eq C 1780 dL_law_1175 (by decide) (fun _ => ?_) (fun h => absurd rfl h)
  exact hk K M2 hI2
set_option maxHeartbeats 4000000 in
set_option maxRecDepth 100000 in
theorem law_c20 {Inv : SK → MM → Prop} (hInv : ∀ K M, Inv K M → KI K) (E : E20 Inv) (C : CX p s m args meth c cL_law 4 (some .boolean) RL G) (hX : va_X b L xs s s.heap) (hbl : b < s.heap.size) (hbA : ¬ AG G b) {i : Nat} (hi : i + 6 ≤ L) (hL : L ≤ 3072) {K : SK} {M : MM} (hI : Inv K M) (hcb : cells ≤ 590000 ∧ slots ≤ 7200000) (hk : ∀ (K2 : SK) (M2 : MM), Inv K2 M2 → Z p l e room_1 s m args below meth c 4 G Q K2 cells slots M2 1780 [(0, .ref b), (1, .ref (G.1 + 0)), (2, .ref (G.1 + 90)), (3, .int (nI i))] []) : Z p l e room_1 s m args below meth c 4 G Q K cells slots M 1180 [(0, .ref b), (1, .ref (G.1 + 0)), (2, .ref (G.1 + 90)), (3, .int (nI i))] [] := by
  have hLay := (hInv K M hI).1
  have hcs : cells ≤ room_1.cells ∧ slots ≤ room_1.slots := ⟨Nat.le_trans hcb.1 (by decide), Nat.le_trans hcb.2 (by decide)⟩
  refine z_aload_n C 1 1 dL_law_1180 rfl rfl ?_
  refine z_aload_n C 0 0 dL_law_1181 rfl rfl ?_
  refine z_iload_n C 3 3 dL_law_1182 rfl rfl ?_
  refine z_iconst C 1 dL_law_1183 (by decide) ?_
  refine z_iadd C dL_law_1184 ?_
  refine z_sldk C hX hbl hbA 1 rfl (by omega) hL dL_law_1185 ?_
  refine z_aload_n C 0 0 dL_law_1186 rfl rfl ?_
  refine z_iload_n C 3 3 dL_law_1187 rfl rfl ?_
  refine z_iconst C 2 dL_law_1188 (by decide) ?_
  refine z_iadd C dL_law_1189 ?_
  refine z_sldk C hX hbl hbA 2 rfl (by omega) hL dL_law_1190 ?_
  refine z_aload_n C 0 0 dL_law_1191 rfl rfl ?_
  refine z_iload_n C 3 3 dL_law_1192 rfl rfl ?_
  refine z_iconst C 3 dL_law_1193 (by decide) ?_
  refine z_iadd C dL_law_1194 ?_
  refine z_sldk C hX hbl hbA 3 rfl (by omega) hL dL_law_1195 ?_
  obtain ⟨r, M1, M2, e1, e2, hI2⟩ := E K M (xs (i + 1)) (xs (i + 2)) (xs (i + 3)) hI
  refine z_cV1 C [] (tX11_way l G hLay M (xs (i + 1)) (xs (i + 2)) (xs (i + 3)) _ e1) lk_X11_way ok_X11 (lay_c0 hLay) q_ml_L_101 rfl ⟨Nat.le_of_ble_eq_true rfl, Nat.le_of_ble_eq_true rfl⟩ rfl (Nat.le_of_ble_eq_true rfl) hcs dL_law_1196 ?_
  have hLay2 := hLay
  refine z_aload_n C 2 2 dL_law_1199 rfl rfl ?_
  refine z_aload_n C 0 0 dL_law_1200 rfl rfl ?_
  refine z_iload_n C 3 3 dL_law_1201 rfl rfl ?_
  refine z_iconst C 1 dL_law_1202 (by decide) ?_
  refine z_iadd C dL_law_1203 ?_
  refine z_sldk C hX hbl hbA 1 rfl (by omega) hL dL_law_1204 ?_
  refine z_aload_n C 0 0 dL_law_1205 rfl rfl ?_
  refine z_iload_n C 3 3 dL_law_1206 rfl rfl ?_
  refine z_iconst C 2 dL_law_1207 (by decide) ?_
  refine z_iadd C dL_law_1208 ?_
  refine z_sldk C hX hbl hbA 2 rfl (by omega) hL dL_law_1209 ?_
  refine z_aload_n C 0 0 dL_law_1210 rfl rfl ?_
  refine z_iload_n C 3 3 dL_law_1211 rfl rfl ?_
  refine z_iconst C 3 dL_law_1212 (by decide) ?_
  refine z_iadd C dL_law_1213 ?_
  refine z_sldk C hX hbl hbA 3 rfl (by omega) hL dL_law_1214 ?_
  refine z_cV1 C [.int r] (tX12_way l G hLay2 M1 (xs (i + 1)) (xs (i + 2)) (xs (i + 3)) _ e2) lk_X12_way ok_X12 (lay_c90 hLay2) q_ml_L_104 rfl ⟨Nat.le_of_ble_eq_true rfl, Nat.le_of_ble_eq_true rfl⟩ rfl (Nat.le_of_ble_eq_true rfl) hcs dL_law_1215 ?_
  refine z_icmp_eq C 1780 dL_law_1218 (by decide) (fun _ => ?_) (fun h => absurd rfl h)
  exact hk K M2 hI2
set_option maxHeartbeats 4000000 in
set_option maxRecDepth 100000 in
theorem law_c21 {Inv : SK → MM → Prop} (hInv : ∀ K M, Inv K M → KI K) (E : E21 Inv) (C : CX p s m args meth c cL_law 4 (some .boolean) RL G) (hX : va_X b L xs s s.heap) (hbl : b < s.heap.size) (hbA : ¬ AG G b) {i : Nat} (hi : i + 6 ≤ L) (hL : L ≤ 3072) {K : SK} {M : MM} (hI : Inv K M) (hcb : cells ≤ 590000 ∧ slots ≤ 7200000) (hk : ∀ (K2 : SK) (M2 : MM), Inv K2 M2 → Z p l e room_1 s m args below meth c 4 G Q K2 cells slots M2 1780 [(0, .ref b), (1, .ref (G.1 + 0)), (2, .ref (G.1 + 90)), (3, .int (nI i))] []) : Z p l e room_1 s m args below meth c 4 G Q K cells slots M 1223 [(0, .ref b), (1, .ref (G.1 + 0)), (2, .ref (G.1 + 90)), (3, .int (nI i))] [] := by
  have hLay := (hInv K M hI).1
  have hcs : cells ≤ room_1.cells ∧ slots ≤ room_1.slots := ⟨Nat.le_trans hcb.1 (by decide), Nat.le_trans hcb.2 (by decide)⟩
  refine z_aload_n C 1 1 dL_law_1223 rfl rfl ?_
  refine z_aload_n C 0 0 dL_law_1224 rfl rfl ?_
  refine z_iload_n C 3 3 dL_law_1225 rfl rfl ?_
  refine z_iconst C 1 dL_law_1226 (by decide) ?_
  refine z_iadd C dL_law_1227 ?_
  refine z_sldk C hX hbl hbA 1 rfl (by omega) hL dL_law_1228 ?_
  refine z_aload_n C 0 0 dL_law_1229 rfl rfl ?_
  refine z_iload_n C 3 3 dL_law_1230 rfl rfl ?_
  refine z_iconst C 2 dL_law_1231 (by decide) ?_
  refine z_iadd C dL_law_1232 ?_
  refine z_sldk C hX hbl hbA 2 rfl (by omega) hL dL_law_1233 ?_
  refine z_aload_n C 0 0 dL_law_1234 rfl rfl ?_
  refine z_iload_n C 3 3 dL_law_1235 rfl rfl ?_
  refine z_iconst C 3 dL_law_1236 (by decide) ?_
  refine z_iadd C dL_law_1237 ?_
  refine z_sldk C hX hbl hbA 3 rfl (by omega) hL dL_law_1238 ?_
  obtain ⟨r, M1, M2, e1, e2, hI2⟩ := E K M (xs (i + 1)) (xs (i + 2)) (xs (i + 3)) hI
  refine z_cV1 C [] (tX11_round l G hLay M (xs (i + 1)) (xs (i + 2)) (xs (i + 3)) _ e1) lk_X11_round ok_X11 (lay_c0 hLay) q_ml_L_105 rfl ⟨Nat.le_of_ble_eq_true rfl, Nat.le_of_ble_eq_true rfl⟩ rfl (Nat.le_of_ble_eq_true rfl) hcs dL_law_1239 ?_
  have hLay2 := hLay
  refine z_aload_n C 2 2 dL_law_1242 rfl rfl ?_
  refine z_aload_n C 0 0 dL_law_1243 rfl rfl ?_
  refine z_iload_n C 3 3 dL_law_1244 rfl rfl ?_
  refine z_iconst C 1 dL_law_1245 (by decide) ?_
  refine z_iadd C dL_law_1246 ?_
  refine z_sldk C hX hbl hbA 1 rfl (by omega) hL dL_law_1247 ?_
  refine z_aload_n C 0 0 dL_law_1248 rfl rfl ?_
  refine z_iload_n C 3 3 dL_law_1249 rfl rfl ?_
  refine z_iconst C 2 dL_law_1250 (by decide) ?_
  refine z_iadd C dL_law_1251 ?_
  refine z_sldk C hX hbl hbA 2 rfl (by omega) hL dL_law_1252 ?_
  refine z_aload_n C 0 0 dL_law_1253 rfl rfl ?_
  refine z_iload_n C 3 3 dL_law_1254 rfl rfl ?_
  refine z_iconst C 3 dL_law_1255 (by decide) ?_
  refine z_iadd C dL_law_1256 ?_
  refine z_sldk C hX hbl hbA 3 rfl (by omega) hL dL_law_1257 ?_
  refine z_cV1 C [.int r] (tX12_round l G hLay2 M1 (xs (i + 1)) (xs (i + 2)) (xs (i + 3)) _ e2) lk_X12_round ok_X12 (lay_c90 hLay2) q_ml_L_108 rfl ⟨Nat.le_of_ble_eq_true rfl, Nat.le_of_ble_eq_true rfl⟩ rfl (Nat.le_of_ble_eq_true rfl) hcs dL_law_1258 ?_
  refine z_icmp_eq C 1780 dL_law_1261 (by decide) (fun _ => ?_) (fun h => absurd rfl h)
  exact hk K M2 hI2
set_option maxHeartbeats 4000000 in
set_option maxRecDepth 100000 in
theorem law_c22 {Inv : SK → MM → Prop} (hInv : ∀ K M, Inv K M → KI K) (E : E22 Inv) (C : CX p s m args meth c cL_law 4 (some .boolean) RL G) (hX : va_X b L xs s s.heap) (hbl : b < s.heap.size) (hbA : ¬ AG G b) {i : Nat} (hi : i + 6 ≤ L) (hL : L ≤ 3072) {K : SK} {M : MM} (hI : Inv K M) (hcb : cells ≤ 590000 ∧ slots ≤ 7200000) (hk : ∀ (K2 : SK) (M2 : MM), Inv K2 M2 → Z p l e room_1 s m args below meth c 4 G Q K2 cells slots M2 1780 [(0, .ref b), (1, .ref (G.1 + 0)), (2, .ref (G.1 + 90)), (3, .int (nI i))] []) : Z p l e room_1 s m args below meth c 4 G Q K cells slots M 1266 [(0, .ref b), (1, .ref (G.1 + 0)), (2, .ref (G.1 + 90)), (3, .int (nI i))] [] := by
  have hLay := (hInv K M hI).1
  have hcs : cells ≤ room_1.cells ∧ slots ≤ room_1.slots := ⟨Nat.le_trans hcb.1 (by decide), Nat.le_trans hcb.2 (by decide)⟩
  refine z_aload_n C 1 1 dL_law_1266 rfl rfl ?_
  refine z_aload_n C 0 0 dL_law_1267 rfl rfl ?_
  refine z_iload_n C 3 3 dL_law_1268 rfl rfl ?_
  refine z_iconst C 1 dL_law_1269 (by decide) ?_
  refine z_iadd C dL_law_1270 ?_
  refine z_sldk C hX hbl hbA 1 rfl (by omega) hL dL_law_1271 ?_
  refine z_aload_n C 0 0 dL_law_1272 rfl rfl ?_
  refine z_iload_n C 3 3 dL_law_1273 rfl rfl ?_
  refine z_iconst C 2 dL_law_1274 (by decide) ?_
  refine z_iadd C dL_law_1275 ?_
  refine z_sldk C hX hbl hbA 2 rfl (by omega) hL dL_law_1276 ?_
  obtain ⟨r, M2, e1, e2, hI2⟩ := E K M (xs (i + 1)) (xs (i + 2)) hI
  refine z_cV1 C [] (tX11_sight l G hLay M (xs (i + 1)) (xs (i + 2)) _ e1) lk_X11_sight ok_X11 (lay_c0 hLay) q_ml_L_109 rfl ⟨Nat.le_of_ble_eq_true rfl, Nat.le_of_ble_eq_true rfl⟩ rfl (Nat.le_of_ble_eq_true rfl) hcs dL_law_1277 ?_
  have hLay2 := hLay
  refine z_aload_n C 2 2 dL_law_1280 rfl rfl ?_
  refine z_aload_n C 0 0 dL_law_1281 rfl rfl ?_
  refine z_iload_n C 3 3 dL_law_1282 rfl rfl ?_
  refine z_iconst C 1 dL_law_1283 (by decide) ?_
  refine z_iadd C dL_law_1284 ?_
  refine z_sldk C hX hbl hbA 1 rfl (by omega) hL dL_law_1285 ?_
  refine z_aload_n C 0 0 dL_law_1286 rfl rfl ?_
  refine z_iload_n C 3 3 dL_law_1287 rfl rfl ?_
  refine z_iconst C 2 dL_law_1288 (by decide) ?_
  refine z_iadd C dL_law_1289 ?_
  refine z_sldk C hX hbl hbA 2 rfl (by omega) hL dL_law_1290 ?_
  refine z_cV1 C [.int r] (tX12_sight l G hLay2 M (xs (i + 1)) (xs (i + 2)) _ e2) lk_X12_sight ok_X12 (lay_c90 hLay2) q_ml_L_112 rfl ⟨Nat.le_of_ble_eq_true rfl, Nat.le_of_ble_eq_true rfl⟩ rfl (Nat.le_of_ble_eq_true rfl) hcs dL_law_1291 ?_
  refine z_icmp_eq C 1780 dL_law_1294 (by decide) (fun _ => ?_) (fun h => absurd rfl h)
  exact hk K M2 hI2
set_option maxHeartbeats 4000000 in
set_option maxRecDepth 100000 in
theorem law_c23 {Inv : SK → MM → Prop} (hInv : ∀ K M, Inv K M → KI K) (E : E23 Inv) (C : CX p s m args meth c cL_law 4 (some .boolean) RL G) (hX : va_X b L xs s s.heap) (hbl : b < s.heap.size) (hbA : ¬ AG G b) {i : Nat} (hi : i + 6 ≤ L) (hL : L ≤ 3072) {K : SK} {M : MM} (hI : Inv K M) (hcb : cells ≤ 590000 ∧ slots ≤ 7200000) (hk : ∀ (K2 : SK) (M2 : MM), Inv K2 M2 → Z p l e room_1 s m args below meth c 4 G Q K2 cells slots M2 1780 [(0, .ref b), (1, .ref (G.1 + 0)), (2, .ref (G.1 + 90)), (3, .int (nI i))] []) : Z p l e room_1 s m args below meth c 4 G Q K cells slots M 1299 [(0, .ref b), (1, .ref (G.1 + 0)), (2, .ref (G.1 + 90)), (3, .int (nI i))] [] := by
  have hLay := (hInv K M hI).1
  have hcs : cells ≤ room_1.cells ∧ slots ≤ room_1.slots := ⟨Nat.le_trans hcb.1 (by decide), Nat.le_trans hcb.2 (by decide)⟩
  refine z_aload_n C 1 1 dL_law_1299 rfl rfl ?_
  refine z_aload_n C 0 0 dL_law_1300 rfl rfl ?_
  refine z_iload_n C 3 3 dL_law_1301 rfl rfl ?_
  refine z_iconst C 1 dL_law_1302 (by decide) ?_
  refine z_iadd C dL_law_1303 ?_
  refine z_sldk C hX hbl hbA 1 rfl (by omega) hL dL_law_1304 ?_
  refine z_aload_n C 0 0 dL_law_1305 rfl rfl ?_
  refine z_iload_n C 3 3 dL_law_1306 rfl rfl ?_
  refine z_iconst C 2 dL_law_1307 (by decide) ?_
  refine z_iadd C dL_law_1308 ?_
  refine z_sldk C hX hbl hbA 2 rfl (by omega) hL dL_law_1309 ?_
  refine z_aload_n C 0 0 dL_law_1310 rfl rfl ?_
  refine z_iload_n C 3 3 dL_law_1311 rfl rfl ?_
  refine z_iconst C 3 dL_law_1312 (by decide) ?_
  refine z_iadd C dL_law_1313 ?_
  refine z_sldk C hX hbl hbA 3 rfl (by omega) hL dL_law_1314 ?_
  refine z_aload_n C 0 0 dL_law_1315 rfl rfl ?_
  refine z_iload_n C 3 3 dL_law_1316 rfl rfl ?_
  refine z_iconst C 4 dL_law_1317 (by decide) ?_
  refine z_iadd C dL_law_1318 ?_
  refine z_sldk C hX hbl hbA 4 rfl (by omega) hL dL_law_1319 ?_
  obtain ⟨r, M1, M2, e1, e2, hI2⟩ := E K M (xs (i + 1)) (xs (i + 2)) (xs (i + 3)) (xs (i + 4)) hI
  refine z_cV1 C [] (tX11_fits l G hLay M (xs (i + 1)) (xs (i + 2)) (xs (i + 3)) (xs (i + 4)) _ e1) lk_X11_fits ok_X11 (lay_c0 hLay) q_ml_L_113 rfl ⟨Nat.le_of_ble_eq_true rfl, Nat.le_of_ble_eq_true rfl⟩ rfl (Nat.le_of_ble_eq_true rfl) hcs dL_law_1320 ?_
  have hLay2 := hLay
  refine z_aload_n C 2 2 dL_law_1323 rfl rfl ?_
  refine z_aload_n C 0 0 dL_law_1324 rfl rfl ?_
  refine z_iload_n C 3 3 dL_law_1325 rfl rfl ?_
  refine z_iconst C 1 dL_law_1326 (by decide) ?_
  refine z_iadd C dL_law_1327 ?_
  refine z_sldk C hX hbl hbA 1 rfl (by omega) hL dL_law_1328 ?_
  refine z_aload_n C 0 0 dL_law_1329 rfl rfl ?_
  refine z_iload_n C 3 3 dL_law_1330 rfl rfl ?_
  refine z_iconst C 2 dL_law_1331 (by decide) ?_
  refine z_iadd C dL_law_1332 ?_
  refine z_sldk C hX hbl hbA 2 rfl (by omega) hL dL_law_1333 ?_
  refine z_aload_n C 0 0 dL_law_1334 rfl rfl ?_
  refine z_iload_n C 3 3 dL_law_1335 rfl rfl ?_
  refine z_iconst C 3 dL_law_1336 (by decide) ?_
  refine z_iadd C dL_law_1337 ?_
  refine z_sldk C hX hbl hbA 3 rfl (by omega) hL dL_law_1338 ?_
  refine z_aload_n C 0 0 dL_law_1339 rfl rfl ?_
  refine z_iload_n C 3 3 dL_law_1340 rfl rfl ?_
  refine z_iconst C 4 dL_law_1341 (by decide) ?_
  refine z_iadd C dL_law_1342 ?_
  refine z_sldk C hX hbl hbA 4 rfl (by omega) hL dL_law_1343 ?_
  refine z_cV1 C [.int r] (tX12_fits l G hLay2 M1 (xs (i + 1)) (xs (i + 2)) (xs (i + 3)) (xs (i + 4)) _ e2) lk_X12_fits ok_X12 (lay_c90 hLay2) q_ml_L_116 rfl ⟨Nat.le_of_ble_eq_true rfl, Nat.le_of_ble_eq_true rfl⟩ rfl (Nat.le_of_ble_eq_true rfl) hcs dL_law_1344 ?_
  refine z_icmp_eq C 1780 dL_law_1347 (by decide) (fun _ => ?_) (fun h => absurd rfl h)
  exact hk K M2 hI2
set_option maxHeartbeats 4000000 in
set_option maxRecDepth 100000 in
theorem law_c24 {Inv : SK → MM → Prop} (hInv : ∀ K M, Inv K M → KI K) (E : E24 Inv) (C : CX p s m args meth c cL_law 4 (some .boolean) RL G) (hX : va_X b L xs s s.heap) (hbl : b < s.heap.size) (hbA : ¬ AG G b) {i : Nat} (hi : i + 6 ≤ L) (hL : L ≤ 3072) {K : SK} {M : MM} (hI : Inv K M) (hcb : cells ≤ 590000 ∧ slots ≤ 7200000) (hk : ∀ (K2 : SK) (M2 : MM), Inv K2 M2 → Z p l e room_1 s m args below meth c 4 G Q K2 cells slots M2 1780 [(0, .ref b), (1, .ref (G.1 + 0)), (2, .ref (G.1 + 90)), (3, .int (nI i))] []) : Z p l e room_1 s m args below meth c 4 G Q K cells slots M 1352 [(0, .ref b), (1, .ref (G.1 + 0)), (2, .ref (G.1 + 90)), (3, .int (nI i))] [] := by
  have hLay := (hInv K M hI).1
  have hcs : cells ≤ room_1.cells ∧ slots ≤ room_1.slots := ⟨Nat.le_trans hcb.1 (by decide), Nat.le_trans hcb.2 (by decide)⟩
  refine z_aload_n C 1 1 dL_law_1352 rfl rfl ?_
  refine z_aload_n C 0 0 dL_law_1353 rfl rfl ?_
  refine z_iload_n C 3 3 dL_law_1354 rfl rfl ?_
  refine z_iconst C 1 dL_law_1355 (by decide) ?_
  refine z_iadd C dL_law_1356 ?_
  refine z_sldk C hX hbl hbA 1 rfl (by omega) hL dL_law_1357 ?_
  refine z_aload_n C 0 0 dL_law_1358 rfl rfl ?_
  refine z_iload_n C 3 3 dL_law_1359 rfl rfl ?_
  refine z_iconst C 2 dL_law_1360 (by decide) ?_
  refine z_iadd C dL_law_1361 ?_
  refine z_sldk C hX hbl hbA 2 rfl (by omega) hL dL_law_1362 ?_
  refine z_aload_n C 0 0 dL_law_1363 rfl rfl ?_
  refine z_iload_n C 3 3 dL_law_1364 rfl rfl ?_
  refine z_iconst C 3 dL_law_1365 (by decide) ?_
  refine z_iadd C dL_law_1366 ?_
  refine z_sldk C hX hbl hbA 3 rfl (by omega) hL dL_law_1367 ?_
  refine z_aload_n C 0 0 dL_law_1368 rfl rfl ?_
  refine z_iload_n C 3 3 dL_law_1369 rfl rfl ?_
  refine z_iconst C 4 dL_law_1370 (by decide) ?_
  refine z_iadd C dL_law_1371 ?_
  refine z_sldk C hX hbl hbA 4 rfl (by omega) hL dL_law_1372 ?_
  refine z_if_eq C 1380 dL_law_1373 (by decide) (fun b4 => ?_) (fun b4 => ?_)
  · refine z_iconst C 0 dL_law_1380 (by decide) ?_
    obtain ⟨r, M1, M2, e1, e2, hI2⟩ := E K M (xs (i + 1)) (xs (i + 2)) (xs (i + 3)) 0 (Or.inl rfl) hI
    refine z_cV1 C [] (tX11_wind l G hLay M (xs (i + 1)) (xs (i + 2)) (xs (i + 3)) 0 _ e1) lk_X11_wind ok_X11 (lay_c0 hLay) q_ml_L_117 rfl ⟨Nat.le_of_ble_eq_true rfl, Nat.le_of_ble_eq_true rfl⟩ rfl (Nat.le_of_ble_eq_true rfl) hcs dL_law_1381 ?_
    have hLay2 := hLay
    refine z_aload_n C 2 2 dL_law_1384 rfl rfl ?_
    refine z_aload_n C 0 0 dL_law_1385 rfl rfl ?_
    refine z_iload_n C 3 3 dL_law_1386 rfl rfl ?_
    refine z_iconst C 1 dL_law_1387 (by decide) ?_
    refine z_iadd C dL_law_1388 ?_
    refine z_sldk C hX hbl hbA 1 rfl (by omega) hL dL_law_1389 ?_
    refine z_aload_n C 0 0 dL_law_1390 rfl rfl ?_
    refine z_iload_n C 3 3 dL_law_1391 rfl rfl ?_
    refine z_iconst C 2 dL_law_1392 (by decide) ?_
    refine z_iadd C dL_law_1393 ?_
    refine z_sldk C hX hbl hbA 2 rfl (by omega) hL dL_law_1394 ?_
    refine z_aload_n C 0 0 dL_law_1395 rfl rfl ?_
    refine z_iload_n C 3 3 dL_law_1396 rfl rfl ?_
    refine z_iconst C 3 dL_law_1397 (by decide) ?_
    refine z_iadd C dL_law_1398 ?_
    refine z_sldk C hX hbl hbA 3 rfl (by omega) hL dL_law_1399 ?_
    refine z_aload_n C 0 0 dL_law_1400 rfl rfl ?_
    refine z_iload_n C 3 3 dL_law_1401 rfl rfl ?_
    refine z_iconst C 4 dL_law_1402 (by decide) ?_
    refine z_iadd C dL_law_1403 ?_
    refine z_sldk C hX hbl hbA 4 rfl (by omega) hL dL_law_1404 ?_
    refine z_if_eq C 1412 dL_law_1405 (by decide) (fun _ => ?_) (fun h => absurd b4 h)
    refine z_iconst C 0 dL_law_1412 (by decide) ?_
    refine z_cV1 C [.int r] (tX12_wind l G hLay2 M1 (xs (i + 1)) (xs (i + 2)) (xs (i + 3)) 0 _ e2) lk_X12_wind ok_X12 (lay_c90 hLay2) q_ml_L_120 rfl ⟨Nat.le_of_ble_eq_true rfl, Nat.le_of_ble_eq_true rfl⟩ rfl (Nat.le_of_ble_eq_true rfl) hcs dL_law_1413 ?_
    refine z_icmp_eq C 1780 dL_law_1416 (by decide) (fun _ => ?_) (fun h => absurd rfl h)
    exact hk K M2 hI2
  · refine z_iconst C 1 dL_law_1376 (by decide) ?_
    refine z_goto C 1381 dL_law_1377 (by decide) ?_
    obtain ⟨r, M1, M2, e1, e2, hI2⟩ := E K M (xs (i + 1)) (xs (i + 2)) (xs (i + 3)) 1 (Or.inr rfl) hI
    refine z_cV1 C [] (tX11_wind l G hLay M (xs (i + 1)) (xs (i + 2)) (xs (i + 3)) 1 _ e1) lk_X11_wind ok_X11 (lay_c0 hLay) q_ml_L_117 rfl ⟨Nat.le_of_ble_eq_true rfl, Nat.le_of_ble_eq_true rfl⟩ rfl (Nat.le_of_ble_eq_true rfl) hcs dL_law_1381 ?_
    have hLay2 := hLay
    refine z_aload_n C 2 2 dL_law_1384 rfl rfl ?_
    refine z_aload_n C 0 0 dL_law_1385 rfl rfl ?_
    refine z_iload_n C 3 3 dL_law_1386 rfl rfl ?_
    refine z_iconst C 1 dL_law_1387 (by decide) ?_
    refine z_iadd C dL_law_1388 ?_
    refine z_sldk C hX hbl hbA 1 rfl (by omega) hL dL_law_1389 ?_
    refine z_aload_n C 0 0 dL_law_1390 rfl rfl ?_
    refine z_iload_n C 3 3 dL_law_1391 rfl rfl ?_
    refine z_iconst C 2 dL_law_1392 (by decide) ?_
    refine z_iadd C dL_law_1393 ?_
    refine z_sldk C hX hbl hbA 2 rfl (by omega) hL dL_law_1394 ?_
    refine z_aload_n C 0 0 dL_law_1395 rfl rfl ?_
    refine z_iload_n C 3 3 dL_law_1396 rfl rfl ?_
    refine z_iconst C 3 dL_law_1397 (by decide) ?_
    refine z_iadd C dL_law_1398 ?_
    refine z_sldk C hX hbl hbA 3 rfl (by omega) hL dL_law_1399 ?_
    refine z_aload_n C 0 0 dL_law_1400 rfl rfl ?_
    refine z_iload_n C 3 3 dL_law_1401 rfl rfl ?_
    refine z_iconst C 4 dL_law_1402 (by decide) ?_
    refine z_iadd C dL_law_1403 ?_
    refine z_sldk C hX hbl hbA 4 rfl (by omega) hL dL_law_1404 ?_
    refine z_if_eq C 1412 dL_law_1405 (by decide) (fun h => absurd h b4) (fun _ => ?_)
    refine z_iconst C 1 dL_law_1408 (by decide) ?_
    refine z_goto C 1413 dL_law_1409 (by decide) ?_
    refine z_cV1 C [.int r] (tX12_wind l G hLay2 M1 (xs (i + 1)) (xs (i + 2)) (xs (i + 3)) 1 _ e2) lk_X12_wind ok_X12 (lay_c90 hLay2) q_ml_L_120 rfl ⟨Nat.le_of_ble_eq_true rfl, Nat.le_of_ble_eq_true rfl⟩ rfl (Nat.le_of_ble_eq_true rfl) hcs dL_law_1413 ?_
    refine z_icmp_eq C 1780 dL_law_1416 (by decide) (fun _ => ?_) (fun h => absurd rfl h)
    exact hk K M2 hI2
set_option maxHeartbeats 4000000 in
set_option maxRecDepth 100000 in
theorem law_c25 {Inv : SK → MM → Prop} (hInv : ∀ K M, Inv K M → KI K) (E : E25 Inv) (C : CX p s m args meth c cL_law 4 (some .boolean) RL G) (hX : va_X b L xs s s.heap) (hbl : b < s.heap.size) (hbA : ¬ AG G b) {i : Nat} (hi : i + 6 ≤ L) (hL : L ≤ 3072) {K : SK} {M : MM} (hI : Inv K M) (hcb : cells ≤ 590000 ∧ slots ≤ 7200000) (hk : ∀ (K2 : SK) (M2 : MM), Inv K2 M2 → Z p l e room_1 s m args below meth c 4 G Q K2 cells slots M2 1780 [(0, .ref b), (1, .ref (G.1 + 0)), (2, .ref (G.1 + 90)), (3, .int (nI i))] []) : Z p l e room_1 s m args below meth c 4 G Q K cells slots M 1421 [(0, .ref b), (1, .ref (G.1 + 0)), (2, .ref (G.1 + 90)), (3, .int (nI i))] [] := by
  have hLay := (hInv K M hI).1
  have hcs : cells ≤ room_1.cells ∧ slots ≤ room_1.slots := ⟨Nat.le_trans hcb.1 (by decide), Nat.le_trans hcb.2 (by decide)⟩
  refine z_aload_n C 1 1 dL_law_1421 rfl rfl ?_
  refine z_aload_n C 0 0 dL_law_1422 rfl rfl ?_
  refine z_iload_n C 3 3 dL_law_1423 rfl rfl ?_
  refine z_iconst C 1 dL_law_1424 (by decide) ?_
  refine z_iadd C dL_law_1425 ?_
  refine z_sldk C hX hbl hbA 1 rfl (by omega) hL dL_law_1426 ?_
  refine z_aload_n C 0 0 dL_law_1427 rfl rfl ?_
  refine z_iload_n C 3 3 dL_law_1428 rfl rfl ?_
  refine z_iconst C 2 dL_law_1429 (by decide) ?_
  refine z_iadd C dL_law_1430 ?_
  refine z_sldk C hX hbl hbA 2 rfl (by omega) hL dL_law_1431 ?_
  obtain ⟨r, M1, M2, e1, e2, hI2⟩ := E K M (xs (i + 1)) (xs (i + 2)) hI
  refine z_cV1 C [] (tX11_clan l G hLay M (xs (i + 1)) (xs (i + 2)) _ e1) lk_X11_clan ok_X11 (lay_c0 hLay) q_ml_L_121 rfl ⟨Nat.le_of_ble_eq_true rfl, Nat.le_of_ble_eq_true rfl⟩ rfl (Nat.le_of_ble_eq_true rfl) hcs dL_law_1432 ?_
  have hLay2 := hLay
  refine z_aload_n C 2 2 dL_law_1435 rfl rfl ?_
  refine z_aload_n C 0 0 dL_law_1436 rfl rfl ?_
  refine z_iload_n C 3 3 dL_law_1437 rfl rfl ?_
  refine z_iconst C 1 dL_law_1438 (by decide) ?_
  refine z_iadd C dL_law_1439 ?_
  refine z_sldk C hX hbl hbA 1 rfl (by omega) hL dL_law_1440 ?_
  refine z_aload_n C 0 0 dL_law_1441 rfl rfl ?_
  refine z_iload_n C 3 3 dL_law_1442 rfl rfl ?_
  refine z_iconst C 2 dL_law_1443 (by decide) ?_
  refine z_iadd C dL_law_1444 ?_
  refine z_sldk C hX hbl hbA 2 rfl (by omega) hL dL_law_1445 ?_
  refine z_cV1 C [.int r] (tX12_clan l G hLay2 M1 (xs (i + 1)) (xs (i + 2)) _ e2) lk_X12_clan ok_X12 (lay_c90 hLay2) q_ml_L_124 rfl ⟨Nat.le_of_ble_eq_true rfl, Nat.le_of_ble_eq_true rfl⟩ rfl (Nat.le_of_ble_eq_true rfl) hcs dL_law_1446 ?_
  refine z_icmp_eq C 1780 dL_law_1449 (by decide) (fun _ => ?_) (fun h => absurd rfl h)
  exact hk K M2 hI2
set_option maxHeartbeats 4000000 in
set_option maxRecDepth 100000 in
theorem law_c26 {Inv : SK → MM → Prop} (hInv : ∀ K M, Inv K M → KI K) (E : E26 Inv) (C : CX p s m args meth c cL_law 4 (some .boolean) RL G) (hX : va_X b L xs s s.heap) (hbl : b < s.heap.size) (hbA : ¬ AG G b) {i : Nat} (hi : i + 6 ≤ L) (hL : L ≤ 3072) {K : SK} {M : MM} (hI : Inv K M) (hcb : cells ≤ 590000 ∧ slots ≤ 7200000) (hk : ∀ (K2 : SK) (M2 : MM), Inv K2 M2 → Z p l e room_1 s m args below meth c 4 G Q K2 cells slots M2 1780 [(0, .ref b), (1, .ref (G.1 + 0)), (2, .ref (G.1 + 90)), (3, .int (nI i))] []) : Z p l e room_1 s m args below meth c 4 G Q K cells slots M 1454 [(0, .ref b), (1, .ref (G.1 + 0)), (2, .ref (G.1 + 90)), (3, .int (nI i))] [] := by
  have hLay := (hInv K M hI).1
  have hcs : cells ≤ room_1.cells ∧ slots ≤ room_1.slots := ⟨Nat.le_trans hcb.1 (by decide), Nat.le_trans hcb.2 (by decide)⟩
  refine z_aload_n C 1 1 dL_law_1454 rfl rfl ?_
  refine z_aload_n C 0 0 dL_law_1455 rfl rfl ?_
  refine z_iload_n C 3 3 dL_law_1456 rfl rfl ?_
  refine z_iconst C 1 dL_law_1457 (by decide) ?_
  refine z_iadd C dL_law_1458 ?_
  refine z_sldk C hX hbl hbA 1 rfl (by omega) hL dL_law_1459 ?_
  refine z_aload_n C 0 0 dL_law_1460 rfl rfl ?_
  refine z_iload_n C 3 3 dL_law_1461 rfl rfl ?_
  refine z_iconst C 2 dL_law_1462 (by decide) ?_
  refine z_iadd C dL_law_1463 ?_
  refine z_sldk C hX hbl hbA 2 rfl (by omega) hL dL_law_1464 ?_
  refine z_aload_n C 0 0 dL_law_1465 rfl rfl ?_
  refine z_iload_n C 3 3 dL_law_1466 rfl rfl ?_
  refine z_iconst C 3 dL_law_1467 (by decide) ?_
  refine z_iadd C dL_law_1468 ?_
  refine z_sldk C hX hbl hbA 3 rfl (by omega) hL dL_law_1469 ?_
  refine z_if_eq C 1477 dL_law_1470 (by decide) (fun b3 => ?_) (fun b3 => ?_)
  · refine z_iconst C 0 dL_law_1477 (by decide) ?_
    obtain ⟨r, M1, M2, e1, e2, hI2⟩ := E K M (xs (i + 1)) (xs (i + 2)) 0 (Or.inl rfl) hI
    refine z_cV1 C [] (tX11_puddle l G hLay M (xs (i + 1)) (xs (i + 2)) 0 _ e1) lk_X11_puddle ok_X11 (lay_c0 hLay) q_ml_L_125 rfl ⟨Nat.le_of_ble_eq_true rfl, Nat.le_of_ble_eq_true rfl⟩ rfl (Nat.le_of_ble_eq_true rfl) hcs dL_law_1478 ?_
    have hLay2 := hLay
    refine z_aload_n C 2 2 dL_law_1481 rfl rfl ?_
    refine z_aload_n C 0 0 dL_law_1482 rfl rfl ?_
    refine z_iload_n C 3 3 dL_law_1483 rfl rfl ?_
    refine z_iconst C 1 dL_law_1484 (by decide) ?_
    refine z_iadd C dL_law_1485 ?_
    refine z_sldk C hX hbl hbA 1 rfl (by omega) hL dL_law_1486 ?_
    refine z_aload_n C 0 0 dL_law_1487 rfl rfl ?_
    refine z_iload_n C 3 3 dL_law_1488 rfl rfl ?_
    refine z_iconst C 2 dL_law_1489 (by decide) ?_
    refine z_iadd C dL_law_1490 ?_
    refine z_sldk C hX hbl hbA 2 rfl (by omega) hL dL_law_1491 ?_
    refine z_aload_n C 0 0 dL_law_1492 rfl rfl ?_
    refine z_iload_n C 3 3 dL_law_1493 rfl rfl ?_
    refine z_iconst C 3 dL_law_1494 (by decide) ?_
    refine z_iadd C dL_law_1495 ?_
    refine z_sldk C hX hbl hbA 3 rfl (by omega) hL dL_law_1496 ?_
    refine z_if_eq C 1504 dL_law_1497 (by decide) (fun _ => ?_) (fun h => absurd b3 h)
    refine z_iconst C 0 dL_law_1504 (by decide) ?_
    refine z_cV1 C [.int r] (tX12_puddle l G hLay2 M1 (xs (i + 1)) (xs (i + 2)) 0 _ e2) lk_X12_puddle ok_X12 (lay_c90 hLay2) q_ml_L_129 rfl ⟨Nat.le_of_ble_eq_true rfl, Nat.le_of_ble_eq_true rfl⟩ rfl (Nat.le_of_ble_eq_true rfl) hcs dL_law_1505 ?_
    refine z_icmp_eq C 1780 dL_law_1508 (by decide) (fun _ => ?_) (fun h => absurd rfl h)
    exact hk K M2 hI2
  · refine z_iconst C 1 dL_law_1473 (by decide) ?_
    refine z_goto C 1478 dL_law_1474 (by decide) ?_
    obtain ⟨r, M1, M2, e1, e2, hI2⟩ := E K M (xs (i + 1)) (xs (i + 2)) 1 (Or.inr rfl) hI
    refine z_cV1 C [] (tX11_puddle l G hLay M (xs (i + 1)) (xs (i + 2)) 1 _ e1) lk_X11_puddle ok_X11 (lay_c0 hLay) q_ml_L_125 rfl ⟨Nat.le_of_ble_eq_true rfl, Nat.le_of_ble_eq_true rfl⟩ rfl (Nat.le_of_ble_eq_true rfl) hcs dL_law_1478 ?_
    have hLay2 := hLay
    refine z_aload_n C 2 2 dL_law_1481 rfl rfl ?_
    refine z_aload_n C 0 0 dL_law_1482 rfl rfl ?_
    refine z_iload_n C 3 3 dL_law_1483 rfl rfl ?_
    refine z_iconst C 1 dL_law_1484 (by decide) ?_
    refine z_iadd C dL_law_1485 ?_
    refine z_sldk C hX hbl hbA 1 rfl (by omega) hL dL_law_1486 ?_
    refine z_aload_n C 0 0 dL_law_1487 rfl rfl ?_
    refine z_iload_n C 3 3 dL_law_1488 rfl rfl ?_
    refine z_iconst C 2 dL_law_1489 (by decide) ?_
    refine z_iadd C dL_law_1490 ?_
    refine z_sldk C hX hbl hbA 2 rfl (by omega) hL dL_law_1491 ?_
    refine z_aload_n C 0 0 dL_law_1492 rfl rfl ?_
    refine z_iload_n C 3 3 dL_law_1493 rfl rfl ?_
    refine z_iconst C 3 dL_law_1494 (by decide) ?_
    refine z_iadd C dL_law_1495 ?_
    refine z_sldk C hX hbl hbA 3 rfl (by omega) hL dL_law_1496 ?_
    refine z_if_eq C 1504 dL_law_1497 (by decide) (fun h => absurd h b3) (fun _ => ?_)
    refine z_iconst C 1 dL_law_1500 (by decide) ?_
    refine z_goto C 1505 dL_law_1501 (by decide) ?_
    refine z_cV1 C [.int r] (tX12_puddle l G hLay2 M1 (xs (i + 1)) (xs (i + 2)) 1 _ e2) lk_X12_puddle ok_X12 (lay_c90 hLay2) q_ml_L_129 rfl ⟨Nat.le_of_ble_eq_true rfl, Nat.le_of_ble_eq_true rfl⟩ rfl (Nat.le_of_ble_eq_true rfl) hcs dL_law_1505 ?_
    refine z_icmp_eq C 1780 dL_law_1508 (by decide) (fun _ => ?_) (fun h => absurd rfl h)
    exact hk K M2 hI2
set_option maxHeartbeats 4000000 in
set_option maxRecDepth 100000 in
theorem law_c27 {Inv : SK → MM → Prop} (hInv : ∀ K M, Inv K M → KI K) (E : E27 Inv) (C : CX p s m args meth c cL_law 4 (some .boolean) RL G) (hX : va_X b L xs s s.heap) (hbl : b < s.heap.size) (hbA : ¬ AG G b) {i : Nat} (hi : i + 6 ≤ L) (hL : L ≤ 3072) {K : SK} {M : MM} (hI : Inv K M) (hcb : cells ≤ 590000 ∧ slots ≤ 7200000) (hk : ∀ (K2 : SK) (M2 : MM), Inv K2 M2 → Z p l e room_1 s m args below meth c 4 G Q K2 cells slots M2 1780 [(0, .ref b), (1, .ref (G.1 + 0)), (2, .ref (G.1 + 90)), (3, .int (nI i))] []) : Z p l e room_1 s m args below meth c 4 G Q K cells slots M 1513 [(0, .ref b), (1, .ref (G.1 + 0)), (2, .ref (G.1 + 90)), (3, .int (nI i))] [] := by
  have hLay := (hInv K M hI).1
  have hcs : cells ≤ room_1.cells ∧ slots ≤ room_1.slots := ⟨Nat.le_trans hcb.1 (by decide), Nat.le_trans hcb.2 (by decide)⟩
  refine z_aload_n C 1 1 dL_law_1513 rfl rfl ?_
  refine z_aload_n C 0 0 dL_law_1514 rfl rfl ?_
  refine z_iload_n C 3 3 dL_law_1515 rfl rfl ?_
  refine z_iconst C 1 dL_law_1516 (by decide) ?_
  refine z_iadd C dL_law_1517 ?_
  refine z_sldk C hX hbl hbA 1 rfl (by omega) hL dL_law_1518 ?_
  refine z_aload_n C 0 0 dL_law_1519 rfl rfl ?_
  refine z_iload_n C 3 3 dL_law_1520 rfl rfl ?_
  refine z_iconst C 2 dL_law_1521 (by decide) ?_
  refine z_iadd C dL_law_1522 ?_
  refine z_sldk C hX hbl hbA 2 rfl (by omega) hL dL_law_1523 ?_
  refine z_aload_n C 0 0 dL_law_1524 rfl rfl ?_
  refine z_iload_n C 3 3 dL_law_1525 rfl rfl ?_
  refine z_iconst C 3 dL_law_1526 (by decide) ?_
  refine z_iadd C dL_law_1527 ?_
  refine z_sldk C hX hbl hbA 3 rfl (by omega) hL dL_law_1528 ?_
  refine z_aload_n C 0 0 dL_law_1529 rfl rfl ?_
  refine z_iload_n C 3 3 dL_law_1530 rfl rfl ?_
  refine z_iconst C 4 dL_law_1531 (by decide) ?_
  refine z_iadd C dL_law_1532 ?_
  refine z_sldk C hX hbl hbA 4 rfl (by omega) hL dL_law_1533 ?_
  refine z_aload_n C 0 0 dL_law_1534 rfl rfl ?_
  refine z_iload_n C 3 3 dL_law_1535 rfl rfl ?_
  refine z_iconst C 5 dL_law_1536 (by decide) ?_
  refine z_iadd C dL_law_1537 ?_
  refine z_sldk C hX hbl hbA 5 rfl (by omega) hL dL_law_1538 ?_
  obtain ⟨r, M1, M2, e1, e2, hI2⟩ := E K M (xs (i + 1)) (xs (i + 2)) (xs (i + 3)) (xs (i + 4)) (xs (i + 5)) hI
  refine z_cV1 C [] (tX11_drawn l G hLay M (xs (i + 1)) (xs (i + 2)) (xs (i + 3)) (xs (i + 4)) (xs (i + 5)) _ e1) lk_X11_drawn ok_X11 (lay_c0 hLay) q_ml_L_130 rfl ⟨Nat.le_of_ble_eq_true rfl, Nat.le_of_ble_eq_true rfl⟩ rfl (Nat.le_of_ble_eq_true rfl) hcs dL_law_1539 ?_
  have hLay2 := hLay
  refine z_aload_n C 2 2 dL_law_1542 rfl rfl ?_
  refine z_aload_n C 0 0 dL_law_1543 rfl rfl ?_
  refine z_iload_n C 3 3 dL_law_1544 rfl rfl ?_
  refine z_iconst C 1 dL_law_1545 (by decide) ?_
  refine z_iadd C dL_law_1546 ?_
  refine z_sldk C hX hbl hbA 1 rfl (by omega) hL dL_law_1547 ?_
  refine z_aload_n C 0 0 dL_law_1548 rfl rfl ?_
  refine z_iload_n C 3 3 dL_law_1549 rfl rfl ?_
  refine z_iconst C 2 dL_law_1550 (by decide) ?_
  refine z_iadd C dL_law_1551 ?_
  refine z_sldk C hX hbl hbA 2 rfl (by omega) hL dL_law_1552 ?_
  refine z_aload_n C 0 0 dL_law_1553 rfl rfl ?_
  refine z_iload_n C 3 3 dL_law_1554 rfl rfl ?_
  refine z_iconst C 3 dL_law_1555 (by decide) ?_
  refine z_iadd C dL_law_1556 ?_
  refine z_sldk C hX hbl hbA 3 rfl (by omega) hL dL_law_1557 ?_
  refine z_aload_n C 0 0 dL_law_1558 rfl rfl ?_
  refine z_iload_n C 3 3 dL_law_1559 rfl rfl ?_
  refine z_iconst C 4 dL_law_1560 (by decide) ?_
  refine z_iadd C dL_law_1561 ?_
  refine z_sldk C hX hbl hbA 4 rfl (by omega) hL dL_law_1562 ?_
  refine z_aload_n C 0 0 dL_law_1563 rfl rfl ?_
  refine z_iload_n C 3 3 dL_law_1564 rfl rfl ?_
  refine z_iconst C 5 dL_law_1565 (by decide) ?_
  refine z_iadd C dL_law_1566 ?_
  refine z_sldk C hX hbl hbA 5 rfl (by omega) hL dL_law_1567 ?_
  refine z_cV1 C [.int r] (tX12_drawn l G hLay2 M1 (xs (i + 1)) (xs (i + 2)) (xs (i + 3)) (xs (i + 4)) (xs (i + 5)) _ e2) lk_X12_drawn ok_X12 (lay_c90 hLay2) q_ml_L_133 rfl ⟨Nat.le_of_ble_eq_true rfl, Nat.le_of_ble_eq_true rfl⟩ rfl (Nat.le_of_ble_eq_true rfl) hcs dL_law_1568 ?_
  refine z_icmp_eq C 1780 dL_law_1571 (by decide) (fun _ => ?_) (fun h => absurd rfl h)
  exact hk K M2 hI2
set_option maxHeartbeats 4000000 in
set_option maxRecDepth 100000 in
theorem law_c28 {Inv : SK → MM → Prop} (hInv : ∀ K M, Inv K M → KI K) (E : E28 Inv) (C : CX p s m args meth c cL_law 4 (some .boolean) RL G) (hX : va_X b L xs s s.heap) (hbl : b < s.heap.size) (hbA : ¬ AG G b) {i : Nat} (hi : i + 6 ≤ L) (hL : L ≤ 3072) {K : SK} {M : MM} (hI : Inv K M) (hcb : cells ≤ 590000 ∧ slots ≤ 7200000) (hk : ∀ (K2 : SK) (M2 : MM), Inv K2 M2 → Z p l e room_1 s m args below meth c 4 G Q K2 cells slots M2 1780 [(0, .ref b), (1, .ref (G.1 + 0)), (2, .ref (G.1 + 90)), (3, .int (nI i))] []) : Z p l e room_1 s m args below meth c 4 G Q K cells slots M 1576 [(0, .ref b), (1, .ref (G.1 + 0)), (2, .ref (G.1 + 90)), (3, .int (nI i))] [] := by
  have hLay := (hInv K M hI).1
  have hcs : cells ≤ room_1.cells ∧ slots ≤ room_1.slots := ⟨Nat.le_trans hcb.1 (by decide), Nat.le_trans hcb.2 (by decide)⟩
  refine z_aload_n C 1 1 dL_law_1576 rfl rfl ?_
  refine z_aload_n C 0 0 dL_law_1577 rfl rfl ?_
  refine z_iload_n C 3 3 dL_law_1578 rfl rfl ?_
  refine z_iconst C 1 dL_law_1579 (by decide) ?_
  refine z_iadd C dL_law_1580 ?_
  refine z_sldk C hX hbl hbA 1 rfl (by omega) hL dL_law_1581 ?_
  refine z_aload_n C 0 0 dL_law_1582 rfl rfl ?_
  refine z_iload_n C 3 3 dL_law_1583 rfl rfl ?_
  refine z_iconst C 2 dL_law_1584 (by decide) ?_
  refine z_iadd C dL_law_1585 ?_
  refine z_sldk C hX hbl hbA 2 rfl (by omega) hL dL_law_1586 ?_
  obtain ⟨r, M1, M2, e1, e2, hI2⟩ := E K M (xs (i + 1)) (xs (i + 2)) hI
  refine z_cV1 C [] (tX11_alone l G hLay M (xs (i + 1)) (xs (i + 2)) _ e1) lk_X11_alone ok_X11 (lay_c0 hLay) q_ml_L_134 rfl ⟨Nat.le_of_ble_eq_true rfl, Nat.le_of_ble_eq_true rfl⟩ rfl (Nat.le_of_ble_eq_true rfl) hcs dL_law_1587 ?_
  have hLay2 := hLay
  refine z_aload_n C 2 2 dL_law_1590 rfl rfl ?_
  refine z_aload_n C 0 0 dL_law_1591 rfl rfl ?_
  refine z_iload_n C 3 3 dL_law_1592 rfl rfl ?_
  refine z_iconst C 1 dL_law_1593 (by decide) ?_
  refine z_iadd C dL_law_1594 ?_
  refine z_sldk C hX hbl hbA 1 rfl (by omega) hL dL_law_1595 ?_
  refine z_aload_n C 0 0 dL_law_1596 rfl rfl ?_
  refine z_iload_n C 3 3 dL_law_1597 rfl rfl ?_
  refine z_iconst C 2 dL_law_1598 (by decide) ?_
  refine z_iadd C dL_law_1599 ?_
  refine z_sldk C hX hbl hbA 2 rfl (by omega) hL dL_law_1600 ?_
  refine z_cV1 C [.int r] (tX12_alone l G hLay2 M1 (xs (i + 1)) (xs (i + 2)) _ e2) lk_X12_alone ok_X12 (lay_c90 hLay2) q_ml_L_137 rfl ⟨Nat.le_of_ble_eq_true rfl, Nat.le_of_ble_eq_true rfl⟩ rfl (Nat.le_of_ble_eq_true rfl) hcs dL_law_1601 ?_
  refine z_icmp_eq C 1780 dL_law_1604 (by decide) (fun _ => ?_) (fun h => absurd rfl h)
  exact hk K M2 hI2
set_option maxHeartbeats 4000000 in
set_option maxRecDepth 100000 in
theorem law_c29 {Inv : SK → MM → Prop} (hInv : ∀ K M, Inv K M → KI K) (E : E29 Inv) (C : CX p s m args meth c cL_law 4 (some .boolean) RL G) (hX : va_X b L xs s s.heap) (hbl : b < s.heap.size) (hbA : ¬ AG G b) {i : Nat} (hi : i + 6 ≤ L) (hL : L ≤ 3072) {K : SK} {M : MM} (hI : Inv K M) (hcb : cells ≤ 590000 ∧ slots ≤ 7200000) (hk : ∀ (K2 : SK) (M2 : MM), Inv K2 M2 → Z p l e room_1 s m args below meth c 4 G Q K2 cells slots M2 1780 [(0, .ref b), (1, .ref (G.1 + 0)), (2, .ref (G.1 + 90)), (3, .int (nI i))] []) : Z p l e room_1 s m args below meth c 4 G Q K cells slots M 1609 [(0, .ref b), (1, .ref (G.1 + 0)), (2, .ref (G.1 + 90)), (3, .int (nI i))] [] := by
  have hLay := (hInv K M hI).1
  have hcs : cells ≤ room_1.cells ∧ slots ≤ room_1.slots := ⟨Nat.le_trans hcb.1 (by decide), Nat.le_trans hcb.2 (by decide)⟩
  refine z_aload_n C 1 1 dL_law_1609 rfl rfl ?_
  refine z_aload_n C 0 0 dL_law_1610 rfl rfl ?_
  refine z_iload_n C 3 3 dL_law_1611 rfl rfl ?_
  refine z_iconst C 1 dL_law_1612 (by decide) ?_
  refine z_iadd C dL_law_1613 ?_
  refine z_sldk C hX hbl hbA 1 rfl (by omega) hL dL_law_1614 ?_
  refine z_aload_n C 0 0 dL_law_1615 rfl rfl ?_
  refine z_iload_n C 3 3 dL_law_1616 rfl rfl ?_
  refine z_iconst C 2 dL_law_1617 (by decide) ?_
  refine z_iadd C dL_law_1618 ?_
  refine z_sldk C hX hbl hbA 2 rfl (by omega) hL dL_law_1619 ?_
  refine z_aload_n C 0 0 dL_law_1620 rfl rfl ?_
  refine z_iload_n C 3 3 dL_law_1621 rfl rfl ?_
  refine z_iconst C 3 dL_law_1622 (by decide) ?_
  refine z_iadd C dL_law_1623 ?_
  refine z_sldk C hX hbl hbA 3 rfl (by omega) hL dL_law_1624 ?_
  refine z_if_eq C 1632 dL_law_1625 (by decide) (fun b3 => ?_) (fun b3 => ?_)
  · refine z_iconst C 0 dL_law_1632 (by decide) ?_
    obtain ⟨r, M1, M2, e1, e2, hI2⟩ := E K M (xs (i + 1)) (xs (i + 2)) 0 (Or.inl rfl) hI
    refine z_cV1 C [] (tX11_barred l G hLay M (xs (i + 1)) (xs (i + 2)) 0 _ e1) lk_X11_barred ok_X11 (lay_c0 hLay) q_ml_L_138 rfl ⟨Nat.le_of_ble_eq_true rfl, Nat.le_of_ble_eq_true rfl⟩ rfl (Nat.le_of_ble_eq_true rfl) hcs dL_law_1633 ?_
    have hLay2 := hLay
    refine z_aload_n C 2 2 dL_law_1636 rfl rfl ?_
    refine z_aload_n C 0 0 dL_law_1637 rfl rfl ?_
    refine z_iload_n C 3 3 dL_law_1638 rfl rfl ?_
    refine z_iconst C 1 dL_law_1639 (by decide) ?_
    refine z_iadd C dL_law_1640 ?_
    refine z_sldk C hX hbl hbA 1 rfl (by omega) hL dL_law_1641 ?_
    refine z_aload_n C 0 0 dL_law_1642 rfl rfl ?_
    refine z_iload_n C 3 3 dL_law_1643 rfl rfl ?_
    refine z_iconst C 2 dL_law_1644 (by decide) ?_
    refine z_iadd C dL_law_1645 ?_
    refine z_sldk C hX hbl hbA 2 rfl (by omega) hL dL_law_1646 ?_
    refine z_aload_n C 0 0 dL_law_1647 rfl rfl ?_
    refine z_iload_n C 3 3 dL_law_1648 rfl rfl ?_
    refine z_iconst C 3 dL_law_1649 (by decide) ?_
    refine z_iadd C dL_law_1650 ?_
    refine z_sldk C hX hbl hbA 3 rfl (by omega) hL dL_law_1651 ?_
    refine z_if_eq C 1659 dL_law_1652 (by decide) (fun _ => ?_) (fun h => absurd b3 h)
    refine z_iconst C 0 dL_law_1659 (by decide) ?_
    refine z_cV1 C [.int r] (tX12_barred l G hLay2 M1 (xs (i + 1)) (xs (i + 2)) 0 _ e2) lk_X12_barred ok_X12 (lay_c90 hLay2) q_ml_L_141 rfl ⟨Nat.le_of_ble_eq_true rfl, Nat.le_of_ble_eq_true rfl⟩ rfl (Nat.le_of_ble_eq_true rfl) hcs dL_law_1660 ?_
    refine z_icmp_eq C 1780 dL_law_1663 (by decide) (fun _ => ?_) (fun h => absurd rfl h)
    exact hk K M2 hI2
  · refine z_iconst C 1 dL_law_1628 (by decide) ?_
    refine z_goto C 1633 dL_law_1629 (by decide) ?_
    obtain ⟨r, M1, M2, e1, e2, hI2⟩ := E K M (xs (i + 1)) (xs (i + 2)) 1 (Or.inr rfl) hI
    refine z_cV1 C [] (tX11_barred l G hLay M (xs (i + 1)) (xs (i + 2)) 1 _ e1) lk_X11_barred ok_X11 (lay_c0 hLay) q_ml_L_138 rfl ⟨Nat.le_of_ble_eq_true rfl, Nat.le_of_ble_eq_true rfl⟩ rfl (Nat.le_of_ble_eq_true rfl) hcs dL_law_1633 ?_
    have hLay2 := hLay
    refine z_aload_n C 2 2 dL_law_1636 rfl rfl ?_
    refine z_aload_n C 0 0 dL_law_1637 rfl rfl ?_
    refine z_iload_n C 3 3 dL_law_1638 rfl rfl ?_
    refine z_iconst C 1 dL_law_1639 (by decide) ?_
    refine z_iadd C dL_law_1640 ?_
    refine z_sldk C hX hbl hbA 1 rfl (by omega) hL dL_law_1641 ?_
    refine z_aload_n C 0 0 dL_law_1642 rfl rfl ?_
    refine z_iload_n C 3 3 dL_law_1643 rfl rfl ?_
    refine z_iconst C 2 dL_law_1644 (by decide) ?_
    refine z_iadd C dL_law_1645 ?_
    refine z_sldk C hX hbl hbA 2 rfl (by omega) hL dL_law_1646 ?_
    refine z_aload_n C 0 0 dL_law_1647 rfl rfl ?_
    refine z_iload_n C 3 3 dL_law_1648 rfl rfl ?_
    refine z_iconst C 3 dL_law_1649 (by decide) ?_
    refine z_iadd C dL_law_1650 ?_
    refine z_sldk C hX hbl hbA 3 rfl (by omega) hL dL_law_1651 ?_
    refine z_if_eq C 1659 dL_law_1652 (by decide) (fun h => absurd h b3) (fun _ => ?_)
    refine z_iconst C 1 dL_law_1655 (by decide) ?_
    refine z_goto C 1660 dL_law_1656 (by decide) ?_
    refine z_cV1 C [.int r] (tX12_barred l G hLay2 M1 (xs (i + 1)) (xs (i + 2)) 1 _ e2) lk_X12_barred ok_X12 (lay_c90 hLay2) q_ml_L_141 rfl ⟨Nat.le_of_ble_eq_true rfl, Nat.le_of_ble_eq_true rfl⟩ rfl (Nat.le_of_ble_eq_true rfl) hcs dL_law_1660 ?_
    refine z_icmp_eq C 1780 dL_law_1663 (by decide) (fun _ => ?_) (fun h => absurd rfl h)
    exact hk K M2 hI2
set_option maxHeartbeats 4000000 in
set_option maxRecDepth 100000 in
theorem law_c30 {Inv : SK → MM → Prop} (hInv : ∀ K M, Inv K M → KI K) (E : E30 Inv) (C : CX p s m args meth c cL_law 4 (some .boolean) RL G) (hX : va_X b L xs s s.heap) (hbl : b < s.heap.size) (hbA : ¬ AG G b) {i : Nat} (hi : i + 6 ≤ L) (hL : L ≤ 3072) {K : SK} {M : MM} (hI : Inv K M) (hcb : cells ≤ 590000 ∧ slots ≤ 7200000) (hk : ∀ (K2 : SK) (M2 : MM), Inv K2 M2 → Z p l e room_1 s m args below meth c 4 G Q K2 cells slots M2 1780 [(0, .ref b), (1, .ref (G.1 + 0)), (2, .ref (G.1 + 90)), (3, .int (nI i))] []) : Z p l e room_1 s m args below meth c 4 G Q K cells slots M 1668 [(0, .ref b), (1, .ref (G.1 + 0)), (2, .ref (G.1 + 90)), (3, .int (nI i))] [] := by
  have hLay := (hInv K M hI).1
  have hcs : cells ≤ room_1.cells ∧ slots ≤ room_1.slots := ⟨Nat.le_trans hcb.1 (by decide), Nat.le_trans hcb.2 (by decide)⟩
  refine z_aload_n C 1 1 dL_law_1668 rfl rfl ?_
  refine z_aload_n C 0 0 dL_law_1669 rfl rfl ?_
  refine z_iload_n C 3 3 dL_law_1670 rfl rfl ?_
  refine z_iconst C 1 dL_law_1671 (by decide) ?_
  refine z_iadd C dL_law_1672 ?_
  refine z_sldk C hX hbl hbA 1 rfl (by omega) hL dL_law_1673 ?_
  refine z_aload_n C 0 0 dL_law_1674 rfl rfl ?_
  refine z_iload_n C 3 3 dL_law_1675 rfl rfl ?_
  refine z_iconst C 2 dL_law_1676 (by decide) ?_
  refine z_iadd C dL_law_1677 ?_
  refine z_sldk C hX hbl hbA 2 rfl (by omega) hL dL_law_1678 ?_
  refine z_aload_n C 0 0 dL_law_1679 rfl rfl ?_
  refine z_iload_n C 3 3 dL_law_1680 rfl rfl ?_
  refine z_iconst C 3 dL_law_1681 (by decide) ?_
  refine z_iadd C dL_law_1682 ?_
  refine z_sldk C hX hbl hbA 3 rfl (by omega) hL dL_law_1683 ?_
  obtain ⟨r, M1, M2, e1, e2, hI2⟩ := E K M (xs (i + 1)) (xs (i + 2)) (xs (i + 3)) hI
  refine z_cV1 C [] (tX11_known l G hLay M (xs (i + 1)) (xs (i + 2)) (xs (i + 3)) _ e1) lk_X11_known ok_X11 (lay_c0 hLay) q_ml_L_142 rfl ⟨Nat.le_of_ble_eq_true rfl, Nat.le_of_ble_eq_true rfl⟩ rfl (Nat.le_of_ble_eq_true rfl) hcs dL_law_1684 ?_
  have hLay2 := hLay
  refine z_aload_n C 2 2 dL_law_1687 rfl rfl ?_
  refine z_aload_n C 0 0 dL_law_1688 rfl rfl ?_
  refine z_iload_n C 3 3 dL_law_1689 rfl rfl ?_
  refine z_iconst C 1 dL_law_1690 (by decide) ?_
  refine z_iadd C dL_law_1691 ?_
  refine z_sldk C hX hbl hbA 1 rfl (by omega) hL dL_law_1692 ?_
  refine z_aload_n C 0 0 dL_law_1693 rfl rfl ?_
  refine z_iload_n C 3 3 dL_law_1694 rfl rfl ?_
  refine z_iconst C 2 dL_law_1695 (by decide) ?_
  refine z_iadd C dL_law_1696 ?_
  refine z_sldk C hX hbl hbA 2 rfl (by omega) hL dL_law_1697 ?_
  refine z_aload_n C 0 0 dL_law_1698 rfl rfl ?_
  refine z_iload_n C 3 3 dL_law_1699 rfl rfl ?_
  refine z_iconst C 3 dL_law_1700 (by decide) ?_
  refine z_iadd C dL_law_1701 ?_
  refine z_sldk C hX hbl hbA 3 rfl (by omega) hL dL_law_1702 ?_
  refine z_cV1 C [.int r] (tX12_known l G hLay2 M1 (xs (i + 1)) (xs (i + 2)) (xs (i + 3)) _ e2) lk_X12_known ok_X12 (lay_c90 hLay2) q_ml_L_145 rfl ⟨Nat.le_of_ble_eq_true rfl, Nat.le_of_ble_eq_true rfl⟩ rfl (Nat.le_of_ble_eq_true rfl) hcs dL_law_1703 ?_
  refine z_icmp_eq C 1780 dL_law_1706 (by decide) (fun _ => ?_) (fun h => absurd rfl h)
  exact hk K M2 hI2
set_option maxHeartbeats 4000000 in
set_option maxRecDepth 100000 in
theorem law_c31 {Inv : SK → MM → Prop} (hInv : ∀ K M, Inv K M → KI K) (E : E31 Inv) (C : CX p s m args meth c cL_law 4 (some .boolean) RL G) (hX : va_X b L xs s s.heap) (hbl : b < s.heap.size) (hbA : ¬ AG G b) {i : Nat} (hi : i + 6 ≤ L) (hL : L ≤ 3072) {K : SK} {M : MM} (hI : Inv K M) (hcb : cells ≤ 590000 ∧ slots ≤ 7200000) (hk : ∀ (K2 : SK) (M2 : MM), Inv K2 M2 → Z p l e room_1 s m args below meth c 4 G Q K2 cells slots M2 1780 [(0, .ref b), (1, .ref (G.1 + 0)), (2, .ref (G.1 + 90)), (3, .int (nI i))] []) : Z p l e room_1 s m args below meth c 4 G Q K cells slots M 1711 [(0, .ref b), (1, .ref (G.1 + 0)), (2, .ref (G.1 + 90)), (3, .int (nI i))] [] := by
  have hLay := (hInv K M hI).1
  have hcs : cells ≤ room_1.cells ∧ slots ≤ room_1.slots := ⟨Nat.le_trans hcb.1 (by decide), Nat.le_trans hcb.2 (by decide)⟩
  refine z_aload_n C 1 1 dL_law_1711 rfl rfl ?_
  refine z_aload_n C 0 0 dL_law_1712 rfl rfl ?_
  refine z_iload_n C 3 3 dL_law_1713 rfl rfl ?_
  refine z_iconst C 1 dL_law_1714 (by decide) ?_
  refine z_iadd C dL_law_1715 ?_
  refine z_sldk C hX hbl hbA 1 rfl (by omega) hL dL_law_1716 ?_
  obtain ⟨r, e1, e2, hI2⟩ := E K M (xs (i + 1)) hI
  refine z_cV1 C [] (tX11_count l G hLay M (xs (i + 1)) _ e1) lk_X11_count ok_X11 (lay_c0 hLay) q_ml_L_146 rfl ⟨Nat.le_of_ble_eq_true rfl, Nat.le_of_ble_eq_true rfl⟩ rfl (Nat.le_of_ble_eq_true rfl) hcs dL_law_1717 ?_
  have hLay2 := hLay
  refine z_aload_n C 2 2 dL_law_1720 rfl rfl ?_
  refine z_aload_n C 0 0 dL_law_1721 rfl rfl ?_
  refine z_iload_n C 3 3 dL_law_1722 rfl rfl ?_
  refine z_iconst C 1 dL_law_1723 (by decide) ?_
  refine z_iadd C dL_law_1724 ?_
  refine z_sldk C hX hbl hbA 1 rfl (by omega) hL dL_law_1725 ?_
  refine z_cV1 C [.int r] (tX12_count l G hLay2 M (xs (i + 1)) _ e2) lk_X12_count ok_X12 (lay_c90 hLay2) q_ml_L_149 rfl ⟨Nat.le_of_ble_eq_true rfl, Nat.le_of_ble_eq_true rfl⟩ rfl (Nat.le_of_ble_eq_true rfl) hcs dL_law_1726 ?_
  refine z_icmp_eq C 1780 dL_law_1729 (by decide) (fun _ => ?_) (fun h => absurd rfl h)
  exact hk K M hI2
set_option maxHeartbeats 4000000 in
set_option maxRecDepth 100000 in
theorem law_c32 {Inv : SK → MM → Prop} (hInv : ∀ K M, Inv K M → KI K) (E : E32 Inv) (C : CX p s m args meth c cL_law 4 (some .boolean) RL G) (hX : va_X b L xs s s.heap) (hbl : b < s.heap.size) (hbA : ¬ AG G b) {i : Nat} (hi : i + 6 ≤ L) (hL : L ≤ 3072) {K : SK} {M : MM} (hI : Inv K M) (hcb : cells ≤ 590000 ∧ slots ≤ 7200000) (hk : ∀ (K2 : SK) (M2 : MM), Inv K2 M2 → Z p l e room_1 s m args below meth c 4 G Q K2 (cells + 39) (slots + 1167) M2 1780 [(0, .ref b), (1, .ref (G.1 + 0)), (2, .ref (G.1 + 90)), (3, .int (nI i))] []) : Z p l e room_1 s m args below meth c 4 G Q K cells slots M 1734 [(0, .ref b), (1, .ref (G.1 + 0)), (2, .ref (G.1 + 90)), (3, .int (nI i))] [] := by
  have hLay := (hInv K M hI).1
  have hcs : cells ≤ room_1.cells ∧ slots ≤ room_1.slots := ⟨Nat.le_trans hcb.1 (by decide), Nat.le_trans hcb.2 (by decide)⟩
  have hTd := (hInv K M hI).2
  have hcs2 : cells + 39 ≤ room_1.cells ∧ slots + 1167 ≤ room_1.slots := ⟨by show _ ≤ 600000; omega, by show _ ≤ 7302250; omega⟩
  have hcs3 := hcs2
  refine z_aload_n C 1 1 dL_law_1734 rfl rfl ?_
  refine z_aload_n C 0 0 dL_law_1735 rfl rfl ?_
  refine z_iload_n C 3 3 dL_law_1736 rfl rfl ?_
  refine z_iconst C 1 dL_law_1737 (by decide) ?_
  refine z_iadd C dL_law_1738 ?_
  refine z_sldk C hX hbl hbA 1 rfl (by omega) hL dL_law_1739 ?_
  obtain ⟨r, K1, M1, M2, e1, e2, hI2⟩ := E K M (xs (i + 1)) hI
  refine z_cV1K C [] (tX11_image l G hLay (K.2.2 40) (fun _ => rfl) hTd (img_ok hLay) M (xs (i + 1)) _ e1) lk_X11_image ok_X11 (lay_c0 hLay) q_ml_L_150 rfl ⟨Nat.le_of_ble_eq_true rfl, Nat.le_of_ble_eq_true rfl⟩ rfl (Nat.le_of_ble_eq_true rfl) hcs2 dL_law_1740 ?_
  have hLay2 := (hInv _ _ hI2).1
  refine z_aload_n C 2 2 dL_law_1743 rfl rfl ?_
  refine z_aload_n C 0 0 dL_law_1744 rfl rfl ?_
  refine z_iload_n C 3 3 dL_law_1745 rfl rfl ?_
  refine z_iconst C 1 dL_law_1746 (by decide) ?_
  refine z_iadd C dL_law_1747 ?_
  refine z_sldk C hX hbl hbA 1 rfl (by omega) hL dL_law_1748 ?_
  refine z_cV1 C [.int r] (tX12_image l G hLay2 M1 (xs (i + 1)) _ e2) lk_X12_image ok_X12 (lay_c90 hLay2) q_ml_L_154 rfl ⟨Nat.le_of_ble_eq_true rfl, Nat.le_of_ble_eq_true rfl⟩ rfl (Nat.le_of_ble_eq_true rfl) hcs3 dL_law_1749 ?_
  refine z_icmp_eq C 1780 dL_law_1752 (by decide) (fun _ => ?_) (fun h => absurd rfl h)
  exact hk _ M2 hI2
set_option maxHeartbeats 4000000 in
set_option maxRecDepth 100000 in
theorem law_c33 {Inv : SK → MM → Prop} (hInv : ∀ K M, Inv K M → KI K) (E : E33 Inv) (C : CX p s m args meth c cL_law 4 (some .boolean) RL G) (hX : va_X b L xs s s.heap) (hbl : b < s.heap.size) (hbA : ¬ AG G b) {i : Nat} (hi : i + 6 ≤ L) (hL : L ≤ 3072) {K : SK} {M : MM} (hI : Inv K M) (hcb : cells ≤ 590000 ∧ slots ≤ 7200000) (hk : ∀ (K2 : SK) (M2 : MM), Inv K2 M2 → Z p l e room_1 s m args below meth c 4 G Q K2 cells slots M2 1780 [(0, .ref b), (1, .ref (G.1 + 0)), (2, .ref (G.1 + 90)), (3, .int (nI i))] []) : Z p l e room_1 s m args below meth c 4 G Q K cells slots M 1757 [(0, .ref b), (1, .ref (G.1 + 0)), (2, .ref (G.1 + 90)), (3, .int (nI i))] [] := by
  have hLay := (hInv K M hI).1
  have hcs : cells ≤ room_1.cells ∧ slots ≤ room_1.slots := ⟨Nat.le_trans hcb.1 (by decide), Nat.le_trans hcb.2 (by decide)⟩
  have hTd := (hInv K M hI).2
  refine z_aload_n C 1 1 dL_law_1757 rfl rfl ?_
  refine z_aload_n C 0 0 dL_law_1758 rfl rfl ?_
  refine z_iload_n C 3 3 dL_law_1759 rfl rfl ?_
  refine z_iconst C 1 dL_law_1760 (by decide) ?_
  refine z_iadd C dL_law_1761 ?_
  refine z_sldk C hX hbl hbA 1 rfl (by omega) hL dL_law_1762 ?_
  obtain ⟨r, M1, M2, e1, e2, hI2⟩ := E K M (xs (i + 1)) hI
  refine z_cV1 C [] (tX11_again l G hLay (K.2.2 40) (fun _ => rfl) hTd M (xs (i + 1)) _ e1) lk_X11_again ok_X11 (lay_c0 hLay) q_ml_L_155 rfl ⟨Nat.le_of_ble_eq_true rfl, Nat.le_of_ble_eq_true rfl⟩ rfl (Nat.le_of_ble_eq_true rfl) hcs dL_law_1763 ?_
  have hLay2 := hLay
  refine z_aload_n C 2 2 dL_law_1766 rfl rfl ?_
  refine z_aload_n C 0 0 dL_law_1767 rfl rfl ?_
  refine z_iload_n C 3 3 dL_law_1768 rfl rfl ?_
  refine z_iconst C 1 dL_law_1769 (by decide) ?_
  refine z_iadd C dL_law_1770 ?_
  refine z_sldk C hX hbl hbA 1 rfl (by omega) hL dL_law_1771 ?_
  refine z_cV1 C [.int r] (tX12_again l G hLay2 M1 (xs (i + 1)) _ e2) lk_X12_again ok_X12 (lay_c90 hLay2) q_ml_L_158 rfl ⟨Nat.le_of_ble_eq_true rfl, Nat.le_of_ble_eq_true rfl⟩ rfl (Nat.le_of_ble_eq_true rfl) hcs dL_law_1772 ?_
  refine z_icmp_eq C 1780 dL_law_1775 (by decide) (fun _ => ?_) (fun h => absurd rfl h)
  exact hk K M2 hI2
end
