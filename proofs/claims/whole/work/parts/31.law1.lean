set_option maxHeartbeats 4000000 in
set_option maxRecDepth 100000 in
theorem lc_0 {p : Program} {e : Env} {s : State} {m : MethodId} {below : List Frame} {meth : Method} {c : Code} {l : Launch} {x : Cond} {V : mV} {a' : Nat → Nat} {b L cells slots : Nat} {xs : Nat → Int32} {A : Nat → Prop} {Q : State → Prop} (hC : mw_C p s m #[Value.ref b] c code 4 RL x (mvD V) vwCl (mvY V) ssL (mvK V) (mvW V) A) (hX : va_X b L xs s s.heap) (hbl : b < s.heap.size) (hbA : ¬ A b) (hcs : cells ≤ room_1.cells ∧ slots ≤ room_1.slots) {kf : mM → mM → Int32 → Option Int32} (hk : ∀ (M T : mM) (x3 : Int32) (H : Heap) (locs : List Loc) (ls : Array Slot), kf M T x3 = some 1 → L2 V a' M T A s H locs → lv_has ls 4 [(0, .ref b), (1, .ref (mvA V 0)), (2, .ref (a' 0)), (3, .int x3)] → W p l e room_1 s m #[Value.ref b] below meth c H locs cells slots Q (F0 m 18 ls [])) (M T : mM) (x3 : Int32) (H : Heap) (locs : List Loc) (ls : Array Slot) (hf : fL_0 kf L xs M T x3 = some 1) (hM : L2 V a' M T A s H locs) (hl : lv_has ls 4 [(0, .ref b), (1, .ref (mvA V 0)), (2, .ref (a' 0)), (3, .int x3)]) : W p l e room_1 s m #[Value.ref b] below meth c H locs cells slots Q (F0 m 244 ls []) := by
  unfold fL_0 at hf
  refine lv_aload_n hC.1 hC.2.1 dL_law_244 rfl (lv_at hl 1 rfl) ?_
  refine lv_aload_n hC.1 hC.2.1 dL_law_245 rfl (lv_at hl 0 rfl) ?_
  refine lv_iload_n hC.1 hC.2.1 dL_law_246 rfl (lv_at hl 3 rfl) ?_
  refine lv_iconst hC.1 hC.2.1 dL_law_247 ci_1 ?_
  refine lv_iadd hC.1 hC.2.1 dL_law_248 ?_
  obtain ⟨hg1, hf⟩ := o_g hf
  refine va_sld hC.1 hC.2.1 hX hbl hbA hM.1.2.2 (ix_in hg1) dL_law_249 ?_
  refine lv_aload_n hC.1 hC.2.1 dL_law_250 rfl (lv_at hl 0 rfl) ?_
  refine lv_iload_n hC.1 hC.2.1 dL_law_251 rfl (lv_at hl 3 rfl) ?_
  refine lv_iconst hC.1 hC.2.1 dL_law_252 ci_2 ?_
  refine lv_iadd hC.1 hC.2.1 dL_law_253 ?_
  obtain ⟨hg2, hf⟩ := o_g hf
  refine va_sld hC.1 hC.2.1 hX hbl hbA hM.1.2.2 (ix_in hg2) dL_law_254 ?_
  refine lv_aload_n hC.1 hC.2.1 dL_law_255 rfl (lv_at hl 0 rfl) ?_
  refine lv_iload_n hC.1 hC.2.1 dL_law_256 rfl (lv_at hl 3 rfl) ?_
  refine lv_iconst hC.1 hC.2.1 dL_law_257 ci_3 ?_
  refine lv_iadd hC.1 hC.2.1 dL_law_258 ?_
  obtain ⟨hg3, hf⟩ := o_g hf
  refine va_sld hC.1 hC.2.1 hX hbl hbA hM.1.2.2 (ix_in hg3) dL_law_259 ?_
  refine lv_aload_n hC.1 hC.2.1 dL_law_260 rfl (lv_at hl 0 rfl) ?_
  refine lv_iload_n hC.1 hC.2.1 dL_law_261 rfl (lv_at hl 3 rfl) ?_
  refine lv_iconst hC.1 hC.2.1 dL_law_262 ci_4 ?_
  refine lv_iadd hC.1 hC.2.1 dL_law_263 ?_
  obtain ⟨hg4, hf⟩ := o_g hf
  refine va_sld hC.1 hC.2.1 hX hbl hbA hM.1.2.2 (ix_in hg4) dL_law_264 ?_
  obtain ⟨r5, M7, hq6, hf⟩ := o_b2 hf
  refine l2_c1 (As := [.int (xs (Int32.toNatClampNeg (x3 + 1))), .int (xs (Int32.toNatClampNeg (x3 + 2))), .int (xs (Int32.toNatClampNeg (x3 + 3))), .int (xs (Int32.toNatClampNeg (x3 + 4)))]) (rest := []) hC hM (mcX11_voter V l M (xs (Int32.toNatClampNeg (x3 + 1))) (xs (Int32.toNatClampNeg (x3 + 2))) (xs (Int32.toNatClampNeg (x3 + 3))) (xs (Int32.toNatClampNeg (x3 + 4))) r5 M7 hq6) (mw_kV hC q_464 q_465 q_466 q_107 q_467 ⟨rfl, rfl⟩ kV_X11_voter ⟨Nat.le_of_ble_eq_true rfl, Nat.le_of_ble_eq_true rfl⟩) rfl rfl (Nat.le_of_ble_eq_true rfl) hl.1 hcs dL_law_265 (fun H locs hM => ?_)
  refine lv_aload_n hC.1 hC.2.1 dL_law_268 rfl (lv_at hl 2 rfl) ?_
  refine lv_aload_n hC.1 hC.2.1 dL_law_269 rfl (lv_at hl 0 rfl) ?_
  refine lv_iload_n hC.1 hC.2.1 dL_law_270 rfl (lv_at hl 3 rfl) ?_
  refine lv_iconst hC.1 hC.2.1 dL_law_271 ci_1 ?_
  refine lv_iadd hC.1 hC.2.1 dL_law_272 ?_
  obtain ⟨hg8, hf⟩ := o_g hf
  refine va_sld hC.1 hC.2.1 hX hbl hbA hM.1.2.2 (ix_in hg8) dL_law_273 ?_
  refine lv_aload_n hC.1 hC.2.1 dL_law_274 rfl (lv_at hl 0 rfl) ?_
  refine lv_iload_n hC.1 hC.2.1 dL_law_275 rfl (lv_at hl 3 rfl) ?_
  refine lv_iconst hC.1 hC.2.1 dL_law_276 ci_2 ?_
  refine lv_iadd hC.1 hC.2.1 dL_law_277 ?_
  obtain ⟨hg9, hf⟩ := o_g hf
  refine va_sld hC.1 hC.2.1 hX hbl hbA hM.1.2.2 (ix_in hg9) dL_law_278 ?_
  refine lv_aload_n hC.1 hC.2.1 dL_law_279 rfl (lv_at hl 0 rfl) ?_
  refine lv_iload_n hC.1 hC.2.1 dL_law_280 rfl (lv_at hl 3 rfl) ?_
  refine lv_iconst hC.1 hC.2.1 dL_law_281 ci_3 ?_
  refine lv_iadd hC.1 hC.2.1 dL_law_282 ?_
  obtain ⟨hg10, hf⟩ := o_g hf
  refine va_sld hC.1 hC.2.1 hX hbl hbA hM.1.2.2 (ix_in hg10) dL_law_283 ?_
  refine lv_aload_n hC.1 hC.2.1 dL_law_284 rfl (lv_at hl 0 rfl) ?_
  refine lv_iload_n hC.1 hC.2.1 dL_law_285 rfl (lv_at hl 3 rfl) ?_
  refine lv_iconst hC.1 hC.2.1 dL_law_286 ci_4 ?_
  refine lv_iadd hC.1 hC.2.1 dL_law_287 ?_
  obtain ⟨hg11, hf⟩ := o_g hf
  refine va_sld hC.1 hC.2.1 hX hbl hbA hM.1.2.2 (ix_in hg11) dL_law_288 ?_
  obtain ⟨r12, M14, hq13, hf⟩ := o_b2 hf
  refine l2_c2 (As := [.int (xs (Int32.toNatClampNeg (x3 + 1))), .int (xs (Int32.toNatClampNeg (x3 + 2))), .int (xs (Int32.toNatClampNeg (x3 + 3))), .int (xs (Int32.toNatClampNeg (x3 + 4)))]) (rest := [.int r5]) hC hM (mcX12_voter (V2 V a') l T (xs (Int32.toNatClampNeg (x3 + 1))) (xs (Int32.toNatClampNeg (x3 + 2))) (xs (Int32.toNatClampNeg (x3 + 3))) (xs (Int32.toNatClampNeg (x3 + 4))) r12 M14 hq13) (mw_kV hC q_1249 q_1250 q_1251 q_120 q_1252 ⟨rfl, rfl⟩ kV_X12_voter ⟨Nat.le_of_ble_eq_true rfl, Nat.le_of_ble_eq_true rfl⟩) rfl rfl (Nat.le_of_ble_eq_true rfl) hl.1 hcs dL_law_289 (fun H locs hM => ?_)
  refine lv_icmp_eq (tgt := 1647) hC.1 hC.2.1 dL_law_292 (by decide) (fun hc15 => ?_) (fun hc15 => ?_)
  · have hf := o_t hc15 hf
    refine lv_iinc (k := 3) (lv' := [(3, .int (x3 + 5)), (0, .ref b), (1, .ref (mvA V 0)), (2, .ref (a' 0))]) hC.1 hC.2.1 dL_law_1647 hl rfl (inc_5 _) (Nat.le_of_ble_eq_true rfl) rfl (fun ls hl => ?_)
    refine lv_goto (tgt := 18) hC.1 hC.2.1 dL_law_1650 (by decide) ?_
    exact hk _ _ _ _ _ _ hf hM (lv_sub hl [1, 2, 3, 0] rfl)
  · have hf := o_f hc15 hf
    exact absurd (Option.some.inj hf) (by decide)
set_option maxHeartbeats 4000000 in
set_option maxRecDepth 100000 in
theorem lc_1 {p : Program} {e : Env} {s : State} {m : MethodId} {below : List Frame} {meth : Method} {c : Code} {l : Launch} {x : Cond} {V : mV} {a' : Nat → Nat} {b L cells slots : Nat} {xs : Nat → Int32} {A : Nat → Prop} {Q : State → Prop} (hC : mw_C p s m #[Value.ref b] c code 4 RL x (mvD V) vwCl (mvY V) ssL (mvK V) (mvW V) A) (hX : va_X b L xs s s.heap) (hbl : b < s.heap.size) (hbA : ¬ A b) (hcs : cells ≤ room_1.cells ∧ slots ≤ room_1.slots) {kf : mM → mM → Int32 → Option Int32} (hk : ∀ (M T : mM) (x3 : Int32) (H : Heap) (locs : List Loc) (ls : Array Slot), kf M T x3 = some 1 → L2 V a' M T A s H locs → lv_has ls 4 [(0, .ref b), (1, .ref (mvA V 0)), (2, .ref (a' 0)), (3, .int x3)] → W p l e room_1 s m #[Value.ref b] below meth c H locs cells slots Q (F0 m 18 ls [])) (M T : mM) (x3 : Int32) (H : Heap) (locs : List Loc) (ls : Array Slot) (hf : fL_1 kf L xs M T x3 = some 1) (hM : L2 V a' M T A s H locs) (hl : lv_has ls 4 [(0, .ref b), (1, .ref (mvA V 0)), (2, .ref (a' 0)), (3, .int x3)]) : W p l e room_1 s m #[Value.ref b] below meth c H locs cells slots Q (F0 m 297 ls []) := by
  unfold fL_1 at hf
  refine lv_aload_n hC.1 hC.2.1 dL_law_297 rfl (lv_at hl 1 rfl) ?_
  refine lv_aload_n hC.1 hC.2.1 dL_law_298 rfl (lv_at hl 0 rfl) ?_
  refine lv_iload_n hC.1 hC.2.1 dL_law_299 rfl (lv_at hl 3 rfl) ?_
  refine lv_iconst hC.1 hC.2.1 dL_law_300 ci_1 ?_
  refine lv_iadd hC.1 hC.2.1 dL_law_301 ?_
  obtain ⟨hg1, hf⟩ := o_g hf
  refine va_sld hC.1 hC.2.1 hX hbl hbA hM.1.2.2 (ix_in hg1) dL_law_302 ?_
  refine lv_aload_n hC.1 hC.2.1 dL_law_303 rfl (lv_at hl 0 rfl) ?_
  refine lv_iload_n hC.1 hC.2.1 dL_law_304 rfl (lv_at hl 3 rfl) ?_
  refine lv_iconst hC.1 hC.2.1 dL_law_305 ci_2 ?_
  refine lv_iadd hC.1 hC.2.1 dL_law_306 ?_
  obtain ⟨hg2, hf⟩ := o_g hf
  refine va_sld hC.1 hC.2.1 hX hbl hbA hM.1.2.2 (ix_in hg2) dL_law_307 ?_
  obtain ⟨r3, M5, hq4, hf⟩ := o_b2 hf
  refine l2_c1 (As := [.int (xs (Int32.toNatClampNeg (x3 + 1))), .int (xs (Int32.toNatClampNeg (x3 + 2)))]) (rest := []) hC hM (mcX11_voterOf V l M (xs (Int32.toNatClampNeg (x3 + 1))) (xs (Int32.toNatClampNeg (x3 + 2))) r3 M5 hq4) (mw_kV hC q_477 q_478 q_479 q_107 q_480 ⟨rfl, rfl⟩ kV_X11_voterOf ⟨Nat.le_of_ble_eq_true rfl, Nat.le_of_ble_eq_true rfl⟩) rfl rfl (Nat.le_of_ble_eq_true rfl) hl.1 hcs dL_law_308 (fun H locs hM => ?_)
  refine lv_aload_n hC.1 hC.2.1 dL_law_311 rfl (lv_at hl 2 rfl) ?_
  refine lv_aload_n hC.1 hC.2.1 dL_law_312 rfl (lv_at hl 0 rfl) ?_
  refine lv_iload_n hC.1 hC.2.1 dL_law_313 rfl (lv_at hl 3 rfl) ?_
  refine lv_iconst hC.1 hC.2.1 dL_law_314 ci_1 ?_
  refine lv_iadd hC.1 hC.2.1 dL_law_315 ?_
  obtain ⟨hg6, hf⟩ := o_g hf
  refine va_sld hC.1 hC.2.1 hX hbl hbA hM.1.2.2 (ix_in hg6) dL_law_316 ?_
  refine lv_aload_n hC.1 hC.2.1 dL_law_317 rfl (lv_at hl 0 rfl) ?_
  refine lv_iload_n hC.1 hC.2.1 dL_law_318 rfl (lv_at hl 3 rfl) ?_
  refine lv_iconst hC.1 hC.2.1 dL_law_319 ci_2 ?_
  refine lv_iadd hC.1 hC.2.1 dL_law_320 ?_
  obtain ⟨hg7, hf⟩ := o_g hf
  refine va_sld hC.1 hC.2.1 hX hbl hbA hM.1.2.2 (ix_in hg7) dL_law_321 ?_
  obtain ⟨r8, M10, hq9, hf⟩ := o_b2 hf
  refine l2_c2 (As := [.int (xs (Int32.toNatClampNeg (x3 + 1))), .int (xs (Int32.toNatClampNeg (x3 + 2)))]) (rest := [.int r3]) hC hM (mcX12_voterOf (V2 V a') l T (xs (Int32.toNatClampNeg (x3 + 1))) (xs (Int32.toNatClampNeg (x3 + 2))) r8 M10 hq9) (mw_kV hC q_1273 q_1274 q_1275 q_120 q_1276 ⟨rfl, rfl⟩ kV_X12_voterOf ⟨Nat.le_of_ble_eq_true rfl, Nat.le_of_ble_eq_true rfl⟩) rfl rfl (Nat.le_of_ble_eq_true rfl) hl.1 hcs dL_law_322 (fun H locs hM => ?_)
  refine lv_icmp_eq (tgt := 1647) hC.1 hC.2.1 dL_law_325 (by decide) (fun hc11 => ?_) (fun hc11 => ?_)
  · have hf := o_t hc11 hf
    refine lv_iinc (k := 3) (lv' := [(3, .int (x3 + 5)), (0, .ref b), (1, .ref (mvA V 0)), (2, .ref (a' 0))]) hC.1 hC.2.1 dL_law_1647 hl rfl (inc_5 _) (Nat.le_of_ble_eq_true rfl) rfl (fun ls hl => ?_)
    refine lv_goto (tgt := 18) hC.1 hC.2.1 dL_law_1650 (by decide) ?_
    exact hk _ _ _ _ _ _ hf hM (lv_sub hl [1, 2, 3, 0] rfl)
  · have hf := o_f hc11 hf
    exact absurd (Option.some.inj hf) (by decide)
set_option maxHeartbeats 4000000 in
set_option maxRecDepth 100000 in
theorem lc_2 {p : Program} {e : Env} {s : State} {m : MethodId} {below : List Frame} {meth : Method} {c : Code} {l : Launch} {x : Cond} {V : mV} {a' : Nat → Nat} {b L cells slots : Nat} {xs : Nat → Int32} {A : Nat → Prop} {Q : State → Prop} (hC : mw_C p s m #[Value.ref b] c code 4 RL x (mvD V) vwCl (mvY V) ssL (mvK V) (mvW V) A) (hX : va_X b L xs s s.heap) (hbl : b < s.heap.size) (hbA : ¬ A b) (hcs : cells ≤ room_1.cells ∧ slots ≤ room_1.slots) {kf : mM → mM → Int32 → Option Int32} (hk : ∀ (M T : mM) (x3 : Int32) (H : Heap) (locs : List Loc) (ls : Array Slot), kf M T x3 = some 1 → L2 V a' M T A s H locs → lv_has ls 4 [(0, .ref b), (1, .ref (mvA V 0)), (2, .ref (a' 0)), (3, .int x3)] → W p l e room_1 s m #[Value.ref b] below meth c H locs cells slots Q (F0 m 18 ls [])) (M T : mM) (x3 : Int32) (H : Heap) (locs : List Loc) (ls : Array Slot) (hf : fL_2 kf L xs M T x3 = some 1) (hM : L2 V a' M T A s H locs) (hl : lv_has ls 4 [(0, .ref b), (1, .ref (mvA V 0)), (2, .ref (a' 0)), (3, .int x3)]) : W p l e room_1 s m #[Value.ref b] below meth c H locs cells slots Q (F0 m 330 ls []) := by
  unfold fL_2 at hf
  refine lv_aload_n hC.1 hC.2.1 dL_law_330 rfl (lv_at hl 1 rfl) ?_
  refine lv_aload_n hC.1 hC.2.1 dL_law_331 rfl (lv_at hl 0 rfl) ?_
  refine lv_iload_n hC.1 hC.2.1 dL_law_332 rfl (lv_at hl 3 rfl) ?_
  refine lv_iconst hC.1 hC.2.1 dL_law_333 ci_1 ?_
  refine lv_iadd hC.1 hC.2.1 dL_law_334 ?_
  obtain ⟨hg1, hf⟩ := o_g hf
  refine va_sld hC.1 hC.2.1 hX hbl hbA hM.1.2.2 (ix_in hg1) dL_law_335 ?_
  refine lv_aload_n hC.1 hC.2.1 dL_law_336 rfl (lv_at hl 0 rfl) ?_
  refine lv_iload_n hC.1 hC.2.1 dL_law_337 rfl (lv_at hl 3 rfl) ?_
  refine lv_iconst hC.1 hC.2.1 dL_law_338 ci_2 ?_
  refine lv_iadd hC.1 hC.2.1 dL_law_339 ?_
  obtain ⟨hg2, hf⟩ := o_g hf
  refine va_sld hC.1 hC.2.1 hX hbl hbA hM.1.2.2 (ix_in hg2) dL_law_340 ?_
  refine lv_aload_n hC.1 hC.2.1 dL_law_341 rfl (lv_at hl 0 rfl) ?_
  refine lv_iload_n hC.1 hC.2.1 dL_law_342 rfl (lv_at hl 3 rfl) ?_
  refine lv_iconst hC.1 hC.2.1 dL_law_343 ci_3 ?_
  refine lv_iadd hC.1 hC.2.1 dL_law_344 ?_
  obtain ⟨hg3, hf⟩ := o_g hf
  refine va_sld hC.1 hC.2.1 hX hbl hbA hM.1.2.2 (ix_in hg3) dL_law_345 ?_
  obtain ⟨r4, M6, hq5, hf⟩ := o_b2 hf
  refine l2_c1 (As := [.int (xs (Int32.toNatClampNeg (x3 + 1))), .int (xs (Int32.toNatClampNeg (x3 + 2))), .int (xs (Int32.toNatClampNeg (x3 + 3)))]) (rest := []) hC hM (mcX11_change V l M (xs (Int32.toNatClampNeg (x3 + 1))) (xs (Int32.toNatClampNeg (x3 + 2))) (xs (Int32.toNatClampNeg (x3 + 3))) r4 M6 hq5) (mw_kV hC q_540 q_541 q_542 q_107 q_543 ⟨rfl, rfl⟩ kV_X11_change ⟨Nat.le_of_ble_eq_true rfl, Nat.le_of_ble_eq_true rfl⟩) rfl rfl (Nat.le_of_ble_eq_true rfl) hl.1 hcs dL_law_346 (fun H locs hM => ?_)
  refine lv_aload_n hC.1 hC.2.1 dL_law_349 rfl (lv_at hl 2 rfl) ?_
  refine lv_aload_n hC.1 hC.2.1 dL_law_350 rfl (lv_at hl 0 rfl) ?_
  refine lv_iload_n hC.1 hC.2.1 dL_law_351 rfl (lv_at hl 3 rfl) ?_
  refine lv_iconst hC.1 hC.2.1 dL_law_352 ci_1 ?_
  refine lv_iadd hC.1 hC.2.1 dL_law_353 ?_
  obtain ⟨hg7, hf⟩ := o_g hf
  refine va_sld hC.1 hC.2.1 hX hbl hbA hM.1.2.2 (ix_in hg7) dL_law_354 ?_
  refine lv_aload_n hC.1 hC.2.1 dL_law_355 rfl (lv_at hl 0 rfl) ?_
  refine lv_iload_n hC.1 hC.2.1 dL_law_356 rfl (lv_at hl 3 rfl) ?_
  refine lv_iconst hC.1 hC.2.1 dL_law_357 ci_2 ?_
  refine lv_iadd hC.1 hC.2.1 dL_law_358 ?_
  obtain ⟨hg8, hf⟩ := o_g hf
  refine va_sld hC.1 hC.2.1 hX hbl hbA hM.1.2.2 (ix_in hg8) dL_law_359 ?_
  refine lv_aload_n hC.1 hC.2.1 dL_law_360 rfl (lv_at hl 0 rfl) ?_
  refine lv_iload_n hC.1 hC.2.1 dL_law_361 rfl (lv_at hl 3 rfl) ?_
  refine lv_iconst hC.1 hC.2.1 dL_law_362 ci_3 ?_
  refine lv_iadd hC.1 hC.2.1 dL_law_363 ?_
  obtain ⟨hg9, hf⟩ := o_g hf
  refine va_sld hC.1 hC.2.1 hX hbl hbA hM.1.2.2 (ix_in hg9) dL_law_364 ?_
  obtain ⟨r10, M12, hq11, hf⟩ := o_b2 hf
  refine l2_c2 (As := [.int (xs (Int32.toNatClampNeg (x3 + 1))), .int (xs (Int32.toNatClampNeg (x3 + 2))), .int (xs (Int32.toNatClampNeg (x3 + 3)))]) (rest := [.int r4]) hC hM (mcX12_change (V2 V a') l T (xs (Int32.toNatClampNeg (x3 + 1))) (xs (Int32.toNatClampNeg (x3 + 2))) (xs (Int32.toNatClampNeg (x3 + 3))) r10 M12 hq11) (mw_kV hC q_1320 q_1321 q_1322 q_120 q_1323 ⟨rfl, rfl⟩ kV_X12_change ⟨Nat.le_of_ble_eq_true rfl, Nat.le_of_ble_eq_true rfl⟩) rfl rfl (Nat.le_of_ble_eq_true rfl) hl.1 hcs dL_law_365 (fun H locs hM => ?_)
  refine lv_icmp_eq (tgt := 1647) hC.1 hC.2.1 dL_law_368 (by decide) (fun hc13 => ?_) (fun hc13 => ?_)
  · have hf := o_t hc13 hf
    refine lv_iinc (k := 3) (lv' := [(3, .int (x3 + 5)), (0, .ref b), (1, .ref (mvA V 0)), (2, .ref (a' 0))]) hC.1 hC.2.1 dL_law_1647 hl rfl (inc_5 _) (Nat.le_of_ble_eq_true rfl) rfl (fun ls hl => ?_)
    refine lv_goto (tgt := 18) hC.1 hC.2.1 dL_law_1650 (by decide) ?_
    exact hk _ _ _ _ _ _ hf hM (lv_sub hl [1, 2, 3, 0] rfl)
  · have hf := o_f hc13 hf
    exact absurd (Option.some.inj hf) (by decide)
set_option maxHeartbeats 4000000 in
set_option maxRecDepth 100000 in
theorem lc_3 {p : Program} {e : Env} {s : State} {m : MethodId} {below : List Frame} {meth : Method} {c : Code} {l : Launch} {x : Cond} {V : mV} {a' : Nat → Nat} {b L cells slots : Nat} {xs : Nat → Int32} {A : Nat → Prop} {Q : State → Prop} (hC : mw_C p s m #[Value.ref b] c code 4 RL x (mvD V) vwCl (mvY V) ssL (mvK V) (mvW V) A) (hX : va_X b L xs s s.heap) (hbl : b < s.heap.size) (hbA : ¬ A b) (hcs : cells ≤ room_1.cells ∧ slots ≤ room_1.slots) {kf : mM → mM → Int32 → Option Int32} (hk : ∀ (M T : mM) (x3 : Int32) (H : Heap) (locs : List Loc) (ls : Array Slot), kf M T x3 = some 1 → L2 V a' M T A s H locs → lv_has ls 4 [(0, .ref b), (1, .ref (mvA V 0)), (2, .ref (a' 0)), (3, .int x3)] → W p l e room_1 s m #[Value.ref b] below meth c H locs cells slots Q (F0 m 18 ls [])) (M T : mM) (x3 : Int32) (H : Heap) (locs : List Loc) (ls : Array Slot) (hf : fL_3 kf L xs M T x3 = some 1) (hM : L2 V a' M T A s H locs) (hl : lv_has ls 4 [(0, .ref b), (1, .ref (mvA V 0)), (2, .ref (a' 0)), (3, .int x3)]) : W p l e room_1 s m #[Value.ref b] below meth c H locs cells slots Q (F0 m 373 ls []) := by
  unfold fL_3 at hf
  refine lv_aload_n hC.1 hC.2.1 dL_law_373 rfl (lv_at hl 1 rfl) ?_
  refine lv_aload_n hC.1 hC.2.1 dL_law_374 rfl (lv_at hl 0 rfl) ?_
  refine lv_iload_n hC.1 hC.2.1 dL_law_375 rfl (lv_at hl 3 rfl) ?_
  refine lv_iconst hC.1 hC.2.1 dL_law_376 ci_1 ?_
  refine lv_iadd hC.1 hC.2.1 dL_law_377 ?_
  obtain ⟨hg1, hf⟩ := o_g hf
  refine va_sld hC.1 hC.2.1 hX hbl hbA hM.1.2.2 (ix_in hg1) dL_law_378 ?_
  refine lv_aload_n hC.1 hC.2.1 dL_law_379 rfl (lv_at hl 0 rfl) ?_
  refine lv_iload_n hC.1 hC.2.1 dL_law_380 rfl (lv_at hl 3 rfl) ?_
  refine lv_iconst hC.1 hC.2.1 dL_law_381 ci_2 ?_
  refine lv_iadd hC.1 hC.2.1 dL_law_382 ?_
  obtain ⟨hg2, hf⟩ := o_g hf
  refine va_sld hC.1 hC.2.1 hX hbl hbA hM.1.2.2 (ix_in hg2) dL_law_383 ?_
  obtain ⟨r3, M5, hq4, hf⟩ := o_b2 hf
  refine l2_c1 (As := [.int (xs (Int32.toNatClampNeg (x3 + 1))), .int (xs (Int32.toNatClampNeg (x3 + 2)))]) (rest := []) hC hM (mcX11_remake V l M (xs (Int32.toNatClampNeg (x3 + 1))) (xs (Int32.toNatClampNeg (x3 + 2))) r3 M5 hq4) (mw_kV hC q_544 q_545 q_546 q_107 q_547 ⟨rfl, rfl⟩ kV_X11_remake ⟨Nat.le_of_ble_eq_true rfl, Nat.le_of_ble_eq_true rfl⟩) rfl rfl (Nat.le_of_ble_eq_true rfl) hl.1 hcs dL_law_384 (fun H locs hM => ?_)
  refine lv_aload_n hC.1 hC.2.1 dL_law_387 rfl (lv_at hl 2 rfl) ?_
  refine lv_aload_n hC.1 hC.2.1 dL_law_388 rfl (lv_at hl 0 rfl) ?_
  refine lv_iload_n hC.1 hC.2.1 dL_law_389 rfl (lv_at hl 3 rfl) ?_
  refine lv_iconst hC.1 hC.2.1 dL_law_390 ci_1 ?_
  refine lv_iadd hC.1 hC.2.1 dL_law_391 ?_
  obtain ⟨hg6, hf⟩ := o_g hf
  refine va_sld hC.1 hC.2.1 hX hbl hbA hM.1.2.2 (ix_in hg6) dL_law_392 ?_
  refine lv_aload_n hC.1 hC.2.1 dL_law_393 rfl (lv_at hl 0 rfl) ?_
  refine lv_iload_n hC.1 hC.2.1 dL_law_394 rfl (lv_at hl 3 rfl) ?_
  refine lv_iconst hC.1 hC.2.1 dL_law_395 ci_2 ?_
  refine lv_iadd hC.1 hC.2.1 dL_law_396 ?_
  obtain ⟨hg7, hf⟩ := o_g hf
  refine va_sld hC.1 hC.2.1 hX hbl hbA hM.1.2.2 (ix_in hg7) dL_law_397 ?_
  obtain ⟨r8, M10, hq9, hf⟩ := o_b2 hf
  refine l2_c2 (As := [.int (xs (Int32.toNatClampNeg (x3 + 1))), .int (xs (Int32.toNatClampNeg (x3 + 2)))]) (rest := [.int r3]) hC hM (mcX12_remake (V2 V a') l T (xs (Int32.toNatClampNeg (x3 + 1))) (xs (Int32.toNatClampNeg (x3 + 2))) r8 M10 hq9) (mw_kV hC q_1328 q_1329 q_1330 q_120 q_1331 ⟨rfl, rfl⟩ kV_X12_remake ⟨Nat.le_of_ble_eq_true rfl, Nat.le_of_ble_eq_true rfl⟩) rfl rfl (Nat.le_of_ble_eq_true rfl) hl.1 hcs dL_law_398 (fun H locs hM => ?_)
  refine lv_icmp_eq (tgt := 1647) hC.1 hC.2.1 dL_law_401 (by decide) (fun hc11 => ?_) (fun hc11 => ?_)
  · have hf := o_t hc11 hf
    refine lv_iinc (k := 3) (lv' := [(3, .int (x3 + 5)), (0, .ref b), (1, .ref (mvA V 0)), (2, .ref (a' 0))]) hC.1 hC.2.1 dL_law_1647 hl rfl (inc_5 _) (Nat.le_of_ble_eq_true rfl) rfl (fun ls hl => ?_)
    refine lv_goto (tgt := 18) hC.1 hC.2.1 dL_law_1650 (by decide) ?_
    exact hk _ _ _ _ _ _ hf hM (lv_sub hl [1, 2, 3, 0] rfl)
  · have hf := o_f hc11 hf
    exact absurd (Option.some.inj hf) (by decide)
set_option maxHeartbeats 4000000 in
set_option maxRecDepth 100000 in
theorem lc_4 {p : Program} {e : Env} {s : State} {m : MethodId} {below : List Frame} {meth : Method} {c : Code} {l : Launch} {x : Cond} {V : mV} {a' : Nat → Nat} {b L cells slots : Nat} {xs : Nat → Int32} {A : Nat → Prop} {Q : State → Prop} (hC : mw_C p s m #[Value.ref b] c code 4 RL x (mvD V) vwCl (mvY V) ssL (mvK V) (mvW V) A) (hX : va_X b L xs s s.heap) (hbl : b < s.heap.size) (hbA : ¬ A b) (hcs : cells ≤ room_1.cells ∧ slots ≤ room_1.slots) {kf : mM → mM → Int32 → Option Int32} (hk : ∀ (M T : mM) (x3 : Int32) (H : Heap) (locs : List Loc) (ls : Array Slot), kf M T x3 = some 1 → L2 V a' M T A s H locs → lv_has ls 4 [(0, .ref b), (1, .ref (mvA V 0)), (2, .ref (a' 0)), (3, .int x3)] → W p l e room_1 s m #[Value.ref b] below meth c H locs cells slots Q (F0 m 18 ls [])) (M T : mM) (x3 : Int32) (H : Heap) (locs : List Loc) (ls : Array Slot) (hf : fL_4 kf L xs M T x3 = some 1) (hM : L2 V a' M T A s H locs) (hl : lv_has ls 4 [(0, .ref b), (1, .ref (mvA V 0)), (2, .ref (a' 0)), (3, .int x3)]) : W p l e room_1 s m #[Value.ref b] below meth c H locs cells slots Q (F0 m 406 ls []) := by
  unfold fL_4 at hf
  refine lv_aload_n hC.1 hC.2.1 dL_law_406 rfl (lv_at hl 1 rfl) ?_
  refine lv_aload_n hC.1 hC.2.1 dL_law_407 rfl (lv_at hl 0 rfl) ?_
  refine lv_iload_n hC.1 hC.2.1 dL_law_408 rfl (lv_at hl 3 rfl) ?_
  refine lv_iconst hC.1 hC.2.1 dL_law_409 ci_1 ?_
  refine lv_iadd hC.1 hC.2.1 dL_law_410 ?_
  obtain ⟨hg1, hf⟩ := o_g hf
  refine va_sld hC.1 hC.2.1 hX hbl hbA hM.1.2.2 (ix_in hg1) dL_law_411 ?_
  refine lv_aload_n hC.1 hC.2.1 dL_law_412 rfl (lv_at hl 0 rfl) ?_
  refine lv_iload_n hC.1 hC.2.1 dL_law_413 rfl (lv_at hl 3 rfl) ?_
  refine lv_iconst hC.1 hC.2.1 dL_law_414 ci_2 ?_
  refine lv_iadd hC.1 hC.2.1 dL_law_415 ?_
  obtain ⟨hg2, hf⟩ := o_g hf
  refine va_sld hC.1 hC.2.1 hX hbl hbA hM.1.2.2 (ix_in hg2) dL_law_416 ?_
  refine lv_if_eq (tgt := 424) hC.1 hC.2.1 dL_law_417 (by decide) (fun hc31 => ?_) (fun hc31 => ?_)
  · have hf := o_t hc31 hf
    refine lv_iconst hC.1 hC.2.1 dL_law_424 ci_0 ?_
    obtain ⟨r3, M5, hq4, hf⟩ := o_b2 hf
    refine l2_c1 (As := [.int (xs (Int32.toNatClampNeg (x3 + 1))), .int 0]) (rest := []) hC hM (mcX11_wakes V l M (xs (Int32.toNatClampNeg (x3 + 1))) 0 r3 M5 hq4) (mw_kV hC q_548 q_549 q_550 q_107 q_551 ⟨rfl, rfl⟩ kV_X11_wakes ⟨Nat.le_of_ble_eq_true rfl, Nat.le_of_ble_eq_true rfl⟩) rfl rfl (Nat.le_of_ble_eq_true rfl) hl.1 hcs dL_law_425 (fun H locs hM => ?_)
    refine lv_aload_n hC.1 hC.2.1 dL_law_428 rfl (lv_at hl 2 rfl) ?_
    refine lv_aload_n hC.1 hC.2.1 dL_law_429 rfl (lv_at hl 0 rfl) ?_
    refine lv_iload_n hC.1 hC.2.1 dL_law_430 rfl (lv_at hl 3 rfl) ?_
    refine lv_iconst hC.1 hC.2.1 dL_law_431 ci_1 ?_
    refine lv_iadd hC.1 hC.2.1 dL_law_432 ?_
    obtain ⟨hg6, hf⟩ := o_g hf
    refine va_sld hC.1 hC.2.1 hX hbl hbA hM.1.2.2 (ix_in hg6) dL_law_433 ?_
    refine lv_aload_n hC.1 hC.2.1 dL_law_434 rfl (lv_at hl 0 rfl) ?_
    refine lv_iload_n hC.1 hC.2.1 dL_law_435 rfl (lv_at hl 3 rfl) ?_
    refine lv_iconst hC.1 hC.2.1 dL_law_436 ci_2 ?_
    refine lv_iadd hC.1 hC.2.1 dL_law_437 ?_
    obtain ⟨hg7, hf⟩ := o_g hf
    refine va_sld hC.1 hC.2.1 hX hbl hbA hM.1.2.2 (ix_in hg7) dL_law_438 ?_
    refine lv_if_eq (tgt := 446) hC.1 hC.2.1 dL_law_439 (by decide) (fun hc16 => ?_) (fun hc16 => ?_)
    · have hf := o_t hc16 hf
      refine lv_iconst hC.1 hC.2.1 dL_law_446 ci_0 ?_
      obtain ⟨r8, M10, hq9, hf⟩ := o_b2 hf
      refine l2_c2 (As := [.int (xs (Int32.toNatClampNeg (x3 + 1))), .int 0]) (rest := [.int r3]) hC hM (mcX12_wakes (V2 V a') l T (xs (Int32.toNatClampNeg (x3 + 1))) 0 r8 M10 hq9) (mw_kV hC q_1332 q_1333 q_1334 q_120 q_1335 ⟨rfl, rfl⟩ kV_X12_wakes ⟨Nat.le_of_ble_eq_true rfl, Nat.le_of_ble_eq_true rfl⟩) rfl rfl (Nat.le_of_ble_eq_true rfl) hl.1 hcs dL_law_447 (fun H locs hM => ?_)
      refine lv_icmp_eq (tgt := 1647) hC.1 hC.2.1 dL_law_450 (by decide) (fun hc11 => ?_) (fun hc11 => ?_)
      · have hf := o_t hc11 hf
        refine lv_iinc (k := 3) (lv' := [(3, .int (x3 + 5)), (0, .ref b), (1, .ref (mvA V 0)), (2, .ref (a' 0))]) hC.1 hC.2.1 dL_law_1647 hl rfl (inc_5 _) (Nat.le_of_ble_eq_true rfl) rfl (fun ls hl => ?_)
        refine lv_goto (tgt := 18) hC.1 hC.2.1 dL_law_1650 (by decide) ?_
        exact hk _ _ _ _ _ _ hf hM (lv_sub hl [1, 2, 3, 0] rfl)
      · have hf := o_f hc11 hf
        exact absurd (Option.some.inj hf) (by decide)
    · have hf := o_f hc16 hf
      refine lv_iconst hC.1 hC.2.1 dL_law_442 ci_1 ?_
      refine lv_goto (tgt := 447) hC.1 hC.2.1 dL_law_443 (by decide) ?_
      obtain ⟨r12, M14, hq13, hf⟩ := o_b2 hf
      refine l2_c2 (As := [.int (xs (Int32.toNatClampNeg (x3 + 1))), .int 1]) (rest := [.int r3]) hC hM (mcX12_wakes (V2 V a') l T (xs (Int32.toNatClampNeg (x3 + 1))) 1 r12 M14 hq13) (mw_kV hC q_1332 q_1333 q_1334 q_120 q_1335 ⟨rfl, rfl⟩ kV_X12_wakes ⟨Nat.le_of_ble_eq_true rfl, Nat.le_of_ble_eq_true rfl⟩) rfl rfl (Nat.le_of_ble_eq_true rfl) hl.1 hcs dL_law_447 (fun H locs hM => ?_)
      refine lv_icmp_eq (tgt := 1647) hC.1 hC.2.1 dL_law_450 (by decide) (fun hc15 => ?_) (fun hc15 => ?_)
      · have hf := o_t hc15 hf
        refine lv_iinc (k := 3) (lv' := [(3, .int (x3 + 5)), (0, .ref b), (1, .ref (mvA V 0)), (2, .ref (a' 0))]) hC.1 hC.2.1 dL_law_1647 hl rfl (inc_5 _) (Nat.le_of_ble_eq_true rfl) rfl (fun ls hl => ?_)
        refine lv_goto (tgt := 18) hC.1 hC.2.1 dL_law_1650 (by decide) ?_
        exact hk _ _ _ _ _ _ hf hM (lv_sub hl [1, 2, 3, 0] rfl)
      · have hf := o_f hc15 hf
        exact absurd (Option.some.inj hf) (by decide)
  · have hf := o_f hc31 hf
    refine lv_iconst hC.1 hC.2.1 dL_law_420 ci_1 ?_
    refine lv_goto (tgt := 425) hC.1 hC.2.1 dL_law_421 (by decide) ?_
    obtain ⟨r17, M19, hq18, hf⟩ := o_b2 hf
    refine l2_c1 (As := [.int (xs (Int32.toNatClampNeg (x3 + 1))), .int 1]) (rest := []) hC hM (mcX11_wakes V l M (xs (Int32.toNatClampNeg (x3 + 1))) 1 r17 M19 hq18) (mw_kV hC q_548 q_549 q_550 q_107 q_551 ⟨rfl, rfl⟩ kV_X11_wakes ⟨Nat.le_of_ble_eq_true rfl, Nat.le_of_ble_eq_true rfl⟩) rfl rfl (Nat.le_of_ble_eq_true rfl) hl.1 hcs dL_law_425 (fun H locs hM => ?_)
    refine lv_aload_n hC.1 hC.2.1 dL_law_428 rfl (lv_at hl 2 rfl) ?_
    refine lv_aload_n hC.1 hC.2.1 dL_law_429 rfl (lv_at hl 0 rfl) ?_
    refine lv_iload_n hC.1 hC.2.1 dL_law_430 rfl (lv_at hl 3 rfl) ?_
    refine lv_iconst hC.1 hC.2.1 dL_law_431 ci_1 ?_
    refine lv_iadd hC.1 hC.2.1 dL_law_432 ?_
    obtain ⟨hg20, hf⟩ := o_g hf
    refine va_sld hC.1 hC.2.1 hX hbl hbA hM.1.2.2 (ix_in hg20) dL_law_433 ?_
    refine lv_aload_n hC.1 hC.2.1 dL_law_434 rfl (lv_at hl 0 rfl) ?_
    refine lv_iload_n hC.1 hC.2.1 dL_law_435 rfl (lv_at hl 3 rfl) ?_
    refine lv_iconst hC.1 hC.2.1 dL_law_436 ci_2 ?_
    refine lv_iadd hC.1 hC.2.1 dL_law_437 ?_
    obtain ⟨hg21, hf⟩ := o_g hf
    refine va_sld hC.1 hC.2.1 hX hbl hbA hM.1.2.2 (ix_in hg21) dL_law_438 ?_
    refine lv_if_eq (tgt := 446) hC.1 hC.2.1 dL_law_439 (by decide) (fun hc30 => ?_) (fun hc30 => ?_)
    · have hf := o_t hc30 hf
      refine lv_iconst hC.1 hC.2.1 dL_law_446 ci_0 ?_
      obtain ⟨r22, M24, hq23, hf⟩ := o_b2 hf
      refine l2_c2 (As := [.int (xs (Int32.toNatClampNeg (x3 + 1))), .int 0]) (rest := [.int r17]) hC hM (mcX12_wakes (V2 V a') l T (xs (Int32.toNatClampNeg (x3 + 1))) 0 r22 M24 hq23) (mw_kV hC q_1332 q_1333 q_1334 q_120 q_1335 ⟨rfl, rfl⟩ kV_X12_wakes ⟨Nat.le_of_ble_eq_true rfl, Nat.le_of_ble_eq_true rfl⟩) rfl rfl (Nat.le_of_ble_eq_true rfl) hl.1 hcs dL_law_447 (fun H locs hM => ?_)
      refine lv_icmp_eq (tgt := 1647) hC.1 hC.2.1 dL_law_450 (by decide) (fun hc25 => ?_) (fun hc25 => ?_)
      · have hf := o_t hc25 hf
        refine lv_iinc (k := 3) (lv' := [(3, .int (x3 + 5)), (0, .ref b), (1, .ref (mvA V 0)), (2, .ref (a' 0))]) hC.1 hC.2.1 dL_law_1647 hl rfl (inc_5 _) (Nat.le_of_ble_eq_true rfl) rfl (fun ls hl => ?_)
        refine lv_goto (tgt := 18) hC.1 hC.2.1 dL_law_1650 (by decide) ?_
        exact hk _ _ _ _ _ _ hf hM (lv_sub hl [1, 2, 3, 0] rfl)
      · have hf := o_f hc25 hf
        exact absurd (Option.some.inj hf) (by decide)
    · have hf := o_f hc30 hf
      refine lv_iconst hC.1 hC.2.1 dL_law_442 ci_1 ?_
      refine lv_goto (tgt := 447) hC.1 hC.2.1 dL_law_443 (by decide) ?_
      obtain ⟨r26, M28, hq27, hf⟩ := o_b2 hf
      refine l2_c2 (As := [.int (xs (Int32.toNatClampNeg (x3 + 1))), .int 1]) (rest := [.int r17]) hC hM (mcX12_wakes (V2 V a') l T (xs (Int32.toNatClampNeg (x3 + 1))) 1 r26 M28 hq27) (mw_kV hC q_1332 q_1333 q_1334 q_120 q_1335 ⟨rfl, rfl⟩ kV_X12_wakes ⟨Nat.le_of_ble_eq_true rfl, Nat.le_of_ble_eq_true rfl⟩) rfl rfl (Nat.le_of_ble_eq_true rfl) hl.1 hcs dL_law_447 (fun H locs hM => ?_)
      refine lv_icmp_eq (tgt := 1647) hC.1 hC.2.1 dL_law_450 (by decide) (fun hc29 => ?_) (fun hc29 => ?_)
      · have hf := o_t hc29 hf
        refine lv_iinc (k := 3) (lv' := [(3, .int (x3 + 5)), (0, .ref b), (1, .ref (mvA V 0)), (2, .ref (a' 0))]) hC.1 hC.2.1 dL_law_1647 hl rfl (inc_5 _) (Nat.le_of_ble_eq_true rfl) rfl (fun ls hl => ?_)
        refine lv_goto (tgt := 18) hC.1 hC.2.1 dL_law_1650 (by decide) ?_
        exact hk _ _ _ _ _ _ hf hM (lv_sub hl [1, 2, 3, 0] rfl)
      · have hf := o_f hc29 hf
        exact absurd (Option.some.inj hf) (by decide)
set_option maxHeartbeats 4000000 in
set_option maxRecDepth 100000 in
theorem lc_5 {p : Program} {e : Env} {s : State} {m : MethodId} {below : List Frame} {meth : Method} {c : Code} {l : Launch} {x : Cond} {V : mV} {a' : Nat → Nat} {b L cells slots : Nat} {xs : Nat → Int32} {A : Nat → Prop} {Q : State → Prop} (hC : mw_C p s m #[Value.ref b] c code 4 RL x (mvD V) vwCl (mvY V) ssL (mvK V) (mvW V) A) (hX : va_X b L xs s s.heap) (hbl : b < s.heap.size) (hbA : ¬ A b) (hcs : cells ≤ room_1.cells ∧ slots ≤ room_1.slots) {kf : mM → mM → Int32 → Option Int32} (hk : ∀ (M T : mM) (x3 : Int32) (H : Heap) (locs : List Loc) (ls : Array Slot), kf M T x3 = some 1 → L2 V a' M T A s H locs → lv_has ls 4 [(0, .ref b), (1, .ref (mvA V 0)), (2, .ref (a' 0)), (3, .int x3)] → W p l e room_1 s m #[Value.ref b] below meth c H locs cells slots Q (F0 m 18 ls [])) (M T : mM) (x3 : Int32) (H : Heap) (locs : List Loc) (ls : Array Slot) (hf : fL_5 kf L xs M T x3 = some 1) (hM : L2 V a' M T A s H locs) (hl : lv_has ls 4 [(0, .ref b), (1, .ref (mvA V 0)), (2, .ref (a' 0)), (3, .int x3)]) : W p l e room_1 s m #[Value.ref b] below meth c H locs cells slots Q (F0 m 455 ls []) := by
  unfold fL_5 at hf
  refine lv_aload_n hC.1 hC.2.1 dL_law_455 rfl (lv_at hl 1 rfl) ?_
  refine lv_aload_n hC.1 hC.2.1 dL_law_456 rfl (lv_at hl 0 rfl) ?_
  refine lv_iload_n hC.1 hC.2.1 dL_law_457 rfl (lv_at hl 3 rfl) ?_
  refine lv_iconst hC.1 hC.2.1 dL_law_458 ci_1 ?_
  refine lv_iadd hC.1 hC.2.1 dL_law_459 ?_
  obtain ⟨hg1, hf⟩ := o_g hf
  refine va_sld hC.1 hC.2.1 hX hbl hbA hM.1.2.2 (ix_in hg1) dL_law_460 ?_
  obtain ⟨r2, M4, hq3, hf⟩ := o_b2 hf
  refine l2_c1 (As := [.int (xs (Int32.toNatClampNeg (x3 + 1)))]) (rest := []) hC hM (mcX11_clock V l M (xs (Int32.toNatClampNeg (x3 + 1))) r2 M4 hq3) (mw_kV hC q_552 q_553 q_554 q_107 q_555 ⟨rfl, rfl⟩ kV_X11_clock ⟨Nat.le_of_ble_eq_true rfl, Nat.le_of_ble_eq_true rfl⟩) rfl rfl (Nat.le_of_ble_eq_true rfl) hl.1 hcs dL_law_461 (fun H locs hM => ?_)
  refine lv_aload_n hC.1 hC.2.1 dL_law_464 rfl (lv_at hl 2 rfl) ?_
  refine lv_aload_n hC.1 hC.2.1 dL_law_465 rfl (lv_at hl 0 rfl) ?_
  refine lv_iload_n hC.1 hC.2.1 dL_law_466 rfl (lv_at hl 3 rfl) ?_
  refine lv_iconst hC.1 hC.2.1 dL_law_467 ci_1 ?_
  refine lv_iadd hC.1 hC.2.1 dL_law_468 ?_
  obtain ⟨hg5, hf⟩ := o_g hf
  refine va_sld hC.1 hC.2.1 hX hbl hbA hM.1.2.2 (ix_in hg5) dL_law_469 ?_
  obtain ⟨r6, M8, hq7, hf⟩ := o_b2 hf
  refine l2_c2 (As := [.int (xs (Int32.toNatClampNeg (x3 + 1)))]) (rest := [.int r2]) hC hM (mcX12_clock (V2 V a') l T (xs (Int32.toNatClampNeg (x3 + 1))) r6 M8 hq7) (mw_kV hC q_1336 q_1337 q_1338 q_120 q_1339 ⟨rfl, rfl⟩ kV_X12_clock ⟨Nat.le_of_ble_eq_true rfl, Nat.le_of_ble_eq_true rfl⟩) rfl rfl (Nat.le_of_ble_eq_true rfl) hl.1 hcs dL_law_470 (fun H locs hM => ?_)
  refine lv_icmp_eq (tgt := 1647) hC.1 hC.2.1 dL_law_473 (by decide) (fun hc9 => ?_) (fun hc9 => ?_)
  · have hf := o_t hc9 hf
    refine lv_iinc (k := 3) (lv' := [(3, .int (x3 + 5)), (0, .ref b), (1, .ref (mvA V 0)), (2, .ref (a' 0))]) hC.1 hC.2.1 dL_law_1647 hl rfl (inc_5 _) (Nat.le_of_ble_eq_true rfl) rfl (fun ls hl => ?_)
    refine lv_goto (tgt := 18) hC.1 hC.2.1 dL_law_1650 (by decide) ?_
    exact hk _ _ _ _ _ _ hf hM (lv_sub hl [1, 2, 3, 0] rfl)
  · have hf := o_f hc9 hf
    exact absurd (Option.some.inj hf) (by decide)
set_option maxHeartbeats 4000000 in
set_option maxRecDepth 100000 in
theorem lc_6 {p : Program} {e : Env} {s : State} {m : MethodId} {below : List Frame} {meth : Method} {c : Code} {l : Launch} {x : Cond} {V : mV} {a' : Nat → Nat} {b L cells slots : Nat} {xs : Nat → Int32} {A : Nat → Prop} {Q : State → Prop} (hC : mw_C p s m #[Value.ref b] c code 4 RL x (mvD V) vwCl (mvY V) ssL (mvK V) (mvW V) A) (hX : va_X b L xs s s.heap) (hbl : b < s.heap.size) (hbA : ¬ A b) (hcs : cells ≤ room_1.cells ∧ slots ≤ room_1.slots) {kf : mM → mM → Int32 → Option Int32} (hk : ∀ (M T : mM) (x3 : Int32) (H : Heap) (locs : List Loc) (ls : Array Slot), kf M T x3 = some 1 → L2 V a' M T A s H locs → lv_has ls 4 [(0, .ref b), (1, .ref (mvA V 0)), (2, .ref (a' 0)), (3, .int x3)] → W p l e room_1 s m #[Value.ref b] below meth c H locs cells slots Q (F0 m 18 ls [])) (M T : mM) (x3 : Int32) (H : Heap) (locs : List Loc) (ls : Array Slot) (hf : fL_6 kf L xs M T x3 = some 1) (hM : L2 V a' M T A s H locs) (hl : lv_has ls 4 [(0, .ref b), (1, .ref (mvA V 0)), (2, .ref (a' 0)), (3, .int x3)]) : W p l e room_1 s m #[Value.ref b] below meth c H locs cells slots Q (F0 m 478 ls []) := by
  unfold fL_6 at hf
  refine lv_aload_n hC.1 hC.2.1 dL_law_478 rfl (lv_at hl 1 rfl) ?_
  refine lv_aload_n hC.1 hC.2.1 dL_law_479 rfl (lv_at hl 0 rfl) ?_
  refine lv_iload_n hC.1 hC.2.1 dL_law_480 rfl (lv_at hl 3 rfl) ?_
  refine lv_iconst hC.1 hC.2.1 dL_law_481 ci_1 ?_
  refine lv_iadd hC.1 hC.2.1 dL_law_482 ?_
  obtain ⟨hg1, hf⟩ := o_g hf
  refine va_sld hC.1 hC.2.1 hX hbl hbA hM.1.2.2 (ix_in hg1) dL_law_483 ?_
  obtain ⟨r2, M4, hq3, hf⟩ := o_b2 hf
  refine l2_c1 (As := [.int (xs (Int32.toNatClampNeg (x3 + 1)))]) (rest := []) hC hM (mcX11_limit V l M (xs (Int32.toNatClampNeg (x3 + 1))) r2 M4 hq3) (mw_kV hC q_556 q_557 q_558 q_107 q_559 ⟨rfl, rfl⟩ kV_X11_limit ⟨Nat.le_of_ble_eq_true rfl, Nat.le_of_ble_eq_true rfl⟩) rfl rfl (Nat.le_of_ble_eq_true rfl) hl.1 hcs dL_law_484 (fun H locs hM => ?_)
  refine lv_aload_n hC.1 hC.2.1 dL_law_487 rfl (lv_at hl 2 rfl) ?_
  refine lv_aload_n hC.1 hC.2.1 dL_law_488 rfl (lv_at hl 0 rfl) ?_
  refine lv_iload_n hC.1 hC.2.1 dL_law_489 rfl (lv_at hl 3 rfl) ?_
  refine lv_iconst hC.1 hC.2.1 dL_law_490 ci_1 ?_
  refine lv_iadd hC.1 hC.2.1 dL_law_491 ?_
  obtain ⟨hg5, hf⟩ := o_g hf
  refine va_sld hC.1 hC.2.1 hX hbl hbA hM.1.2.2 (ix_in hg5) dL_law_492 ?_
  obtain ⟨r6, M8, hq7, hf⟩ := o_b2 hf
  refine l2_c2 (As := [.int (xs (Int32.toNatClampNeg (x3 + 1)))]) (rest := [.int r2]) hC hM (mcX12_limit (V2 V a') l T (xs (Int32.toNatClampNeg (x3 + 1))) r6 M8 hq7) (mw_kV hC q_1340 q_1341 q_1342 q_120 q_1343 ⟨rfl, rfl⟩ kV_X12_limit ⟨Nat.le_of_ble_eq_true rfl, Nat.le_of_ble_eq_true rfl⟩) rfl rfl (Nat.le_of_ble_eq_true rfl) hl.1 hcs dL_law_493 (fun H locs hM => ?_)
  refine lv_icmp_eq (tgt := 1647) hC.1 hC.2.1 dL_law_496 (by decide) (fun hc9 => ?_) (fun hc9 => ?_)
  · have hf := o_t hc9 hf
    refine lv_iinc (k := 3) (lv' := [(3, .int (x3 + 5)), (0, .ref b), (1, .ref (mvA V 0)), (2, .ref (a' 0))]) hC.1 hC.2.1 dL_law_1647 hl rfl (inc_5 _) (Nat.le_of_ble_eq_true rfl) rfl (fun ls hl => ?_)
    refine lv_goto (tgt := 18) hC.1 hC.2.1 dL_law_1650 (by decide) ?_
    exact hk _ _ _ _ _ _ hf hM (lv_sub hl [1, 2, 3, 0] rfl)
  · have hf := o_f hc9 hf
    exact absurd (Option.some.inj hf) (by decide)
set_option maxHeartbeats 4000000 in
set_option maxRecDepth 100000 in
theorem lc_7 {p : Program} {e : Env} {s : State} {m : MethodId} {below : List Frame} {meth : Method} {c : Code} {l : Launch} {x : Cond} {V : mV} {a' : Nat → Nat} {b L cells slots : Nat} {xs : Nat → Int32} {A : Nat → Prop} {Q : State → Prop} (hC : mw_C p s m #[Value.ref b] c code 4 RL x (mvD V) vwCl (mvY V) ssL (mvK V) (mvW V) A) (hX : va_X b L xs s s.heap) (hbl : b < s.heap.size) (hbA : ¬ A b) (hcs : cells ≤ room_1.cells ∧ slots ≤ room_1.slots) {kf : mM → mM → Int32 → Option Int32} (hk : ∀ (M T : mM) (x3 : Int32) (H : Heap) (locs : List Loc) (ls : Array Slot), kf M T x3 = some 1 → L2 V a' M T A s H locs → lv_has ls 4 [(0, .ref b), (1, .ref (mvA V 0)), (2, .ref (a' 0)), (3, .int x3)] → W p l e room_1 s m #[Value.ref b] below meth c H locs cells slots Q (F0 m 18 ls [])) (M T : mM) (x3 : Int32) (H : Heap) (locs : List Loc) (ls : Array Slot) (hf : fL_7 kf L xs M T x3 = some 1) (hM : L2 V a' M T A s H locs) (hl : lv_has ls 4 [(0, .ref b), (1, .ref (mvA V 0)), (2, .ref (a' 0)), (3, .int x3)]) : W p l e room_1 s m #[Value.ref b] below meth c H locs cells slots Q (F0 m 501 ls []) := by
  unfold fL_7 at hf
  refine lv_aload_n hC.1 hC.2.1 dL_law_501 rfl (lv_at hl 1 rfl) ?_
  refine lv_aload_n hC.1 hC.2.1 dL_law_502 rfl (lv_at hl 0 rfl) ?_
  refine lv_iload_n hC.1 hC.2.1 dL_law_503 rfl (lv_at hl 3 rfl) ?_
  refine lv_iconst hC.1 hC.2.1 dL_law_504 ci_1 ?_
  refine lv_iadd hC.1 hC.2.1 dL_law_505 ?_
  obtain ⟨hg1, hf⟩ := o_g hf
  refine va_sld hC.1 hC.2.1 hX hbl hbA hM.1.2.2 (ix_in hg1) dL_law_506 ?_
  refine l2_c1 (As := [.int (xs (Int32.toNatClampNeg (x3 + 1)))]) (rest := []) hC hM (mcX11_state V l M (xs (Int32.toNatClampNeg (x3 + 1))) _ rfl) (mw_kV hC q_560 q_561 q_562 q_107 q_563 ⟨rfl, rfl⟩ kV_X11_state ⟨Nat.le_of_ble_eq_true rfl, Nat.le_of_ble_eq_true rfl⟩) rfl rfl (Nat.le_of_ble_eq_true rfl) hl.1 hcs dL_law_507 (fun H locs hM => ?_)
  refine lv_aload_n hC.1 hC.2.1 dL_law_510 rfl (lv_at hl 2 rfl) ?_
  refine lv_aload_n hC.1 hC.2.1 dL_law_511 rfl (lv_at hl 0 rfl) ?_
  refine lv_iload_n hC.1 hC.2.1 dL_law_512 rfl (lv_at hl 3 rfl) ?_
  refine lv_iconst hC.1 hC.2.1 dL_law_513 ci_1 ?_
  refine lv_iadd hC.1 hC.2.1 dL_law_514 ?_
  obtain ⟨hg2, hf⟩ := o_g hf
  refine va_sld hC.1 hC.2.1 hX hbl hbA hM.1.2.2 (ix_in hg2) dL_law_515 ?_
  obtain ⟨r3, hq4, hf⟩ := o_b hf
  refine l2_c2 (As := [.int (xs (Int32.toNatClampNeg (x3 + 1)))]) (rest := [.int (fX11_state M (xs (Int32.toNatClampNeg (x3 + 1))))]) hC hM (mcX12_state (V2 V a') l T (xs (Int32.toNatClampNeg (x3 + 1))) r3 hq4) (mw_kV hC q_1344 q_1345 q_1346 q_120 q_1347 ⟨rfl, rfl⟩ kV_X12_state ⟨Nat.le_of_ble_eq_true rfl, Nat.le_of_ble_eq_true rfl⟩) rfl rfl (Nat.le_of_ble_eq_true rfl) hl.1 hcs dL_law_516 (fun H locs hM => ?_)
  refine lv_icmp_eq (tgt := 1647) hC.1 hC.2.1 dL_law_519 (by decide) (fun hc5 => ?_) (fun hc5 => ?_)
  · have hf := o_t hc5 hf
    refine lv_iinc (k := 3) (lv' := [(3, .int (x3 + 5)), (0, .ref b), (1, .ref (mvA V 0)), (2, .ref (a' 0))]) hC.1 hC.2.1 dL_law_1647 hl rfl (inc_5 _) (Nat.le_of_ble_eq_true rfl) rfl (fun ls hl => ?_)
    refine lv_goto (tgt := 18) hC.1 hC.2.1 dL_law_1650 (by decide) ?_
    exact hk _ _ _ _ _ _ hf hM (lv_sub hl [1, 2, 3, 0] rfl)
  · have hf := o_f hc5 hf
    exact absurd (Option.some.inj hf) (by decide)
set_option maxHeartbeats 4000000 in
set_option maxRecDepth 100000 in
theorem lc_8 {p : Program} {e : Env} {s : State} {m : MethodId} {below : List Frame} {meth : Method} {c : Code} {l : Launch} {x : Cond} {V : mV} {a' : Nat → Nat} {b L cells slots : Nat} {xs : Nat → Int32} {A : Nat → Prop} {Q : State → Prop} (hC : mw_C p s m #[Value.ref b] c code 4 RL x (mvD V) vwCl (mvY V) ssL (mvK V) (mvW V) A) (hX : va_X b L xs s s.heap) (hbl : b < s.heap.size) (hbA : ¬ A b) (hcs : cells ≤ room_1.cells ∧ slots ≤ room_1.slots) {kf : mM → mM → Int32 → Option Int32} (hk : ∀ (M T : mM) (x3 : Int32) (H : Heap) (locs : List Loc) (ls : Array Slot), kf M T x3 = some 1 → L2 V a' M T A s H locs → lv_has ls 4 [(0, .ref b), (1, .ref (mvA V 0)), (2, .ref (a' 0)), (3, .int x3)] → W p l e room_1 s m #[Value.ref b] below meth c H locs cells slots Q (F0 m 18 ls [])) (M T : mM) (x3 : Int32) (H : Heap) (locs : List Loc) (ls : Array Slot) (hf : fL_8 kf L xs M T x3 = some 1) (hM : L2 V a' M T A s H locs) (hl : lv_has ls 4 [(0, .ref b), (1, .ref (mvA V 0)), (2, .ref (a' 0)), (3, .int x3)]) : W p l e room_1 s m #[Value.ref b] below meth c H locs cells slots Q (F0 m 524 ls []) := by
  unfold fL_8 at hf
  refine lv_aload_n hC.1 hC.2.1 dL_law_524 rfl (lv_at hl 1 rfl) ?_
  refine lv_aload_n hC.1 hC.2.1 dL_law_525 rfl (lv_at hl 0 rfl) ?_
  refine lv_iload_n hC.1 hC.2.1 dL_law_526 rfl (lv_at hl 3 rfl) ?_
  refine lv_iconst hC.1 hC.2.1 dL_law_527 ci_1 ?_
  refine lv_iadd hC.1 hC.2.1 dL_law_528 ?_
  obtain ⟨hg1, hf⟩ := o_g hf
  refine va_sld hC.1 hC.2.1 hX hbl hbA hM.1.2.2 (ix_in hg1) dL_law_529 ?_
  refine lv_i2l (v := (Int32.toInt64 (xs (Int32.toNatClampNeg (x3 + 1))))) hC.1 hC.2.1 dL_law_530 rfl ?_
  refine lv_bipush hC.1 hC.2.1 dL_law_531 cb_32 ?_
  refine lv_lshl (v := ((Int32.toInt64 (xs (Int32.toNatClampNeg (x3 + 1)))) <<< (Int32.toInt64 32 &&& 63))) hC.1 hC.2.1 dL_law_533 rfl ?_
  refine lv_aload_n hC.1 hC.2.1 dL_law_534 rfl (lv_at hl 0 rfl) ?_
  refine lv_iload_n hC.1 hC.2.1 dL_law_535 rfl (lv_at hl 3 rfl) ?_
  refine lv_iconst hC.1 hC.2.1 dL_law_536 ci_2 ?_
  refine lv_iadd hC.1 hC.2.1 dL_law_537 ?_
  obtain ⟨hg2, hf⟩ := o_g hf
  refine va_sld hC.1 hC.2.1 hX hbl hbA hM.1.2.2 (ix_in hg2) dL_law_538 ?_
  refine lv_i2l (v := (Int32.toInt64 (xs (Int32.toNatClampNeg (x3 + 2))))) hC.1 hC.2.1 dL_law_539 rfl ?_
  refine lv_ldc2 hC.1 hC.2.1 hC.2.2.2.1 (mw_w hC q_1774) dL_law_540 ?_
  refine lv_land hC.1 hC.2.1 dL_law_543 ?_
  refine lv_lor hC.1 hC.2.1 dL_law_544 ?_
  refine lv_aload_n hC.1 hC.2.1 dL_law_545 rfl (lv_at hl 0 rfl) ?_
  refine lv_iload_n hC.1 hC.2.1 dL_law_546 rfl (lv_at hl 3 rfl) ?_
  refine lv_iconst hC.1 hC.2.1 dL_law_547 ci_3 ?_
  refine lv_iadd hC.1 hC.2.1 dL_law_548 ?_
  obtain ⟨hg3, hf⟩ := o_g hf
  refine va_sld hC.1 hC.2.1 hX hbl hbA hM.1.2.2 (ix_in hg3) dL_law_549 ?_
  obtain ⟨r4, M6, hq5, hf⟩ := o_b2 hf
  refine l2_c1 (As := [.long (((Int32.toInt64 (xs (Int32.toNatClampNeg (x3 + 1)))) <<< (Int32.toInt64 32 &&& 63)) ||| ((Int32.toInt64 (xs (Int32.toNatClampNeg (x3 + 2)))) &&& 4294967295)), .int (xs (Int32.toNatClampNeg (x3 + 3)))]) (rest := []) hC hM (mcX11_feed V l M (((Int32.toInt64 (xs (Int32.toNatClampNeg (x3 + 1)))) <<< (Int32.toInt64 32 &&& 63)) ||| ((Int32.toInt64 (xs (Int32.toNatClampNeg (x3 + 2)))) &&& 4294967295)) (xs (Int32.toNatClampNeg (x3 + 3))) r4 M6 hq5) (mw_kV hC q_564 q_565 q_566 q_107 q_567 ⟨rfl, rfl⟩ kV_X11_feed ⟨Nat.le_of_ble_eq_true rfl, Nat.le_of_ble_eq_true rfl⟩) rfl rfl (Nat.le_of_ble_eq_true rfl) hl.1 hcs dL_law_550 (fun H locs hM => ?_)
  refine lv_aload_n hC.1 hC.2.1 dL_law_553 rfl (lv_at hl 2 rfl) ?_
  refine lv_aload_n hC.1 hC.2.1 dL_law_554 rfl (lv_at hl 0 rfl) ?_
  refine lv_iload_n hC.1 hC.2.1 dL_law_555 rfl (lv_at hl 3 rfl) ?_
  refine lv_iconst hC.1 hC.2.1 dL_law_556 ci_1 ?_
  refine lv_iadd hC.1 hC.2.1 dL_law_557 ?_
  obtain ⟨hg7, hf⟩ := o_g hf
  refine va_sld hC.1 hC.2.1 hX hbl hbA hM.1.2.2 (ix_in hg7) dL_law_558 ?_
  refine lv_i2l (v := (Int32.toInt64 (xs (Int32.toNatClampNeg (x3 + 1))))) hC.1 hC.2.1 dL_law_559 rfl ?_
  refine lv_bipush hC.1 hC.2.1 dL_law_560 cb_32 ?_
  refine lv_lshl (v := ((Int32.toInt64 (xs (Int32.toNatClampNeg (x3 + 1)))) <<< (Int32.toInt64 32 &&& 63))) hC.1 hC.2.1 dL_law_562 rfl ?_
  refine lv_aload_n hC.1 hC.2.1 dL_law_563 rfl (lv_at hl 0 rfl) ?_
  refine lv_iload_n hC.1 hC.2.1 dL_law_564 rfl (lv_at hl 3 rfl) ?_
  refine lv_iconst hC.1 hC.2.1 dL_law_565 ci_2 ?_
  refine lv_iadd hC.1 hC.2.1 dL_law_566 ?_
  obtain ⟨hg8, hf⟩ := o_g hf
  refine va_sld hC.1 hC.2.1 hX hbl hbA hM.1.2.2 (ix_in hg8) dL_law_567 ?_
  refine lv_i2l (v := (Int32.toInt64 (xs (Int32.toNatClampNeg (x3 + 2))))) hC.1 hC.2.1 dL_law_568 rfl ?_
  refine lv_ldc2 hC.1 hC.2.1 hC.2.2.2.1 (mw_w hC q_1774) dL_law_569 ?_
  refine lv_land hC.1 hC.2.1 dL_law_572 ?_
  refine lv_lor hC.1 hC.2.1 dL_law_573 ?_
  refine lv_aload_n hC.1 hC.2.1 dL_law_574 rfl (lv_at hl 0 rfl) ?_
  refine lv_iload_n hC.1 hC.2.1 dL_law_575 rfl (lv_at hl 3 rfl) ?_
  refine lv_iconst hC.1 hC.2.1 dL_law_576 ci_3 ?_
  refine lv_iadd hC.1 hC.2.1 dL_law_577 ?_
  obtain ⟨hg9, hf⟩ := o_g hf
  refine va_sld hC.1 hC.2.1 hX hbl hbA hM.1.2.2 (ix_in hg9) dL_law_578 ?_
  obtain ⟨r10, M12, hq11, hf⟩ := o_b2 hf
  refine l2_c2 (As := [.long (((Int32.toInt64 (xs (Int32.toNatClampNeg (x3 + 1)))) <<< (Int32.toInt64 32 &&& 63)) ||| ((Int32.toInt64 (xs (Int32.toNatClampNeg (x3 + 2)))) &&& 4294967295)), .int (xs (Int32.toNatClampNeg (x3 + 3)))]) (rest := [.int r4]) hC hM (mcX12_feed (V2 V a') l T (((Int32.toInt64 (xs (Int32.toNatClampNeg (x3 + 1)))) <<< (Int32.toInt64 32 &&& 63)) ||| ((Int32.toInt64 (xs (Int32.toNatClampNeg (x3 + 2)))) &&& 4294967295)) (xs (Int32.toNatClampNeg (x3 + 3))) r10 M12 hq11) (mw_kV hC q_1352 q_1353 q_1354 q_120 q_1355 ⟨rfl, rfl⟩ kV_X12_feed ⟨Nat.le_of_ble_eq_true rfl, Nat.le_of_ble_eq_true rfl⟩) rfl rfl (Nat.le_of_ble_eq_true rfl) hl.1 hcs dL_law_579 (fun H locs hM => ?_)
  refine lv_icmp_eq (tgt := 1647) hC.1 hC.2.1 dL_law_582 (by decide) (fun hc13 => ?_) (fun hc13 => ?_)
  · have hf := o_t hc13 hf
    refine lv_iinc (k := 3) (lv' := [(3, .int (x3 + 5)), (0, .ref b), (1, .ref (mvA V 0)), (2, .ref (a' 0))]) hC.1 hC.2.1 dL_law_1647 hl rfl (inc_5 _) (Nat.le_of_ble_eq_true rfl) rfl (fun ls hl => ?_)
    refine lv_goto (tgt := 18) hC.1 hC.2.1 dL_law_1650 (by decide) ?_
    exact hk _ _ _ _ _ _ hf hM (lv_sub hl [1, 2, 3, 0] rfl)
  · have hf := o_f hc13 hf
    exact absurd (Option.some.inj hf) (by decide)
set_option maxHeartbeats 4000000 in
set_option maxRecDepth 100000 in
theorem lc_9 {p : Program} {e : Env} {s : State} {m : MethodId} {below : List Frame} {meth : Method} {c : Code} {l : Launch} {x : Cond} {V : mV} {a' : Nat → Nat} {b L cells slots : Nat} {xs : Nat → Int32} {A : Nat → Prop} {Q : State → Prop} (hC : mw_C p s m #[Value.ref b] c code 4 RL x (mvD V) vwCl (mvY V) ssL (mvK V) (mvW V) A) (hX : va_X b L xs s s.heap) (hbl : b < s.heap.size) (hbA : ¬ A b) (hcs : cells ≤ room_1.cells ∧ slots ≤ room_1.slots) {kf : mM → mM → Int32 → Option Int32} (hk : ∀ (M T : mM) (x3 : Int32) (H : Heap) (locs : List Loc) (ls : Array Slot), kf M T x3 = some 1 → L2 V a' M T A s H locs → lv_has ls 4 [(0, .ref b), (1, .ref (mvA V 0)), (2, .ref (a' 0)), (3, .int x3)] → W p l e room_1 s m #[Value.ref b] below meth c H locs cells slots Q (F0 m 18 ls [])) (M T : mM) (x3 : Int32) (H : Heap) (locs : List Loc) (ls : Array Slot) (hf : fL_9 kf L xs M T x3 = some 1) (hM : L2 V a' M T A s H locs) (hl : lv_has ls 4 [(0, .ref b), (1, .ref (mvA V 0)), (2, .ref (a' 0)), (3, .int x3)]) : W p l e room_1 s m #[Value.ref b] below meth c H locs cells slots Q (F0 m 587 ls []) := by
  unfold fL_9 at hf
  refine lv_aload_n hC.1 hC.2.1 dL_law_587 rfl (lv_at hl 1 rfl) ?_
  obtain ⟨r1, M3, hq2, hf⟩ := o_b2 hf
  refine l2_c1 (As := []) (rest := []) hC hM (mcX11_rules V l M r1 M3 hq2) (mw_kV hC q_572 q_573 q_574 q_107 q_575 ⟨rfl, rfl⟩ kV_X11_rules ⟨Nat.le_of_ble_eq_true rfl, Nat.le_of_ble_eq_true rfl⟩) rfl rfl (Nat.le_of_ble_eq_true rfl) hl.1 hcs dL_law_588 (fun H locs hM => ?_)
  refine lv_aload_n hC.1 hC.2.1 dL_law_591 rfl (lv_at hl 2 rfl) ?_
  obtain ⟨r4, M6, hq5, hf⟩ := o_b2 hf
  refine l2_c2 (As := []) (rest := [.int r1]) hC hM (mcX12_rules (V2 V a') l T r4 M6 hq5) (mw_kV hC q_1358 q_1359 q_1360 q_120 q_1361 ⟨rfl, rfl⟩ kV_X12_rules ⟨Nat.le_of_ble_eq_true rfl, Nat.le_of_ble_eq_true rfl⟩) rfl rfl (Nat.le_of_ble_eq_true rfl) hl.1 hcs dL_law_592 (fun H locs hM => ?_)
  refine lv_icmp_eq (tgt := 1647) hC.1 hC.2.1 dL_law_595 (by decide) (fun hc7 => ?_) (fun hc7 => ?_)
  · have hf := o_t hc7 hf
    refine lv_iinc (k := 3) (lv' := [(3, .int (x3 + 5)), (0, .ref b), (1, .ref (mvA V 0)), (2, .ref (a' 0))]) hC.1 hC.2.1 dL_law_1647 hl rfl (inc_5 _) (Nat.le_of_ble_eq_true rfl) rfl (fun ls hl => ?_)
    refine lv_goto (tgt := 18) hC.1 hC.2.1 dL_law_1650 (by decide) ?_
    exact hk _ _ _ _ _ _ hf hM (lv_sub hl [1, 2, 3, 0] rfl)
  · have hf := o_f hc7 hf
    exact absurd (Option.some.inj hf) (by decide)
set_option maxHeartbeats 4000000 in
set_option maxRecDepth 100000 in
theorem lc_10 {p : Program} {e : Env} {s : State} {m : MethodId} {below : List Frame} {meth : Method} {c : Code} {l : Launch} {x : Cond} {V : mV} {a' : Nat → Nat} {b L cells slots : Nat} {xs : Nat → Int32} {A : Nat → Prop} {Q : State → Prop} (hC : mw_C p s m #[Value.ref b] c code 4 RL x (mvD V) vwCl (mvY V) ssL (mvK V) (mvW V) A) (hX : va_X b L xs s s.heap) (hbl : b < s.heap.size) (hbA : ¬ A b) (hcs : cells ≤ room_1.cells ∧ slots ≤ room_1.slots) {kf : mM → mM → Int32 → Option Int32} (hk : ∀ (M T : mM) (x3 : Int32) (H : Heap) (locs : List Loc) (ls : Array Slot), kf M T x3 = some 1 → L2 V a' M T A s H locs → lv_has ls 4 [(0, .ref b), (1, .ref (mvA V 0)), (2, .ref (a' 0)), (3, .int x3)] → W p l e room_1 s m #[Value.ref b] below meth c H locs cells slots Q (F0 m 18 ls [])) (M T : mM) (x3 : Int32) (H : Heap) (locs : List Loc) (ls : Array Slot) (hf : fL_10 kf L xs M T x3 = some 1) (hM : L2 V a' M T A s H locs) (hl : lv_has ls 4 [(0, .ref b), (1, .ref (mvA V 0)), (2, .ref (a' 0)), (3, .int x3)]) : W p l e room_1 s m #[Value.ref b] below meth c H locs cells slots Q (F0 m 600 ls []) := by
  unfold fL_10 at hf
  refine lv_aload_n hC.1 hC.2.1 dL_law_600 rfl (lv_at hl 1 rfl) ?_
  obtain ⟨r1, M3, hq2, hf⟩ := o_b2 hf
  refine l2_c1 (As := []) (rest := []) hC hM (mcX11_sum V l M r1 M3 hq2) (mw_kV hC q_724 q_725 q_726 q_107 q_727 ⟨rfl, rfl⟩ kV_X11_sum ⟨Nat.le_of_ble_eq_true rfl, Nat.le_of_ble_eq_true rfl⟩) rfl rfl (Nat.le_of_ble_eq_true rfl) hl.1 hcs dL_law_601 (fun H locs hM => ?_)
  refine lv_aload_n hC.1 hC.2.1 dL_law_604 rfl (lv_at hl 2 rfl) ?_
  obtain ⟨r4, M6, hq5, hf⟩ := o_b2 hf
  refine l2_c2 (As := []) (rest := [.int r1]) hC hM (mcX12_sum (V2 V a') l T r4 M6 hq5) (mw_kV hC q_1456 q_1457 q_1458 q_120 q_1459 ⟨rfl, rfl⟩ kV_X12_sum ⟨Nat.le_of_ble_eq_true rfl, Nat.le_of_ble_eq_true rfl⟩) rfl rfl (Nat.le_of_ble_eq_true rfl) hl.1 hcs dL_law_605 (fun H locs hM => ?_)
  refine lv_icmp_eq (tgt := 1647) hC.1 hC.2.1 dL_law_608 (by decide) (fun hc7 => ?_) (fun hc7 => ?_)
  · have hf := o_t hc7 hf
    refine lv_iinc (k := 3) (lv' := [(3, .int (x3 + 5)), (0, .ref b), (1, .ref (mvA V 0)), (2, .ref (a' 0))]) hC.1 hC.2.1 dL_law_1647 hl rfl (inc_5 _) (Nat.le_of_ble_eq_true rfl) rfl (fun ls hl => ?_)
    refine lv_goto (tgt := 18) hC.1 hC.2.1 dL_law_1650 (by decide) ?_
    exact hk _ _ _ _ _ _ hf hM (lv_sub hl [1, 2, 3, 0] rfl)
  · have hf := o_f hc7 hf
    exact absurd (Option.some.inj hf) (by decide)
set_option maxHeartbeats 4000000 in
set_option maxRecDepth 100000 in
theorem lc_11 {p : Program} {e : Env} {s : State} {m : MethodId} {below : List Frame} {meth : Method} {c : Code} {l : Launch} {x : Cond} {V : mV} {a' : Nat → Nat} {b L cells slots : Nat} {xs : Nat → Int32} {A : Nat → Prop} {Q : State → Prop} (hC : mw_C p s m #[Value.ref b] c code 4 RL x (mvD V) vwCl (mvY V) ssL (mvK V) (mvW V) A) (hX : va_X b L xs s s.heap) (hbl : b < s.heap.size) (hbA : ¬ A b) (hcs : cells ≤ room_1.cells ∧ slots ≤ room_1.slots) {kf : mM → mM → Int32 → Option Int32} (hk : ∀ (M T : mM) (x3 : Int32) (H : Heap) (locs : List Loc) (ls : Array Slot), kf M T x3 = some 1 → L2 V a' M T A s H locs → lv_has ls 4 [(0, .ref b), (1, .ref (mvA V 0)), (2, .ref (a' 0)), (3, .int x3)] → W p l e room_1 s m #[Value.ref b] below meth c H locs cells slots Q (F0 m 18 ls [])) (M T : mM) (x3 : Int32) (H : Heap) (locs : List Loc) (ls : Array Slot) (hf : fL_11 kf L xs M T x3 = some 1) (hM : L2 V a' M T A s H locs) (hl : lv_has ls 4 [(0, .ref b), (1, .ref (mvA V 0)), (2, .ref (a' 0)), (3, .int x3)]) : W p l e room_1 s m #[Value.ref b] below meth c H locs cells slots Q (F0 m 613 ls []) := by
  unfold fL_11 at hf
  refine lv_aload_n hC.1 hC.2.1 dL_law_613 rfl (lv_at hl 1 rfl) ?_
  obtain ⟨r1, M3, hq2, hf⟩ := o_b2 hf
  refine l2_c1 (As := []) (rest := []) hC hM (mcX11_noon V l M r1 M3 hq2) (mw_kV hC q_732 q_733 q_734 q_107 q_735 ⟨rfl, rfl⟩ kV_X11_noon ⟨Nat.le_of_ble_eq_true rfl, Nat.le_of_ble_eq_true rfl⟩) rfl rfl (Nat.le_of_ble_eq_true rfl) hl.1 hcs dL_law_614 (fun H locs hM => ?_)
  refine lv_aload_n hC.1 hC.2.1 dL_law_617 rfl (lv_at hl 2 rfl) ?_
  obtain ⟨r4, M6, hq5, hf⟩ := o_b2 hf
  refine l2_c2 (As := []) (rest := [.int r1]) hC hM (mcX12_noon (V2 V a') l T r4 M6 hq5) (mw_kV hC q_1464 q_1465 q_1466 q_120 q_1467 ⟨rfl, rfl⟩ kV_X12_noon ⟨Nat.le_of_ble_eq_true rfl, Nat.le_of_ble_eq_true rfl⟩) rfl rfl (Nat.le_of_ble_eq_true rfl) hl.1 hcs dL_law_618 (fun H locs hM => ?_)
  refine lv_icmp_eq (tgt := 1647) hC.1 hC.2.1 dL_law_621 (by decide) (fun hc7 => ?_) (fun hc7 => ?_)
  · have hf := o_t hc7 hf
    refine lv_iinc (k := 3) (lv' := [(3, .int (x3 + 5)), (0, .ref b), (1, .ref (mvA V 0)), (2, .ref (a' 0))]) hC.1 hC.2.1 dL_law_1647 hl rfl (inc_5 _) (Nat.le_of_ble_eq_true rfl) rfl (fun ls hl => ?_)
    refine lv_goto (tgt := 18) hC.1 hC.2.1 dL_law_1650 (by decide) ?_
    exact hk _ _ _ _ _ _ hf hM (lv_sub hl [1, 2, 3, 0] rfl)
  · have hf := o_f hc7 hf
    exact absurd (Option.some.inj hf) (by decide)
set_option maxHeartbeats 4000000 in
set_option maxRecDepth 100000 in
theorem lc_12 {p : Program} {e : Env} {s : State} {m : MethodId} {below : List Frame} {meth : Method} {c : Code} {l : Launch} {x : Cond} {V : mV} {a' : Nat → Nat} {b L cells slots : Nat} {xs : Nat → Int32} {A : Nat → Prop} {Q : State → Prop} (hC : mw_C p s m #[Value.ref b] c code 4 RL x (mvD V) vwCl (mvY V) ssL (mvK V) (mvW V) A) (hX : va_X b L xs s s.heap) (hbl : b < s.heap.size) (hbA : ¬ A b) (hcs : cells ≤ room_1.cells ∧ slots ≤ room_1.slots) {kf : mM → mM → Int32 → Option Int32} (hk : ∀ (M T : mM) (x3 : Int32) (H : Heap) (locs : List Loc) (ls : Array Slot), kf M T x3 = some 1 → L2 V a' M T A s H locs → lv_has ls 4 [(0, .ref b), (1, .ref (mvA V 0)), (2, .ref (a' 0)), (3, .int x3)] → W p l e room_1 s m #[Value.ref b] below meth c H locs cells slots Q (F0 m 18 ls [])) (M T : mM) (x3 : Int32) (H : Heap) (locs : List Loc) (ls : Array Slot) (hf : fL_12 kf L xs M T x3 = some 1) (hM : L2 V a' M T A s H locs) (hl : lv_has ls 4 [(0, .ref b), (1, .ref (mvA V 0)), (2, .ref (a' 0)), (3, .int x3)]) : W p l e room_1 s m #[Value.ref b] below meth c H locs cells slots Q (F0 m 626 ls []) := by
  unfold fL_12 at hf
  refine lv_aload_n hC.1 hC.2.1 dL_law_626 rfl (lv_at hl 1 rfl) ?_
  refine lv_aload_n hC.1 hC.2.1 dL_law_627 rfl (lv_at hl 0 rfl) ?_
  refine lv_iload_n hC.1 hC.2.1 dL_law_628 rfl (lv_at hl 3 rfl) ?_
  refine lv_iconst hC.1 hC.2.1 dL_law_629 ci_1 ?_
  refine lv_iadd hC.1 hC.2.1 dL_law_630 ?_
  obtain ⟨hg1, hf⟩ := o_g hf
  refine va_sld hC.1 hC.2.1 hX hbl hbA hM.1.2.2 (ix_in hg1) dL_law_631 ?_
  obtain ⟨r2, M4, hq3, hf⟩ := o_b2 hf
  refine l2_c1 (As := [.int (xs (Int32.toNatClampNeg (x3 + 1)))]) (rest := []) hC hM (mcX11_on V l M (xs (Int32.toNatClampNeg (x3 + 1))) r2 M4 hq3) (mw_kV hC q_750 q_751 q_752 q_107 q_753 ⟨rfl, rfl⟩ kV_X11_on ⟨Nat.le_of_ble_eq_true rfl, Nat.le_of_ble_eq_true rfl⟩) rfl rfl (Nat.le_of_ble_eq_true rfl) hl.1 hcs dL_law_632 (fun H locs hM => ?_)
  refine lv_aload_n hC.1 hC.2.1 dL_law_635 rfl (lv_at hl 2 rfl) ?_
  refine lv_aload_n hC.1 hC.2.1 dL_law_636 rfl (lv_at hl 0 rfl) ?_
  refine lv_iload_n hC.1 hC.2.1 dL_law_637 rfl (lv_at hl 3 rfl) ?_
  refine lv_iconst hC.1 hC.2.1 dL_law_638 ci_1 ?_
  refine lv_iadd hC.1 hC.2.1 dL_law_639 ?_
  obtain ⟨hg5, hf⟩ := o_g hf
  refine va_sld hC.1 hC.2.1 hX hbl hbA hM.1.2.2 (ix_in hg5) dL_law_640 ?_
  obtain ⟨r6, M8, hq7, hf⟩ := o_b2 hf
  refine l2_c2 (As := [.int (xs (Int32.toNatClampNeg (x3 + 1)))]) (rest := [.int r2]) hC hM (mcX12_on (V2 V a') l T (xs (Int32.toNatClampNeg (x3 + 1))) r6 M8 hq7) (mw_kV hC q_1480 q_1481 q_1482 q_120 q_1483 ⟨rfl, rfl⟩ kV_X12_on ⟨Nat.le_of_ble_eq_true rfl, Nat.le_of_ble_eq_true rfl⟩) rfl rfl (Nat.le_of_ble_eq_true rfl) hl.1 hcs dL_law_641 (fun H locs hM => ?_)
  refine lv_icmp_eq (tgt := 1647) hC.1 hC.2.1 dL_law_644 (by decide) (fun hc9 => ?_) (fun hc9 => ?_)
  · have hf := o_t hc9 hf
    refine lv_iinc (k := 3) (lv' := [(3, .int (x3 + 5)), (0, .ref b), (1, .ref (mvA V 0)), (2, .ref (a' 0))]) hC.1 hC.2.1 dL_law_1647 hl rfl (inc_5 _) (Nat.le_of_ble_eq_true rfl) rfl (fun ls hl => ?_)
    refine lv_goto (tgt := 18) hC.1 hC.2.1 dL_law_1650 (by decide) ?_
    exact hk _ _ _ _ _ _ hf hM (lv_sub hl [1, 2, 3, 0] rfl)
  · have hf := o_f hc9 hf
    exact absurd (Option.some.inj hf) (by decide)
set_option maxHeartbeats 4000000 in
set_option maxRecDepth 100000 in
theorem lc_13 {p : Program} {e : Env} {s : State} {m : MethodId} {below : List Frame} {meth : Method} {c : Code} {l : Launch} {x : Cond} {V : mV} {a' : Nat → Nat} {b L cells slots : Nat} {xs : Nat → Int32} {A : Nat → Prop} {Q : State → Prop} (hC : mw_C p s m #[Value.ref b] c code 4 RL x (mvD V) vwCl (mvY V) ssL (mvK V) (mvW V) A) (hX : va_X b L xs s s.heap) (hbl : b < s.heap.size) (hbA : ¬ A b) (hcs : cells ≤ room_1.cells ∧ slots ≤ room_1.slots) {kf : mM → mM → Int32 → Option Int32} (hk : ∀ (M T : mM) (x3 : Int32) (H : Heap) (locs : List Loc) (ls : Array Slot), kf M T x3 = some 1 → L2 V a' M T A s H locs → lv_has ls 4 [(0, .ref b), (1, .ref (mvA V 0)), (2, .ref (a' 0)), (3, .int x3)] → W p l e room_1 s m #[Value.ref b] below meth c H locs cells slots Q (F0 m 18 ls [])) (M T : mM) (x3 : Int32) (H : Heap) (locs : List Loc) (ls : Array Slot) (hf : fL_13 kf L xs M T x3 = some 1) (hM : L2 V a' M T A s H locs) (hl : lv_has ls 4 [(0, .ref b), (1, .ref (mvA V 0)), (2, .ref (a' 0)), (3, .int x3)]) : W p l e room_1 s m #[Value.ref b] below meth c H locs cells slots Q (F0 m 649 ls []) := by
  unfold fL_13 at hf
  refine lv_aload_n hC.1 hC.2.1 dL_law_649 rfl (lv_at hl 1 rfl) ?_
  refine lv_aload_n hC.1 hC.2.1 dL_law_650 rfl (lv_at hl 0 rfl) ?_
  refine lv_iload_n hC.1 hC.2.1 dL_law_651 rfl (lv_at hl 3 rfl) ?_
  refine lv_iconst hC.1 hC.2.1 dL_law_652 ci_1 ?_
  refine lv_iadd hC.1 hC.2.1 dL_law_653 ?_
  obtain ⟨hg1, hf⟩ := o_g hf
  refine va_sld hC.1 hC.2.1 hX hbl hbA hM.1.2.2 (ix_in hg1) dL_law_654 ?_
  obtain ⟨r2, M4, hq3, hf⟩ := o_b2 hf
  refine l2_c1 (As := [.int (xs (Int32.toNatClampNeg (x3 + 1)))]) (rest := []) hC hM (mcX11_when V l M (xs (Int32.toNatClampNeg (x3 + 1))) r2 M4 hq3) (mw_kV hC q_763 q_764 q_765 q_107 q_766 ⟨rfl, rfl⟩ kV_X11_when ⟨Nat.le_of_ble_eq_true rfl, Nat.le_of_ble_eq_true rfl⟩) rfl rfl (Nat.le_of_ble_eq_true rfl) hl.1 hcs dL_law_655 (fun H locs hM => ?_)
  refine lv_aload_n hC.1 hC.2.1 dL_law_658 rfl (lv_at hl 2 rfl) ?_
  refine lv_aload_n hC.1 hC.2.1 dL_law_659 rfl (lv_at hl 0 rfl) ?_
  refine lv_iload_n hC.1 hC.2.1 dL_law_660 rfl (lv_at hl 3 rfl) ?_
  refine lv_iconst hC.1 hC.2.1 dL_law_661 ci_1 ?_
  refine lv_iadd hC.1 hC.2.1 dL_law_662 ?_
  obtain ⟨hg5, hf⟩ := o_g hf
  refine va_sld hC.1 hC.2.1 hX hbl hbA hM.1.2.2 (ix_in hg5) dL_law_663 ?_
  obtain ⟨r6, M8, hq7, hf⟩ := o_b2 hf
  refine l2_c2 (As := [.int (xs (Int32.toNatClampNeg (x3 + 1)))]) (rest := [.int r2]) hC hM (mcX12_when (V2 V a') l T (xs (Int32.toNatClampNeg (x3 + 1))) r6 M8 hq7) (mw_kV hC q_1493 q_1494 q_1495 q_120 q_1496 ⟨rfl, rfl⟩ kV_X12_when ⟨Nat.le_of_ble_eq_true rfl, Nat.le_of_ble_eq_true rfl⟩) rfl rfl (Nat.le_of_ble_eq_true rfl) hl.1 hcs dL_law_664 (fun H locs hM => ?_)
  refine lv_icmp_eq (tgt := 1647) hC.1 hC.2.1 dL_law_667 (by decide) (fun hc9 => ?_) (fun hc9 => ?_)
  · have hf := o_t hc9 hf
    refine lv_iinc (k := 3) (lv' := [(3, .int (x3 + 5)), (0, .ref b), (1, .ref (mvA V 0)), (2, .ref (a' 0))]) hC.1 hC.2.1 dL_law_1647 hl rfl (inc_5 _) (Nat.le_of_ble_eq_true rfl) rfl (fun ls hl => ?_)
    refine lv_goto (tgt := 18) hC.1 hC.2.1 dL_law_1650 (by decide) ?_
    exact hk _ _ _ _ _ _ hf hM (lv_sub hl [1, 2, 3, 0] rfl)
  · have hf := o_f hc9 hf
    exact absurd (Option.some.inj hf) (by decide)
set_option maxHeartbeats 4000000 in
set_option maxRecDepth 100000 in
theorem lc_14 {p : Program} {e : Env} {s : State} {m : MethodId} {below : List Frame} {meth : Method} {c : Code} {l : Launch} {x : Cond} {V : mV} {a' : Nat → Nat} {b L cells slots : Nat} {xs : Nat → Int32} {A : Nat → Prop} {Q : State → Prop} (hC : mw_C p s m #[Value.ref b] c code 4 RL x (mvD V) vwCl (mvY V) ssL (mvK V) (mvW V) A) (hX : va_X b L xs s s.heap) (hbl : b < s.heap.size) (hbA : ¬ A b) (hcs : cells ≤ room_1.cells ∧ slots ≤ room_1.slots) {kf : mM → mM → Int32 → Option Int32} (hk : ∀ (M T : mM) (x3 : Int32) (H : Heap) (locs : List Loc) (ls : Array Slot), kf M T x3 = some 1 → L2 V a' M T A s H locs → lv_has ls 4 [(0, .ref b), (1, .ref (mvA V 0)), (2, .ref (a' 0)), (3, .int x3)] → W p l e room_1 s m #[Value.ref b] below meth c H locs cells slots Q (F0 m 18 ls [])) (M T : mM) (x3 : Int32) (H : Heap) (locs : List Loc) (ls : Array Slot) (hf : fL_14 kf L xs M T x3 = some 1) (hM : L2 V a' M T A s H locs) (hl : lv_has ls 4 [(0, .ref b), (1, .ref (mvA V 0)), (2, .ref (a' 0)), (3, .int x3)]) : W p l e room_1 s m #[Value.ref b] below meth c H locs cells slots Q (F0 m 672 ls []) := by
  unfold fL_14 at hf
  refine lv_aload_n hC.1 hC.2.1 dL_law_672 rfl (lv_at hl 1 rfl) ?_
  refine lv_aload_n hC.1 hC.2.1 dL_law_673 rfl (lv_at hl 0 rfl) ?_
  refine lv_iload_n hC.1 hC.2.1 dL_law_674 rfl (lv_at hl 3 rfl) ?_
  refine lv_iconst hC.1 hC.2.1 dL_law_675 ci_1 ?_
  refine lv_iadd hC.1 hC.2.1 dL_law_676 ?_
  obtain ⟨hg1, hf⟩ := o_g hf
  refine va_sld hC.1 hC.2.1 hX hbl hbA hM.1.2.2 (ix_in hg1) dL_law_677 ?_
  obtain ⟨r2, M4, hq3, hf⟩ := o_b2 hf
  refine l2_c1 (As := [.int (xs (Int32.toNatClampNeg (x3 + 1)))]) (rest := []) hC hM (mcX11_cycle V l M (xs (Int32.toNatClampNeg (x3 + 1))) r2 M4 hq3) (mw_kV hC q_767 q_768 q_769 q_107 q_770 ⟨rfl, rfl⟩ kV_X11_cycle ⟨Nat.le_of_ble_eq_true rfl, Nat.le_of_ble_eq_true rfl⟩) rfl rfl (Nat.le_of_ble_eq_true rfl) hl.1 hcs dL_law_678 (fun H locs hM => ?_)
  refine lv_aload_n hC.1 hC.2.1 dL_law_681 rfl (lv_at hl 2 rfl) ?_
  refine lv_aload_n hC.1 hC.2.1 dL_law_682 rfl (lv_at hl 0 rfl) ?_
  refine lv_iload_n hC.1 hC.2.1 dL_law_683 rfl (lv_at hl 3 rfl) ?_
  refine lv_iconst hC.1 hC.2.1 dL_law_684 ci_1 ?_
  refine lv_iadd hC.1 hC.2.1 dL_law_685 ?_
  obtain ⟨hg5, hf⟩ := o_g hf
  refine va_sld hC.1 hC.2.1 hX hbl hbA hM.1.2.2 (ix_in hg5) dL_law_686 ?_
  obtain ⟨r6, M8, hq7, hf⟩ := o_b2 hf
  refine l2_c2 (As := [.int (xs (Int32.toNatClampNeg (x3 + 1)))]) (rest := [.int r2]) hC hM (mcX12_cycle (V2 V a') l T (xs (Int32.toNatClampNeg (x3 + 1))) r6 M8 hq7) (mw_kV hC q_1497 q_1498 q_1499 q_120 q_1500 ⟨rfl, rfl⟩ kV_X12_cycle ⟨Nat.le_of_ble_eq_true rfl, Nat.le_of_ble_eq_true rfl⟩) rfl rfl (Nat.le_of_ble_eq_true rfl) hl.1 hcs dL_law_687 (fun H locs hM => ?_)
  refine lv_icmp_eq (tgt := 1647) hC.1 hC.2.1 dL_law_690 (by decide) (fun hc9 => ?_) (fun hc9 => ?_)
  · have hf := o_t hc9 hf
    refine lv_iinc (k := 3) (lv' := [(3, .int (x3 + 5)), (0, .ref b), (1, .ref (mvA V 0)), (2, .ref (a' 0))]) hC.1 hC.2.1 dL_law_1647 hl rfl (inc_5 _) (Nat.le_of_ble_eq_true rfl) rfl (fun ls hl => ?_)
    refine lv_goto (tgt := 18) hC.1 hC.2.1 dL_law_1650 (by decide) ?_
    exact hk _ _ _ _ _ _ hf hM (lv_sub hl [1, 2, 3, 0] rfl)
  · have hf := o_f hc9 hf
    exact absurd (Option.some.inj hf) (by decide)
set_option maxHeartbeats 4000000 in
set_option maxRecDepth 100000 in
theorem lc_15 {p : Program} {e : Env} {s : State} {m : MethodId} {below : List Frame} {meth : Method} {c : Code} {l : Launch} {x : Cond} {V : mV} {a' : Nat → Nat} {b L cells slots : Nat} {xs : Nat → Int32} {A : Nat → Prop} {Q : State → Prop} (hC : mw_C p s m #[Value.ref b] c code 4 RL x (mvD V) vwCl (mvY V) ssL (mvK V) (mvW V) A) (hX : va_X b L xs s s.heap) (hbl : b < s.heap.size) (hbA : ¬ A b) (hcs : cells ≤ room_1.cells ∧ slots ≤ room_1.slots) {kf : mM → mM → Int32 → Option Int32} (hk : ∀ (M T : mM) (x3 : Int32) (H : Heap) (locs : List Loc) (ls : Array Slot), kf M T x3 = some 1 → L2 V a' M T A s H locs → lv_has ls 4 [(0, .ref b), (1, .ref (mvA V 0)), (2, .ref (a' 0)), (3, .int x3)] → W p l e room_1 s m #[Value.ref b] below meth c H locs cells slots Q (F0 m 18 ls [])) (M T : mM) (x3 : Int32) (H : Heap) (locs : List Loc) (ls : Array Slot) (hf : fL_15 kf L xs M T x3 = some 1) (hM : L2 V a' M T A s H locs) (hl : lv_has ls 4 [(0, .ref b), (1, .ref (mvA V 0)), (2, .ref (a' 0)), (3, .int x3)]) : W p l e room_1 s m #[Value.ref b] below meth c H locs cells slots Q (F0 m 695 ls []) := by
  unfold fL_15 at hf
  refine lv_aload_n hC.1 hC.2.1 dL_law_695 rfl (lv_at hl 1 rfl) ?_
  refine lv_aload_n hC.1 hC.2.1 dL_law_696 rfl (lv_at hl 0 rfl) ?_
  refine lv_iload_n hC.1 hC.2.1 dL_law_697 rfl (lv_at hl 3 rfl) ?_
  refine lv_iconst hC.1 hC.2.1 dL_law_698 ci_1 ?_
  refine lv_iadd hC.1 hC.2.1 dL_law_699 ?_
  obtain ⟨hg1, hf⟩ := o_g hf
  refine va_sld hC.1 hC.2.1 hX hbl hbA hM.1.2.2 (ix_in hg1) dL_law_700 ?_
  obtain ⟨r2, M4, hq3, hf⟩ := o_b2 hf
  refine l2_c1 (As := [.int (xs (Int32.toNatClampNeg (x3 + 1)))]) (rest := []) hC hM (mcX11_buys V l M (xs (Int32.toNatClampNeg (x3 + 1))) r2 M4 hq3) (mw_kV hC q_775 q_776 q_777 q_107 q_778 ⟨rfl, rfl⟩ kV_X11_buys ⟨Nat.le_of_ble_eq_true rfl, Nat.le_of_ble_eq_true rfl⟩) rfl rfl (Nat.le_of_ble_eq_true rfl) hl.1 hcs dL_law_701 (fun H locs hM => ?_)
  refine lv_aload_n hC.1 hC.2.1 dL_law_704 rfl (lv_at hl 2 rfl) ?_
  refine lv_aload_n hC.1 hC.2.1 dL_law_705 rfl (lv_at hl 0 rfl) ?_
  refine lv_iload_n hC.1 hC.2.1 dL_law_706 rfl (lv_at hl 3 rfl) ?_
  refine lv_iconst hC.1 hC.2.1 dL_law_707 ci_1 ?_
  refine lv_iadd hC.1 hC.2.1 dL_law_708 ?_
  obtain ⟨hg5, hf⟩ := o_g hf
  refine va_sld hC.1 hC.2.1 hX hbl hbA hM.1.2.2 (ix_in hg5) dL_law_709 ?_
  obtain ⟨r6, M8, hq7, hf⟩ := o_b2 hf
  refine l2_c2 (As := [.int (xs (Int32.toNatClampNeg (x3 + 1)))]) (rest := [.int r2]) hC hM (mcX12_buys (V2 V a') l T (xs (Int32.toNatClampNeg (x3 + 1))) r6 M8 hq7) (mw_kV hC q_1501 q_1502 q_1503 q_120 q_1504 ⟨rfl, rfl⟩ kV_X12_buys ⟨Nat.le_of_ble_eq_true rfl, Nat.le_of_ble_eq_true rfl⟩) rfl rfl (Nat.le_of_ble_eq_true rfl) hl.1 hcs dL_law_710 (fun H locs hM => ?_)
  refine lv_icmp_eq (tgt := 1647) hC.1 hC.2.1 dL_law_713 (by decide) (fun hc9 => ?_) (fun hc9 => ?_)
  · have hf := o_t hc9 hf
    refine lv_iinc (k := 3) (lv' := [(3, .int (x3 + 5)), (0, .ref b), (1, .ref (mvA V 0)), (2, .ref (a' 0))]) hC.1 hC.2.1 dL_law_1647 hl rfl (inc_5 _) (Nat.le_of_ble_eq_true rfl) rfl (fun ls hl => ?_)
    refine lv_goto (tgt := 18) hC.1 hC.2.1 dL_law_1650 (by decide) ?_
    exact hk _ _ _ _ _ _ hf hM (lv_sub hl [1, 2, 3, 0] rfl)
  · have hf := o_f hc9 hf
    exact absurd (Option.some.inj hf) (by decide)
set_option maxHeartbeats 4000000 in
set_option maxRecDepth 100000 in
theorem lc_16 {p : Program} {e : Env} {s : State} {m : MethodId} {below : List Frame} {meth : Method} {c : Code} {l : Launch} {x : Cond} {V : mV} {a' : Nat → Nat} {b L cells slots : Nat} {xs : Nat → Int32} {A : Nat → Prop} {Q : State → Prop} (hC : mw_C p s m #[Value.ref b] c code 4 RL x (mvD V) vwCl (mvY V) ssL (mvK V) (mvW V) A) (hX : va_X b L xs s s.heap) (hbl : b < s.heap.size) (hbA : ¬ A b) (hcs : cells ≤ room_1.cells ∧ slots ≤ room_1.slots) {kf : mM → mM → Int32 → Option Int32} (hk : ∀ (M T : mM) (x3 : Int32) (H : Heap) (locs : List Loc) (ls : Array Slot), kf M T x3 = some 1 → L2 V a' M T A s H locs → lv_has ls 4 [(0, .ref b), (1, .ref (mvA V 0)), (2, .ref (a' 0)), (3, .int x3)] → W p l e room_1 s m #[Value.ref b] below meth c H locs cells slots Q (F0 m 18 ls [])) (M T : mM) (x3 : Int32) (H : Heap) (locs : List Loc) (ls : Array Slot) (hf : fL_16 kf L xs M T x3 = some 1) (hM : L2 V a' M T A s H locs) (hl : lv_has ls 4 [(0, .ref b), (1, .ref (mvA V 0)), (2, .ref (a' 0)), (3, .int x3)]) : W p l e room_1 s m #[Value.ref b] below meth c H locs cells slots Q (F0 m 718 ls []) := by
  unfold fL_16 at hf
  refine lv_aload_n hC.1 hC.2.1 dL_law_718 rfl (lv_at hl 1 rfl) ?_
  refine lv_aload_n hC.1 hC.2.1 dL_law_719 rfl (lv_at hl 0 rfl) ?_
  refine lv_iload_n hC.1 hC.2.1 dL_law_720 rfl (lv_at hl 3 rfl) ?_
  refine lv_iconst hC.1 hC.2.1 dL_law_721 ci_1 ?_
  refine lv_iadd hC.1 hC.2.1 dL_law_722 ?_
  obtain ⟨hg1, hf⟩ := o_g hf
  refine va_sld hC.1 hC.2.1 hX hbl hbA hM.1.2.2 (ix_in hg1) dL_law_723 ?_
  obtain ⟨r2, M4, hq3, hf⟩ := o_b2 hf
  refine l2_c1 (As := [.int (xs (Int32.toNatClampNeg (x3 + 1)))]) (rest := []) hC hM (mcX11_whom V l M (xs (Int32.toNatClampNeg (x3 + 1))) r2 M4 hq3) (mw_kV hC q_794 q_795 q_796 q_107 q_797 ⟨rfl, rfl⟩ kV_X11_whom ⟨Nat.le_of_ble_eq_true rfl, Nat.le_of_ble_eq_true rfl⟩) rfl rfl (Nat.le_of_ble_eq_true rfl) hl.1 hcs dL_law_724 (fun H locs hM => ?_)
  refine lv_aload_n hC.1 hC.2.1 dL_law_727 rfl (lv_at hl 2 rfl) ?_
  refine lv_aload_n hC.1 hC.2.1 dL_law_728 rfl (lv_at hl 0 rfl) ?_
  refine lv_iload_n hC.1 hC.2.1 dL_law_729 rfl (lv_at hl 3 rfl) ?_
  refine lv_iconst hC.1 hC.2.1 dL_law_730 ci_1 ?_
  refine lv_iadd hC.1 hC.2.1 dL_law_731 ?_
  obtain ⟨hg5, hf⟩ := o_g hf
  refine va_sld hC.1 hC.2.1 hX hbl hbA hM.1.2.2 (ix_in hg5) dL_law_732 ?_
  obtain ⟨r6, M8, hq7, hf⟩ := o_b2 hf
  refine l2_c2 (As := [.int (xs (Int32.toNatClampNeg (x3 + 1)))]) (rest := [.int r2]) hC hM (mcX12_whom (V2 V a') l T (xs (Int32.toNatClampNeg (x3 + 1))) r6 M8 hq7) (mw_kV hC q_1521 q_1522 q_1523 q_120 q_1524 ⟨rfl, rfl⟩ kV_X12_whom ⟨Nat.le_of_ble_eq_true rfl, Nat.le_of_ble_eq_true rfl⟩) rfl rfl (Nat.le_of_ble_eq_true rfl) hl.1 hcs dL_law_733 (fun H locs hM => ?_)
  refine lv_icmp_eq (tgt := 1647) hC.1 hC.2.1 dL_law_736 (by decide) (fun hc9 => ?_) (fun hc9 => ?_)
  · have hf := o_t hc9 hf
    refine lv_iinc (k := 3) (lv' := [(3, .int (x3 + 5)), (0, .ref b), (1, .ref (mvA V 0)), (2, .ref (a' 0))]) hC.1 hC.2.1 dL_law_1647 hl rfl (inc_5 _) (Nat.le_of_ble_eq_true rfl) rfl (fun ls hl => ?_)
    refine lv_goto (tgt := 18) hC.1 hC.2.1 dL_law_1650 (by decide) ?_
    exact hk _ _ _ _ _ _ hf hM (lv_sub hl [1, 2, 3, 0] rfl)
  · have hf := o_f hc9 hf
    exact absurd (Option.some.inj hf) (by decide)
set_option maxHeartbeats 4000000 in
set_option maxRecDepth 100000 in
theorem lc_17 {p : Program} {e : Env} {s : State} {m : MethodId} {below : List Frame} {meth : Method} {c : Code} {l : Launch} {x : Cond} {V : mV} {a' : Nat → Nat} {b L cells slots : Nat} {xs : Nat → Int32} {A : Nat → Prop} {Q : State → Prop} (hC : mw_C p s m #[Value.ref b] c code 4 RL x (mvD V) vwCl (mvY V) ssL (mvK V) (mvW V) A) (hX : va_X b L xs s s.heap) (hbl : b < s.heap.size) (hbA : ¬ A b) (hcs : cells ≤ room_1.cells ∧ slots ≤ room_1.slots) {kf : mM → mM → Int32 → Option Int32} (hk : ∀ (M T : mM) (x3 : Int32) (H : Heap) (locs : List Loc) (ls : Array Slot), kf M T x3 = some 1 → L2 V a' M T A s H locs → lv_has ls 4 [(0, .ref b), (1, .ref (mvA V 0)), (2, .ref (a' 0)), (3, .int x3)] → W p l e room_1 s m #[Value.ref b] below meth c H locs cells slots Q (F0 m 18 ls [])) (M T : mM) (x3 : Int32) (H : Heap) (locs : List Loc) (ls : Array Slot) (hf : fL_17 kf L xs M T x3 = some 1) (hM : L2 V a' M T A s H locs) (hl : lv_has ls 4 [(0, .ref b), (1, .ref (mvA V 0)), (2, .ref (a' 0)), (3, .int x3)]) : W p l e room_1 s m #[Value.ref b] below meth c H locs cells slots Q (F0 m 741 ls []) := by
  unfold fL_17 at hf
  refine lv_aload_n hC.1 hC.2.1 dL_law_741 rfl (lv_at hl 1 rfl) ?_
  obtain ⟨r1, M3, hq2, hf⟩ := o_b2 hf
  refine l2_c1 (As := []) (rest := []) hC hM (mcX11_liars V l M r1 M3 hq2) (mw_kV hC q_798 q_799 q_800 q_107 q_801 ⟨rfl, rfl⟩ kV_X11_liars ⟨Nat.le_of_ble_eq_true rfl, Nat.le_of_ble_eq_true rfl⟩) rfl rfl (Nat.le_of_ble_eq_true rfl) hl.1 hcs dL_law_742 (fun H locs hM => ?_)
  refine lv_aload_n hC.1 hC.2.1 dL_law_745 rfl (lv_at hl 2 rfl) ?_
  obtain ⟨r4, M6, hq5, hf⟩ := o_b2 hf
  refine l2_c2 (As := []) (rest := [.int r1]) hC hM (mcX12_liars (V2 V a') l T r4 M6 hq5) (mw_kV hC q_1525 q_1526 q_1527 q_120 q_1528 ⟨rfl, rfl⟩ kV_X12_liars ⟨Nat.le_of_ble_eq_true rfl, Nat.le_of_ble_eq_true rfl⟩) rfl rfl (Nat.le_of_ble_eq_true rfl) hl.1 hcs dL_law_746 (fun H locs hM => ?_)
  refine lv_icmp_eq (tgt := 1647) hC.1 hC.2.1 dL_law_749 (by decide) (fun hc7 => ?_) (fun hc7 => ?_)
  · have hf := o_t hc7 hf
    refine lv_iinc (k := 3) (lv' := [(3, .int (x3 + 5)), (0, .ref b), (1, .ref (mvA V 0)), (2, .ref (a' 0))]) hC.1 hC.2.1 dL_law_1647 hl rfl (inc_5 _) (Nat.le_of_ble_eq_true rfl) rfl (fun ls hl => ?_)
    refine lv_goto (tgt := 18) hC.1 hC.2.1 dL_law_1650 (by decide) ?_
    exact hk _ _ _ _ _ _ hf hM (lv_sub hl [1, 2, 3, 0] rfl)
  · have hf := o_f hc7 hf
    exact absurd (Option.some.inj hf) (by decide)
set_option maxHeartbeats 4000000 in
set_option maxRecDepth 100000 in
theorem lc_18 {p : Program} {e : Env} {s : State} {m : MethodId} {below : List Frame} {meth : Method} {c : Code} {l : Launch} {x : Cond} {V : mV} {a' : Nat → Nat} {b L cells slots : Nat} {xs : Nat → Int32} {A : Nat → Prop} {Q : State → Prop} (hC : mw_C p s m #[Value.ref b] c code 4 RL x (mvD V) vwCl (mvY V) ssL (mvK V) (mvW V) A) (hX : va_X b L xs s s.heap) (hbl : b < s.heap.size) (hbA : ¬ A b) (hcs : cells ≤ room_1.cells ∧ slots ≤ room_1.slots) {kf : mM → mM → Int32 → Option Int32} (hk : ∀ (M T : mM) (x3 : Int32) (H : Heap) (locs : List Loc) (ls : Array Slot), kf M T x3 = some 1 → L2 V a' M T A s H locs → lv_has ls 4 [(0, .ref b), (1, .ref (mvA V 0)), (2, .ref (a' 0)), (3, .int x3)] → W p l e room_1 s m #[Value.ref b] below meth c H locs cells slots Q (F0 m 18 ls [])) (M T : mM) (x3 : Int32) (H : Heap) (locs : List Loc) (ls : Array Slot) (hf : fL_18 kf L xs M T x3 = some 1) (hM : L2 V a' M T A s H locs) (hl : lv_has ls 4 [(0, .ref b), (1, .ref (mvA V 0)), (2, .ref (a' 0)), (3, .int x3)]) : W p l e room_1 s m #[Value.ref b] below meth c H locs cells slots Q (F0 m 754 ls []) := by
  unfold fL_18 at hf
  refine lv_aload_n hC.1 hC.2.1 dL_law_754 rfl (lv_at hl 1 rfl) ?_
  refine lv_aload_n hC.1 hC.2.1 dL_law_755 rfl (lv_at hl 0 rfl) ?_
  refine lv_iload_n hC.1 hC.2.1 dL_law_756 rfl (lv_at hl 3 rfl) ?_
  refine lv_iconst hC.1 hC.2.1 dL_law_757 ci_1 ?_
  refine lv_iadd hC.1 hC.2.1 dL_law_758 ?_
  obtain ⟨hg1, hf⟩ := o_g hf
  refine va_sld hC.1 hC.2.1 hX hbl hbA hM.1.2.2 (ix_in hg1) dL_law_759 ?_
  obtain ⟨r2, M4, hq3, hf⟩ := o_b2 hf
  refine l2_c1 (As := [.int (xs (Int32.toNatClampNeg (x3 + 1)))]) (rest := []) hC hM (mcX11_power V l M (xs (Int32.toNatClampNeg (x3 + 1))) r2 M4 hq3) (mw_kV hC q_816 q_817 q_818 q_107 q_819 ⟨rfl, rfl⟩ kV_X11_power ⟨Nat.le_of_ble_eq_true rfl, Nat.le_of_ble_eq_true rfl⟩) rfl rfl (Nat.le_of_ble_eq_true rfl) hl.1 hcs dL_law_760 (fun H locs hM => ?_)
  refine lv_aload_n hC.1 hC.2.1 dL_law_763 rfl (lv_at hl 2 rfl) ?_
  refine lv_aload_n hC.1 hC.2.1 dL_law_764 rfl (lv_at hl 0 rfl) ?_
  refine lv_iload_n hC.1 hC.2.1 dL_law_765 rfl (lv_at hl 3 rfl) ?_
  refine lv_iconst hC.1 hC.2.1 dL_law_766 ci_1 ?_
  refine lv_iadd hC.1 hC.2.1 dL_law_767 ?_
  obtain ⟨hg5, hf⟩ := o_g hf
  refine va_sld hC.1 hC.2.1 hX hbl hbA hM.1.2.2 (ix_in hg5) dL_law_768 ?_
  obtain ⟨r6, M8, hq7, hf⟩ := o_b2 hf
  refine l2_c2 (As := [.int (xs (Int32.toNatClampNeg (x3 + 1)))]) (rest := [.int r2]) hC hM (mcX12_power (V2 V a') l T (xs (Int32.toNatClampNeg (x3 + 1))) r6 M8 hq7) (mw_kV hC q_1533 q_1534 q_1535 q_120 q_1536 ⟨rfl, rfl⟩ kV_X12_power ⟨Nat.le_of_ble_eq_true rfl, Nat.le_of_ble_eq_true rfl⟩) rfl rfl (Nat.le_of_ble_eq_true rfl) hl.1 hcs dL_law_769 (fun H locs hM => ?_)
  refine lv_icmp_eq (tgt := 1647) hC.1 hC.2.1 dL_law_772 (by decide) (fun hc9 => ?_) (fun hc9 => ?_)
  · have hf := o_t hc9 hf
    refine lv_iinc (k := 3) (lv' := [(3, .int (x3 + 5)), (0, .ref b), (1, .ref (mvA V 0)), (2, .ref (a' 0))]) hC.1 hC.2.1 dL_law_1647 hl rfl (inc_5 _) (Nat.le_of_ble_eq_true rfl) rfl (fun ls hl => ?_)
    refine lv_goto (tgt := 18) hC.1 hC.2.1 dL_law_1650 (by decide) ?_
    exact hk _ _ _ _ _ _ hf hM (lv_sub hl [1, 2, 3, 0] rfl)
  · have hf := o_f hc9 hf
    exact absurd (Option.some.inj hf) (by decide)
set_option maxHeartbeats 4000000 in
set_option maxRecDepth 100000 in
theorem lc_19 {p : Program} {e : Env} {s : State} {m : MethodId} {below : List Frame} {meth : Method} {c : Code} {l : Launch} {x : Cond} {V : mV} {a' : Nat → Nat} {b L cells slots : Nat} {xs : Nat → Int32} {A : Nat → Prop} {Q : State → Prop} (hC : mw_C p s m #[Value.ref b] c code 4 RL x (mvD V) vwCl (mvY V) ssL (mvK V) (mvW V) A) (hX : va_X b L xs s s.heap) (hbl : b < s.heap.size) (hbA : ¬ A b) (hcs : cells ≤ room_1.cells ∧ slots ≤ room_1.slots) {kf : mM → mM → Int32 → Option Int32} (hk : ∀ (M T : mM) (x3 : Int32) (H : Heap) (locs : List Loc) (ls : Array Slot), kf M T x3 = some 1 → L2 V a' M T A s H locs → lv_has ls 4 [(0, .ref b), (1, .ref (mvA V 0)), (2, .ref (a' 0)), (3, .int x3)] → W p l e room_1 s m #[Value.ref b] below meth c H locs cells slots Q (F0 m 18 ls [])) (M T : mM) (x3 : Int32) (H : Heap) (locs : List Loc) (ls : Array Slot) (hf : fL_19 kf L xs M T x3 = some 1) (hM : L2 V a' M T A s H locs) (hl : lv_has ls 4 [(0, .ref b), (1, .ref (mvA V 0)), (2, .ref (a' 0)), (3, .int x3)]) : W p l e room_1 s m #[Value.ref b] below meth c H locs cells slots Q (F0 m 777 ls []) := by
  unfold fL_19 at hf
  refine lv_aload_n hC.1 hC.2.1 dL_law_777 rfl (lv_at hl 1 rfl) ?_
  refine lv_aload_n hC.1 hC.2.1 dL_law_778 rfl (lv_at hl 0 rfl) ?_
  refine lv_iload_n hC.1 hC.2.1 dL_law_779 rfl (lv_at hl 3 rfl) ?_
  refine lv_iconst hC.1 hC.2.1 dL_law_780 ci_1 ?_
  refine lv_iadd hC.1 hC.2.1 dL_law_781 ?_
  obtain ⟨hg1, hf⟩ := o_g hf
  refine va_sld hC.1 hC.2.1 hX hbl hbA hM.1.2.2 (ix_in hg1) dL_law_782 ?_
  obtain ⟨r2, M4, hq3, hf⟩ := o_b2 hf
  refine l2_c1 (As := [.int (xs (Int32.toNatClampNeg (x3 + 1)))]) (rest := []) hC hM (mcX11_fewest V l M (xs (Int32.toNatClampNeg (x3 + 1))) r2 M4 hq3) (mw_kV hC q_828 q_829 q_830 q_107 q_831 ⟨rfl, rfl⟩ kV_X11_fewest ⟨Nat.le_of_ble_eq_true rfl, Nat.le_of_ble_eq_true rfl⟩) rfl rfl (Nat.le_of_ble_eq_true rfl) hl.1 hcs dL_law_783 (fun H locs hM => ?_)
  refine lv_aload_n hC.1 hC.2.1 dL_law_786 rfl (lv_at hl 2 rfl) ?_
  refine lv_aload_n hC.1 hC.2.1 dL_law_787 rfl (lv_at hl 0 rfl) ?_
  refine lv_iload_n hC.1 hC.2.1 dL_law_788 rfl (lv_at hl 3 rfl) ?_
  refine lv_iconst hC.1 hC.2.1 dL_law_789 ci_1 ?_
  refine lv_iadd hC.1 hC.2.1 dL_law_790 ?_
  obtain ⟨hg5, hf⟩ := o_g hf
  refine va_sld hC.1 hC.2.1 hX hbl hbA hM.1.2.2 (ix_in hg5) dL_law_791 ?_
  obtain ⟨r6, M8, hq7, hf⟩ := o_b2 hf
  refine l2_c2 (As := [.int (xs (Int32.toNatClampNeg (x3 + 1)))]) (rest := [.int r2]) hC hM (mcX12_fewest (V2 V a') l T (xs (Int32.toNatClampNeg (x3 + 1))) r6 M8 hq7) (mw_kV hC q_1537 q_1538 q_1539 q_120 q_1540 ⟨rfl, rfl⟩ kV_X12_fewest ⟨Nat.le_of_ble_eq_true rfl, Nat.le_of_ble_eq_true rfl⟩) rfl rfl (Nat.le_of_ble_eq_true rfl) hl.1 hcs dL_law_792 (fun H locs hM => ?_)
  refine lv_icmp_eq (tgt := 1647) hC.1 hC.2.1 dL_law_795 (by decide) (fun hc9 => ?_) (fun hc9 => ?_)
  · have hf := o_t hc9 hf
    refine lv_iinc (k := 3) (lv' := [(3, .int (x3 + 5)), (0, .ref b), (1, .ref (mvA V 0)), (2, .ref (a' 0))]) hC.1 hC.2.1 dL_law_1647 hl rfl (inc_5 _) (Nat.le_of_ble_eq_true rfl) rfl (fun ls hl => ?_)
    refine lv_goto (tgt := 18) hC.1 hC.2.1 dL_law_1650 (by decide) ?_
    exact hk _ _ _ _ _ _ hf hM (lv_sub hl [1, 2, 3, 0] rfl)
  · have hf := o_f hc9 hf
    exact absurd (Option.some.inj hf) (by decide)
set_option maxHeartbeats 4000000 in
set_option maxRecDepth 100000 in
theorem lc_20 {p : Program} {e : Env} {s : State} {m : MethodId} {below : List Frame} {meth : Method} {c : Code} {l : Launch} {x : Cond} {V : mV} {a' : Nat → Nat} {b L cells slots : Nat} {xs : Nat → Int32} {A : Nat → Prop} {Q : State → Prop} (hC : mw_C p s m #[Value.ref b] c code 4 RL x (mvD V) vwCl (mvY V) ssL (mvK V) (mvW V) A) (hX : va_X b L xs s s.heap) (hbl : b < s.heap.size) (hbA : ¬ A b) (hcs : cells ≤ room_1.cells ∧ slots ≤ room_1.slots) {kf : mM → mM → Int32 → Option Int32} (hk : ∀ (M T : mM) (x3 : Int32) (H : Heap) (locs : List Loc) (ls : Array Slot), kf M T x3 = some 1 → L2 V a' M T A s H locs → lv_has ls 4 [(0, .ref b), (1, .ref (mvA V 0)), (2, .ref (a' 0)), (3, .int x3)] → W p l e room_1 s m #[Value.ref b] below meth c H locs cells slots Q (F0 m 18 ls [])) (M T : mM) (x3 : Int32) (H : Heap) (locs : List Loc) (ls : Array Slot) (hf : fL_20 kf L xs M T x3 = some 1) (hM : L2 V a' M T A s H locs) (hl : lv_has ls 4 [(0, .ref b), (1, .ref (mvA V 0)), (2, .ref (a' 0)), (3, .int x3)]) : W p l e room_1 s m #[Value.ref b] below meth c H locs cells slots Q (F0 m 800 ls []) := by
  unfold fL_20 at hf
  refine lv_aload_n hC.1 hC.2.1 dL_law_800 rfl (lv_at hl 1 rfl) ?_
  refine lv_aload_n hC.1 hC.2.1 dL_law_801 rfl (lv_at hl 0 rfl) ?_
  refine lv_iload_n hC.1 hC.2.1 dL_law_802 rfl (lv_at hl 3 rfl) ?_
  refine lv_iconst hC.1 hC.2.1 dL_law_803 ci_1 ?_
  refine lv_iadd hC.1 hC.2.1 dL_law_804 ?_
  obtain ⟨hg1, hf⟩ := o_g hf
  refine va_sld hC.1 hC.2.1 hX hbl hbA hM.1.2.2 (ix_in hg1) dL_law_805 ?_
  refine lv_aload_n hC.1 hC.2.1 dL_law_806 rfl (lv_at hl 0 rfl) ?_
  refine lv_iload_n hC.1 hC.2.1 dL_law_807 rfl (lv_at hl 3 rfl) ?_
  refine lv_iconst hC.1 hC.2.1 dL_law_808 ci_2 ?_
  refine lv_iadd hC.1 hC.2.1 dL_law_809 ?_
  obtain ⟨hg2, hf⟩ := o_g hf
  refine va_sld hC.1 hC.2.1 hX hbl hbA hM.1.2.2 (ix_in hg2) dL_law_810 ?_
  obtain ⟨r3, M5, hq4, hf⟩ := o_b2 hf
  refine l2_c1 (As := [.int (xs (Int32.toNatClampNeg (x3 + 1))), .int (xs (Int32.toNatClampNeg (x3 + 2)))]) (rest := []) hC hM (mcX11_ith V l M (xs (Int32.toNatClampNeg (x3 + 1))) (xs (Int32.toNatClampNeg (x3 + 2))) r3 M5 hq4) (mw_kV hC q_847 q_848 q_849 q_107 q_850 ⟨rfl, rfl⟩ kV_X11_ith ⟨Nat.le_of_ble_eq_true rfl, Nat.le_of_ble_eq_true rfl⟩) rfl rfl (Nat.le_of_ble_eq_true rfl) hl.1 hcs dL_law_811 (fun H locs hM => ?_)
  refine lv_aload_n hC.1 hC.2.1 dL_law_814 rfl (lv_at hl 2 rfl) ?_
  refine lv_aload_n hC.1 hC.2.1 dL_law_815 rfl (lv_at hl 0 rfl) ?_
  refine lv_iload_n hC.1 hC.2.1 dL_law_816 rfl (lv_at hl 3 rfl) ?_
  refine lv_iconst hC.1 hC.2.1 dL_law_817 ci_1 ?_
  refine lv_iadd hC.1 hC.2.1 dL_law_818 ?_
  obtain ⟨hg6, hf⟩ := o_g hf
  refine va_sld hC.1 hC.2.1 hX hbl hbA hM.1.2.2 (ix_in hg6) dL_law_819 ?_
  refine lv_aload_n hC.1 hC.2.1 dL_law_820 rfl (lv_at hl 0 rfl) ?_
  refine lv_iload_n hC.1 hC.2.1 dL_law_821 rfl (lv_at hl 3 rfl) ?_
  refine lv_iconst hC.1 hC.2.1 dL_law_822 ci_2 ?_
  refine lv_iadd hC.1 hC.2.1 dL_law_823 ?_
  obtain ⟨hg7, hf⟩ := o_g hf
  refine va_sld hC.1 hC.2.1 hX hbl hbA hM.1.2.2 (ix_in hg7) dL_law_824 ?_
  obtain ⟨r8, M10, hq9, hf⟩ := o_b2 hf
  refine l2_c2 (As := [.int (xs (Int32.toNatClampNeg (x3 + 1))), .int (xs (Int32.toNatClampNeg (x3 + 2)))]) (rest := [.int r3]) hC hM (mcX12_ith (V2 V a') l T (xs (Int32.toNatClampNeg (x3 + 1))) (xs (Int32.toNatClampNeg (x3 + 2))) r8 M10 hq9) (mw_kV hC q_1553 q_1554 q_1555 q_120 q_1556 ⟨rfl, rfl⟩ kV_X12_ith ⟨Nat.le_of_ble_eq_true rfl, Nat.le_of_ble_eq_true rfl⟩) rfl rfl (Nat.le_of_ble_eq_true rfl) hl.1 hcs dL_law_825 (fun H locs hM => ?_)
  refine lv_icmp_eq (tgt := 1647) hC.1 hC.2.1 dL_law_828 (by decide) (fun hc11 => ?_) (fun hc11 => ?_)
  · have hf := o_t hc11 hf
    refine lv_iinc (k := 3) (lv' := [(3, .int (x3 + 5)), (0, .ref b), (1, .ref (mvA V 0)), (2, .ref (a' 0))]) hC.1 hC.2.1 dL_law_1647 hl rfl (inc_5 _) (Nat.le_of_ble_eq_true rfl) rfl (fun ls hl => ?_)
    refine lv_goto (tgt := 18) hC.1 hC.2.1 dL_law_1650 (by decide) ?_
    exact hk _ _ _ _ _ _ hf hM (lv_sub hl [1, 2, 3, 0] rfl)
  · have hf := o_f hc11 hf
    exact absurd (Option.some.inj hf) (by decide)
set_option maxHeartbeats 4000000 in
set_option maxRecDepth 100000 in
theorem lc_21 {p : Program} {e : Env} {s : State} {m : MethodId} {below : List Frame} {meth : Method} {c : Code} {l : Launch} {x : Cond} {V : mV} {a' : Nat → Nat} {b L cells slots : Nat} {xs : Nat → Int32} {A : Nat → Prop} {Q : State → Prop} (hC : mw_C p s m #[Value.ref b] c code 4 RL x (mvD V) vwCl (mvY V) ssL (mvK V) (mvW V) A) (hX : va_X b L xs s s.heap) (hbl : b < s.heap.size) (hbA : ¬ A b) (hcs : cells ≤ room_1.cells ∧ slots ≤ room_1.slots) {kf : mM → mM → Int32 → Option Int32} (hk : ∀ (M T : mM) (x3 : Int32) (H : Heap) (locs : List Loc) (ls : Array Slot), kf M T x3 = some 1 → L2 V a' M T A s H locs → lv_has ls 4 [(0, .ref b), (1, .ref (mvA V 0)), (2, .ref (a' 0)), (3, .int x3)] → W p l e room_1 s m #[Value.ref b] below meth c H locs cells slots Q (F0 m 18 ls [])) (M T : mM) (x3 : Int32) (H : Heap) (locs : List Loc) (ls : Array Slot) (hf : fL_21 kf L xs M T x3 = some 1) (hM : L2 V a' M T A s H locs) (hl : lv_has ls 4 [(0, .ref b), (1, .ref (mvA V 0)), (2, .ref (a' 0)), (3, .int x3)]) : W p l e room_1 s m #[Value.ref b] below meth c H locs cells slots Q (F0 m 833 ls []) := by
  unfold fL_21 at hf
  refine lv_aload_n hC.1 hC.2.1 dL_law_833 rfl (lv_at hl 1 rfl) ?_
  refine lv_aload_n hC.1 hC.2.1 dL_law_834 rfl (lv_at hl 0 rfl) ?_
  refine lv_iload_n hC.1 hC.2.1 dL_law_835 rfl (lv_at hl 3 rfl) ?_
  refine lv_iconst hC.1 hC.2.1 dL_law_836 ci_1 ?_
  refine lv_iadd hC.1 hC.2.1 dL_law_837 ?_
  obtain ⟨hg1, hf⟩ := o_g hf
  refine va_sld hC.1 hC.2.1 hX hbl hbA hM.1.2.2 (ix_in hg1) dL_law_838 ?_
  refine lv_aload_n hC.1 hC.2.1 dL_law_839 rfl (lv_at hl 0 rfl) ?_
  refine lv_iload_n hC.1 hC.2.1 dL_law_840 rfl (lv_at hl 3 rfl) ?_
  refine lv_iconst hC.1 hC.2.1 dL_law_841 ci_2 ?_
  refine lv_iadd hC.1 hC.2.1 dL_law_842 ?_
  obtain ⟨hg2, hf⟩ := o_g hf
  refine va_sld hC.1 hC.2.1 hX hbl hbA hM.1.2.2 (ix_in hg2) dL_law_843 ?_
  obtain ⟨r3, M5, hq4, hf⟩ := o_b2 hf
  refine l2_c1 (As := [.int (xs (Int32.toNatClampNeg (x3 + 1))), .int (xs (Int32.toNatClampNeg (x3 + 2)))]) (rest := []) hC hM (mcX11_ways V l M (xs (Int32.toNatClampNeg (x3 + 1))) (xs (Int32.toNatClampNeg (x3 + 2))) r3 M5 hq4) (mw_kV hC q_851 q_852 q_853 q_107 q_854 ⟨rfl, rfl⟩ kV_X11_ways ⟨Nat.le_of_ble_eq_true rfl, Nat.le_of_ble_eq_true rfl⟩) rfl rfl (Nat.le_of_ble_eq_true rfl) hl.1 hcs dL_law_844 (fun H locs hM => ?_)
  refine lv_aload_n hC.1 hC.2.1 dL_law_847 rfl (lv_at hl 2 rfl) ?_
  refine lv_aload_n hC.1 hC.2.1 dL_law_848 rfl (lv_at hl 0 rfl) ?_
  refine lv_iload_n hC.1 hC.2.1 dL_law_849 rfl (lv_at hl 3 rfl) ?_
  refine lv_iconst hC.1 hC.2.1 dL_law_850 ci_1 ?_
  refine lv_iadd hC.1 hC.2.1 dL_law_851 ?_
  obtain ⟨hg6, hf⟩ := o_g hf
  refine va_sld hC.1 hC.2.1 hX hbl hbA hM.1.2.2 (ix_in hg6) dL_law_852 ?_
  refine lv_aload_n hC.1 hC.2.1 dL_law_853 rfl (lv_at hl 0 rfl) ?_
  refine lv_iload_n hC.1 hC.2.1 dL_law_854 rfl (lv_at hl 3 rfl) ?_
  refine lv_iconst hC.1 hC.2.1 dL_law_855 ci_2 ?_
  refine lv_iadd hC.1 hC.2.1 dL_law_856 ?_
  obtain ⟨hg7, hf⟩ := o_g hf
  refine va_sld hC.1 hC.2.1 hX hbl hbA hM.1.2.2 (ix_in hg7) dL_law_857 ?_
  obtain ⟨r8, M10, hq9, hf⟩ := o_b2 hf
  refine l2_c2 (As := [.int (xs (Int32.toNatClampNeg (x3 + 1))), .int (xs (Int32.toNatClampNeg (x3 + 2)))]) (rest := [.int r3]) hC hM (mcX12_ways (V2 V a') l T (xs (Int32.toNatClampNeg (x3 + 1))) (xs (Int32.toNatClampNeg (x3 + 2))) r8 M10 hq9) (mw_kV hC q_1558 q_1559 q_1560 q_120 q_1561 ⟨rfl, rfl⟩ kV_X12_ways ⟨Nat.le_of_ble_eq_true rfl, Nat.le_of_ble_eq_true rfl⟩) rfl rfl (Nat.le_of_ble_eq_true rfl) hl.1 hcs dL_law_858 (fun H locs hM => ?_)
  refine lv_icmp_eq (tgt := 1647) hC.1 hC.2.1 dL_law_861 (by decide) (fun hc11 => ?_) (fun hc11 => ?_)
  · have hf := o_t hc11 hf
    refine lv_iinc (k := 3) (lv' := [(3, .int (x3 + 5)), (0, .ref b), (1, .ref (mvA V 0)), (2, .ref (a' 0))]) hC.1 hC.2.1 dL_law_1647 hl rfl (inc_5 _) (Nat.le_of_ble_eq_true rfl) rfl (fun ls hl => ?_)
    refine lv_goto (tgt := 18) hC.1 hC.2.1 dL_law_1650 (by decide) ?_
    exact hk _ _ _ _ _ _ hf hM (lv_sub hl [1, 2, 3, 0] rfl)
  · have hf := o_f hc11 hf
    exact absurd (Option.some.inj hf) (by decide)
set_option maxHeartbeats 4000000 in
set_option maxRecDepth 100000 in
theorem lc_22 {p : Program} {e : Env} {s : State} {m : MethodId} {below : List Frame} {meth : Method} {c : Code} {l : Launch} {x : Cond} {V : mV} {a' : Nat → Nat} {b L cells slots : Nat} {xs : Nat → Int32} {A : Nat → Prop} {Q : State → Prop} (hC : mw_C p s m #[Value.ref b] c code 4 RL x (mvD V) vwCl (mvY V) ssL (mvK V) (mvW V) A) (hX : va_X b L xs s s.heap) (hbl : b < s.heap.size) (hbA : ¬ A b) (hcs : cells ≤ room_1.cells ∧ slots ≤ room_1.slots) {kf : mM → mM → Int32 → Option Int32} (hk : ∀ (M T : mM) (x3 : Int32) (H : Heap) (locs : List Loc) (ls : Array Slot), kf M T x3 = some 1 → L2 V a' M T A s H locs → lv_has ls 4 [(0, .ref b), (1, .ref (mvA V 0)), (2, .ref (a' 0)), (3, .int x3)] → W p l e room_1 s m #[Value.ref b] below meth c H locs cells slots Q (F0 m 18 ls [])) (M T : mM) (x3 : Int32) (H : Heap) (locs : List Loc) (ls : Array Slot) (hf : fL_22 kf L xs M T x3 = some 1) (hM : L2 V a' M T A s H locs) (hl : lv_has ls 4 [(0, .ref b), (1, .ref (mvA V 0)), (2, .ref (a' 0)), (3, .int x3)]) : W p l e room_1 s m #[Value.ref b] below meth c H locs cells slots Q (F0 m 866 ls []) := by
  unfold fL_22 at hf
  refine lv_aload_n hC.1 hC.2.1 dL_law_866 rfl (lv_at hl 1 rfl) ?_
  refine lv_aload_n hC.1 hC.2.1 dL_law_867 rfl (lv_at hl 0 rfl) ?_
  refine lv_iload_n hC.1 hC.2.1 dL_law_868 rfl (lv_at hl 3 rfl) ?_
  refine lv_iconst hC.1 hC.2.1 dL_law_869 ci_1 ?_
  refine lv_iadd hC.1 hC.2.1 dL_law_870 ?_
  obtain ⟨hg1, hf⟩ := o_g hf
  refine va_sld hC.1 hC.2.1 hX hbl hbA hM.1.2.2 (ix_in hg1) dL_law_871 ?_
  obtain ⟨r2, M4, hq3, hf⟩ := o_b2 hf
  refine l2_c1 (As := [.int (xs (Int32.toNatClampNeg (x3 + 1)))]) (rest := []) hC hM (mcX11_hours V l M (xs (Int32.toNatClampNeg (x3 + 1))) r2 M4 hq3) (mw_kV hC q_867 q_868 q_869 q_107 q_870 ⟨rfl, rfl⟩ kV_X11_hours ⟨Nat.le_of_ble_eq_true rfl, Nat.le_of_ble_eq_true rfl⟩) rfl rfl (Nat.le_of_ble_eq_true rfl) hl.1 hcs dL_law_872 (fun H locs hM => ?_)
  refine lv_aload_n hC.1 hC.2.1 dL_law_875 rfl (lv_at hl 2 rfl) ?_
  refine lv_aload_n hC.1 hC.2.1 dL_law_876 rfl (lv_at hl 0 rfl) ?_
  refine lv_iload_n hC.1 hC.2.1 dL_law_877 rfl (lv_at hl 3 rfl) ?_
  refine lv_iconst hC.1 hC.2.1 dL_law_878 ci_1 ?_
  refine lv_iadd hC.1 hC.2.1 dL_law_879 ?_
  obtain ⟨hg5, hf⟩ := o_g hf
  refine va_sld hC.1 hC.2.1 hX hbl hbA hM.1.2.2 (ix_in hg5) dL_law_880 ?_
  obtain ⟨r6, M8, hq7, hf⟩ := o_b2 hf
  refine l2_c2 (As := [.int (xs (Int32.toNatClampNeg (x3 + 1)))]) (rest := [.int r2]) hC hM (mcX12_hours (V2 V a') l T (xs (Int32.toNatClampNeg (x3 + 1))) r6 M8 hq7) (mw_kV hC q_1571 q_1572 q_1573 q_120 q_1574 ⟨rfl, rfl⟩ kV_X12_hours ⟨Nat.le_of_ble_eq_true rfl, Nat.le_of_ble_eq_true rfl⟩) rfl rfl (Nat.le_of_ble_eq_true rfl) hl.1 hcs dL_law_881 (fun H locs hM => ?_)
  refine lv_icmp_eq (tgt := 1647) hC.1 hC.2.1 dL_law_884 (by decide) (fun hc9 => ?_) (fun hc9 => ?_)
  · have hf := o_t hc9 hf
    refine lv_iinc (k := 3) (lv' := [(3, .int (x3 + 5)), (0, .ref b), (1, .ref (mvA V 0)), (2, .ref (a' 0))]) hC.1 hC.2.1 dL_law_1647 hl rfl (inc_5 _) (Nat.le_of_ble_eq_true rfl) rfl (fun ls hl => ?_)
    refine lv_goto (tgt := 18) hC.1 hC.2.1 dL_law_1650 (by decide) ?_
    exact hk _ _ _ _ _ _ hf hM (lv_sub hl [1, 2, 3, 0] rfl)
  · have hf := o_f hc9 hf
    exact absurd (Option.some.inj hf) (by decide)
set_option maxHeartbeats 4000000 in
set_option maxRecDepth 100000 in
theorem lc_23 {p : Program} {e : Env} {s : State} {m : MethodId} {below : List Frame} {meth : Method} {c : Code} {l : Launch} {x : Cond} {V : mV} {a' : Nat → Nat} {b L cells slots : Nat} {xs : Nat → Int32} {A : Nat → Prop} {Q : State → Prop} (hC : mw_C p s m #[Value.ref b] c code 4 RL x (mvD V) vwCl (mvY V) ssL (mvK V) (mvW V) A) (hX : va_X b L xs s s.heap) (hbl : b < s.heap.size) (hbA : ¬ A b) (hcs : cells ≤ room_1.cells ∧ slots ≤ room_1.slots) {kf : mM → mM → Int32 → Option Int32} (hk : ∀ (M T : mM) (x3 : Int32) (H : Heap) (locs : List Loc) (ls : Array Slot), kf M T x3 = some 1 → L2 V a' M T A s H locs → lv_has ls 4 [(0, .ref b), (1, .ref (mvA V 0)), (2, .ref (a' 0)), (3, .int x3)] → W p l e room_1 s m #[Value.ref b] below meth c H locs cells slots Q (F0 m 18 ls [])) (M T : mM) (x3 : Int32) (H : Heap) (locs : List Loc) (ls : Array Slot) (hf : fL_23 kf L xs M T x3 = some 1) (hM : L2 V a' M T A s H locs) (hl : lv_has ls 4 [(0, .ref b), (1, .ref (mvA V 0)), (2, .ref (a' 0)), (3, .int x3)]) : W p l e room_1 s m #[Value.ref b] below meth c H locs cells slots Q (F0 m 889 ls []) := by
  unfold fL_23 at hf
  refine lv_aload_n hC.1 hC.2.1 dL_law_889 rfl (lv_at hl 1 rfl) ?_
  refine lv_aload_n hC.1 hC.2.1 dL_law_890 rfl (lv_at hl 0 rfl) ?_
  refine lv_iload_n hC.1 hC.2.1 dL_law_891 rfl (lv_at hl 3 rfl) ?_
  refine lv_iconst hC.1 hC.2.1 dL_law_892 ci_1 ?_
  refine lv_iadd hC.1 hC.2.1 dL_law_893 ?_
  obtain ⟨hg1, hf⟩ := o_g hf
  refine va_sld hC.1 hC.2.1 hX hbl hbA hM.1.2.2 (ix_in hg1) dL_law_894 ?_
  refine lv_aload_n hC.1 hC.2.1 dL_law_895 rfl (lv_at hl 0 rfl) ?_
  refine lv_iload_n hC.1 hC.2.1 dL_law_896 rfl (lv_at hl 3 rfl) ?_
  refine lv_iconst hC.1 hC.2.1 dL_law_897 ci_2 ?_
  refine lv_iadd hC.1 hC.2.1 dL_law_898 ?_
  obtain ⟨hg2, hf⟩ := o_g hf
  refine va_sld hC.1 hC.2.1 hX hbl hbA hM.1.2.2 (ix_in hg2) dL_law_899 ?_
  obtain ⟨r3, M5, hq4, hf⟩ := o_b2 hf
  refine l2_c1 (As := [.int (xs (Int32.toNatClampNeg (x3 + 1))), .int (xs (Int32.toNatClampNeg (x3 + 2)))]) (rest := []) hC hM (mcX11_limitFor V l M (xs (Int32.toNatClampNeg (x3 + 1))) (xs (Int32.toNatClampNeg (x3 + 2))) r3 M5 hq4) (mw_kV hC q_871 q_872 q_873 q_107 q_874 ⟨rfl, rfl⟩ kV_X11_limitFor ⟨Nat.le_of_ble_eq_true rfl, Nat.le_of_ble_eq_true rfl⟩) rfl rfl (Nat.le_of_ble_eq_true rfl) hl.1 hcs dL_law_900 (fun H locs hM => ?_)
  refine lv_aload_n hC.1 hC.2.1 dL_law_903 rfl (lv_at hl 2 rfl) ?_
  refine lv_aload_n hC.1 hC.2.1 dL_law_904 rfl (lv_at hl 0 rfl) ?_
  refine lv_iload_n hC.1 hC.2.1 dL_law_905 rfl (lv_at hl 3 rfl) ?_
  refine lv_iconst hC.1 hC.2.1 dL_law_906 ci_1 ?_
  refine lv_iadd hC.1 hC.2.1 dL_law_907 ?_
  obtain ⟨hg6, hf⟩ := o_g hf
  refine va_sld hC.1 hC.2.1 hX hbl hbA hM.1.2.2 (ix_in hg6) dL_law_908 ?_
  refine lv_aload_n hC.1 hC.2.1 dL_law_909 rfl (lv_at hl 0 rfl) ?_
  refine lv_iload_n hC.1 hC.2.1 dL_law_910 rfl (lv_at hl 3 rfl) ?_
  refine lv_iconst hC.1 hC.2.1 dL_law_911 ci_2 ?_
  refine lv_iadd hC.1 hC.2.1 dL_law_912 ?_
  obtain ⟨hg7, hf⟩ := o_g hf
  refine va_sld hC.1 hC.2.1 hX hbl hbA hM.1.2.2 (ix_in hg7) dL_law_913 ?_
  obtain ⟨r8, M10, hq9, hf⟩ := o_b2 hf
  refine l2_c2 (As := [.int (xs (Int32.toNatClampNeg (x3 + 1))), .int (xs (Int32.toNatClampNeg (x3 + 2)))]) (rest := [.int r3]) hC hM (mcX12_limitFor (V2 V a') l T (xs (Int32.toNatClampNeg (x3 + 1))) (xs (Int32.toNatClampNeg (x3 + 2))) r8 M10 hq9) (mw_kV hC q_1575 q_1576 q_1577 q_120 q_1578 ⟨rfl, rfl⟩ kV_X12_limitFor ⟨Nat.le_of_ble_eq_true rfl, Nat.le_of_ble_eq_true rfl⟩) rfl rfl (Nat.le_of_ble_eq_true rfl) hl.1 hcs dL_law_914 (fun H locs hM => ?_)
  refine lv_icmp_eq (tgt := 1647) hC.1 hC.2.1 dL_law_917 (by decide) (fun hc11 => ?_) (fun hc11 => ?_)
  · have hf := o_t hc11 hf
    refine lv_iinc (k := 3) (lv' := [(3, .int (x3 + 5)), (0, .ref b), (1, .ref (mvA V 0)), (2, .ref (a' 0))]) hC.1 hC.2.1 dL_law_1647 hl rfl (inc_5 _) (Nat.le_of_ble_eq_true rfl) rfl (fun ls hl => ?_)
    refine lv_goto (tgt := 18) hC.1 hC.2.1 dL_law_1650 (by decide) ?_
    exact hk _ _ _ _ _ _ hf hM (lv_sub hl [1, 2, 3, 0] rfl)
  · have hf := o_f hc11 hf
    exact absurd (Option.some.inj hf) (by decide)
set_option maxHeartbeats 4000000 in
set_option maxRecDepth 100000 in
theorem lc_24 {p : Program} {e : Env} {s : State} {m : MethodId} {below : List Frame} {meth : Method} {c : Code} {l : Launch} {x : Cond} {V : mV} {a' : Nat → Nat} {b L cells slots : Nat} {xs : Nat → Int32} {A : Nat → Prop} {Q : State → Prop} (hC : mw_C p s m #[Value.ref b] c code 4 RL x (mvD V) vwCl (mvY V) ssL (mvK V) (mvW V) A) (hX : va_X b L xs s s.heap) (hbl : b < s.heap.size) (hbA : ¬ A b) (hcs : cells ≤ room_1.cells ∧ slots ≤ room_1.slots) {kf : mM → mM → Int32 → Option Int32} (hk : ∀ (M T : mM) (x3 : Int32) (H : Heap) (locs : List Loc) (ls : Array Slot), kf M T x3 = some 1 → L2 V a' M T A s H locs → lv_has ls 4 [(0, .ref b), (1, .ref (mvA V 0)), (2, .ref (a' 0)), (3, .int x3)] → W p l e room_1 s m #[Value.ref b] below meth c H locs cells slots Q (F0 m 18 ls [])) (M T : mM) (x3 : Int32) (H : Heap) (locs : List Loc) (ls : Array Slot) (hf : fL_24 kf L xs M T x3 = some 1) (hM : L2 V a' M T A s H locs) (hl : lv_has ls 4 [(0, .ref b), (1, .ref (mvA V 0)), (2, .ref (a' 0)), (3, .int x3)]) : W p l e room_1 s m #[Value.ref b] below meth c H locs cells slots Q (F0 m 922 ls []) := by
  unfold fL_24 at hf
  refine lv_aload_n hC.1 hC.2.1 dL_law_922 rfl (lv_at hl 1 rfl) ?_
  refine lv_aload_n hC.1 hC.2.1 dL_law_923 rfl (lv_at hl 0 rfl) ?_
  refine lv_iload_n hC.1 hC.2.1 dL_law_924 rfl (lv_at hl 3 rfl) ?_
  refine lv_iconst hC.1 hC.2.1 dL_law_925 ci_1 ?_
  refine lv_iadd hC.1 hC.2.1 dL_law_926 ?_
  obtain ⟨hg1, hf⟩ := o_g hf
  refine va_sld hC.1 hC.2.1 hX hbl hbA hM.1.2.2 (ix_in hg1) dL_law_927 ?_
  obtain ⟨r2, M4, hq3, hf⟩ := o_b2 hf
  refine l2_c1 (As := [.int (xs (Int32.toNatClampNeg (x3 + 1)))]) (rest := []) hC hM (mcX11_game V l M (xs (Int32.toNatClampNeg (x3 + 1))) r2 M4 hq3) (mw_kV hC q_875 q_876 q_877 q_107 q_878 ⟨rfl, rfl⟩ kV_X11_game ⟨Nat.le_of_ble_eq_true rfl, Nat.le_of_ble_eq_true rfl⟩) rfl rfl (Nat.le_of_ble_eq_true rfl) hl.1 hcs dL_law_928 (fun H locs hM => ?_)
  refine lv_aload_n hC.1 hC.2.1 dL_law_931 rfl (lv_at hl 2 rfl) ?_
  refine lv_aload_n hC.1 hC.2.1 dL_law_932 rfl (lv_at hl 0 rfl) ?_
  refine lv_iload_n hC.1 hC.2.1 dL_law_933 rfl (lv_at hl 3 rfl) ?_
  refine lv_iconst hC.1 hC.2.1 dL_law_934 ci_1 ?_
  refine lv_iadd hC.1 hC.2.1 dL_law_935 ?_
  obtain ⟨hg5, hf⟩ := o_g hf
  refine va_sld hC.1 hC.2.1 hX hbl hbA hM.1.2.2 (ix_in hg5) dL_law_936 ?_
  obtain ⟨r6, M8, hq7, hf⟩ := o_b2 hf
  refine l2_c2 (As := [.int (xs (Int32.toNatClampNeg (x3 + 1)))]) (rest := [.int r2]) hC hM (mcX12_game (V2 V a') l T (xs (Int32.toNatClampNeg (x3 + 1))) r6 M8 hq7) (mw_kV hC q_1579 q_1580 q_1581 q_120 q_1582 ⟨rfl, rfl⟩ kV_X12_game ⟨Nat.le_of_ble_eq_true rfl, Nat.le_of_ble_eq_true rfl⟩) rfl rfl (Nat.le_of_ble_eq_true rfl) hl.1 hcs dL_law_937 (fun H locs hM => ?_)
  refine lv_icmp_eq (tgt := 1647) hC.1 hC.2.1 dL_law_940 (by decide) (fun hc9 => ?_) (fun hc9 => ?_)
  · have hf := o_t hc9 hf
    refine lv_iinc (k := 3) (lv' := [(3, .int (x3 + 5)), (0, .ref b), (1, .ref (mvA V 0)), (2, .ref (a' 0))]) hC.1 hC.2.1 dL_law_1647 hl rfl (inc_5 _) (Nat.le_of_ble_eq_true rfl) rfl (fun ls hl => ?_)
    refine lv_goto (tgt := 18) hC.1 hC.2.1 dL_law_1650 (by decide) ?_
    exact hk _ _ _ _ _ _ hf hM (lv_sub hl [1, 2, 3, 0] rfl)
  · have hf := o_f hc9 hf
    exact absurd (Option.some.inj hf) (by decide)
