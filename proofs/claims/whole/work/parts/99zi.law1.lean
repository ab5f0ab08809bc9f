/-! the law's cases -/
set_option maxHeartbeats 4000000 in
set_option maxRecDepth 100000 in
theorem g_feed {p : Program} {l : Launch} {e : Env} {s : State} {m : MethodId} {below : List Frame} {meth : Method} {c : Code} {b L : Nat} {xs : Nat → Int32} {E : xE} {b1 b2 qo i : Nat} {fo : Nat → Int64} {wx wm : va_W} {H : Heap} {locs : List Loc} {ls : Array Slot} {cells slots : Nat} {Q : State → Prop} (Cx : lwC p s m meth c b L xs E) (hi : i + 6 ≤ L) (G : xG s E (fun q => s.heap.size ≤ q) (((w0 E qo fo) ++ wm) ++ wx) H locs) (hr : Rel E b1 b2 wx wm) (hl : lv_has ls 7 [(4, .int (iI (i : Nat))), (3, .ref qo), (2, .ref b2), (1, .ref b1), (0, .ref b)]) (hcs : cells ≤ room_1.cells ∧ slots ≤ room_1.slots) (K : ∀ (wx wm : va_W) (H : Heap) (locs : List Loc), Rel E b1 b2 wx wm → xG s E (fun q => s.heap.size ≤ q) (((w0 E qo fo) ++ wm) ++ wx) H locs → W p l e room_1 s m #[Value.ref b] below meth c H locs (cells + 10) (slots + 83) Q (F0 m 1820 ls [])) : W p l e room_1 s m #[Value.ref b] below meth c H locs cells slots Q (F0 m 292 ls []) := by
  obtain ⟨wx2, wm2, r, r2, k1, k2, he, hr2⟩ := s_feed (l := l) (l1 := (xs (i + 1))) (l2 := (xs (i + 2))) (l3 := (xs (i + 3))) (l4 := (xs (i + 4))) (l5 := (xs (i + 5))) hr
  refine lv_aload_n Cx.1.1 Cx.1.2.1 dL_law_292 rfl (lv_at hl 3 rfl) ?_
  refine w_arg (j := 1) Cx hi (by omega) G hl dL_law_293 dL_law_294 dL_law_296 rfl dL_law_297 dL_law_298 ?_
  refine w_arg (j := 2) Cx hi (by omega) G hl dL_law_299 dL_law_300 dL_law_302 rfl dL_law_303 dL_law_304 ?_
  refine w_arg (j := 3) Cx hi (by omega) G hl dL_law_305 dL_law_306 dL_law_308 rfl dL_law_309 dL_law_310 ?_
  refine w_arg (j := 4) Cx hi (by omega) G hl dL_law_311 dL_law_312 dL_law_314 rfl dL_law_315 dL_law_316 ?_
  refine w_arg (j := 5) Cx hi (by omega) G hl dL_law_317 dL_law_318 dL_law_320 rfl dL_law_321 dL_law_322 ?_
  refine lx_I (As := [.int (xs (i + 1)), .int (xs (i + 2)), .int (xs (i + 3)), .int (xs (i + 4)), .int (xs (i + 5))]) Cx G hr k1 mX10_feed kL_19 rfl (by decide) hl.1 rfl (by simp) hcs dL_law_323 (fun H locs G => ?_)
  refine lv_aload_n Cx.1.1 Cx.1.2.1 dL_law_326 rfl (lv_at hl 2 rfl) ?_
  refine w_arg (j := 1) Cx hi (by omega) G hl dL_law_327 dL_law_328 dL_law_330 rfl dL_law_331 dL_law_332 ?_
  refine w_arg (j := 2) Cx hi (by omega) G hl dL_law_333 dL_law_334 dL_law_336 rfl dL_law_337 dL_law_338 ?_
  refine w_arg (j := 3) Cx hi (by omega) G hl dL_law_339 dL_law_340 dL_law_342 rfl dL_law_343 dL_law_344 ?_
  refine w_arg (j := 4) Cx hi (by omega) G hl dL_law_345 dL_law_346 dL_law_348 rfl dL_law_349 dL_law_350 ?_
  refine w_arg (j := 5) Cx hi (by omega) G hl dL_law_351 dL_law_352 dL_law_354 rfl dL_law_355 dL_law_356 ?_
  refine lm_I (As := [.int (xs (i + 1)), .int (xs (i + 2)), .int (xs (i + 3)), .int (xs (i + 4)), .int (xs (i + 5))]) Cx G hr k2 mX12_feed kL_23 rfl (by decide) hl.1 rfl (by simp [Value.category]) hcs dL_law_357 (fun H locs G => ?_)
  refine lv_icmp_eq (tgt := 1820) Cx.1.1 Cx.1.2.1 dL_law_360 (by decide) (fun _ => ?_) (fun h => absurd he h)
  refine W.widen (k := cells + 10) (n := slots + 83) (by omega) (by omega) ?_
  exact K _ _ _ _ hr2 G
set_option maxHeartbeats 4000000 in
set_option maxRecDepth 100000 in
theorem g_table {p : Program} {l : Launch} {e : Env} {s : State} {m : MethodId} {below : List Frame} {meth : Method} {c : Code} {b L : Nat} {xs : Nat → Int32} {E : xE} {b1 b2 qo i : Nat} {fo : Nat → Int64} {wx wm : va_W} {H : Heap} {locs : List Loc} {ls : Array Slot} {cells slots : Nat} {Q : State → Prop} (Cx : lwC p s m meth c b L xs E) (hi : i + 6 ≤ L) (G : xG s E (fun q => s.heap.size ≤ q) (((w0 E qo fo) ++ wm) ++ wx) H locs) (hr : Rel E b1 b2 wx wm) (hl : lv_has ls 7 [(4, .int (iI (i : Nat))), (3, .ref qo), (2, .ref b2), (1, .ref b1), (0, .ref b)]) (hcs : cells ≤ room_1.cells ∧ slots ≤ room_1.slots) (hcs2 : cells + 10 ≤ room_1.cells ∧ slots + 83 ≤ room_1.slots) (K : ∀ (wx wm : va_W) (H : Heap) (locs : List Loc), Rel E b1 b2 wx wm → xG s E (fun q => s.heap.size ≤ q) (((w0 E qo fo) ++ wm) ++ wx) H locs → W p l e room_1 s m #[Value.ref b] below meth c H locs (cells + 10) (slots + 83) Q (F0 m 1820 ls [])) : W p l e room_1 s m #[Value.ref b] below meth c H locs cells slots Q (F0 m 365 ls []) := by
  obtain ⟨wx2, wm2, r, r2, k1, k2, he, hr2⟩ := s_table (l := l) (l1 := xs (i + 1)) hr
  refine lv_aload_n Cx.1.1 Cx.1.2.1 dL_law_365 rfl (lv_at hl 3 rfl) ?_
  refine w_arg (j := 1) Cx hi (by omega) G hl dL_law_366 dL_law_367 dL_law_369 rfl dL_law_370 dL_law_371 ?_
  refine lx_I (As := [.int (xs (i + 1))]) Cx G hr k1 mX10_table kL_24 rfl (by decide) hl.1 rfl (by simp) hcs dL_law_372 (fun H locs G => ?_)
  refine lv_aload_n Cx.1.1 Cx.1.2.1 dL_law_375 rfl (lv_at hl 2 rfl) ?_
  refine w_arg (j := 1) Cx hi (by omega) G hl dL_law_376 dL_law_377 dL_law_379 rfl dL_law_380 dL_law_381 ?_
  refine lm_N (As := [.int (xs (i + 1))]) Cx G hr k2 mX12_table kL_27 rfl (by decide) hl.1 rfl (by simp [Value.category]) hcs2 dL_law_382 (fun ad3 H locs G => ?_)
  refine lv_icmp_eq (tgt := 1820) Cx.1.1 Cx.1.2.1 dL_law_385 (by decide) (fun _ => ?_) (fun h => absurd he h)
  exact K _ _ _ _ (hr2 ad3) G
set_option maxHeartbeats 4000000 in
set_option maxRecDepth 100000 in
theorem g_fault {p : Program} {l : Launch} {e : Env} {s : State} {m : MethodId} {below : List Frame} {meth : Method} {c : Code} {b L : Nat} {xs : Nat → Int32} {E : xE} {b1 b2 qo i : Nat} {fo : Nat → Int64} {wx wm : va_W} {H : Heap} {locs : List Loc} {ls : Array Slot} {cells slots : Nat} {Q : State → Prop} (Cx : lwC p s m meth c b L xs E) (hi : i + 6 ≤ L) (G : xG s E (fun q => s.heap.size ≤ q) (((w0 E qo fo) ++ wm) ++ wx) H locs) (hr : Rel E b1 b2 wx wm) (hl : lv_has ls 7 [(4, .int (iI (i : Nat))), (3, .ref qo), (2, .ref b2), (1, .ref b1), (0, .ref b)]) (hcs : cells ≤ room_1.cells ∧ slots ≤ room_1.slots) (K : ∀ (wx wm : va_W) (H : Heap) (locs : List Loc), Rel E b1 b2 wx wm → xG s E (fun q => s.heap.size ≤ q) (((w0 E qo fo) ++ wm) ++ wx) H locs → W p l e room_1 s m #[Value.ref b] below meth c H locs (cells + 10) (slots + 83) Q (F0 m 1820 ls [])) : W p l e room_1 s m #[Value.ref b] below meth c H locs cells slots Q (F0 m 390 ls []) := by
  obtain ⟨wx2, wm2, r, r2, k1, k2, he, hr2⟩ := s_fault (l := l) hr
  refine lv_aload_n Cx.1.1 Cx.1.2.1 dL_law_390 rfl (lv_at hl 3 rfl) ?_
  refine lx_I (As := []) Cx G hr k1 mX10_fault kL_28 rfl (by decide) hl.1 rfl (by simp) hcs dL_law_391 (fun H locs G => ?_)
  refine lv_aload_n Cx.1.1 Cx.1.2.1 dL_law_394 rfl (lv_at hl 2 rfl) ?_
  refine lm_I (As := []) Cx G hr k2 mX12_fault kL_32 rfl (by decide) hl.1 rfl (by simp [Value.category]) hcs dL_law_395 (fun H locs G => ?_)
  refine lv_icmp_eq (tgt := 1820) Cx.1.1 Cx.1.2.1 dL_law_398 (by decide) (fun _ => ?_) (fun h => absurd he h)
  refine W.widen (k := cells + 10) (n := slots + 83) (by omega) (by omega) ?_
  exact K _ _ _ _ hr2 G
set_option maxHeartbeats 4000000 in
set_option maxRecDepth 100000 in
theorem g_where {p : Program} {l : Launch} {e : Env} {s : State} {m : MethodId} {below : List Frame} {meth : Method} {c : Code} {b L : Nat} {xs : Nat → Int32} {E : xE} {b1 b2 qo i : Nat} {fo : Nat → Int64} {wx wm : va_W} {H : Heap} {locs : List Loc} {ls : Array Slot} {cells slots : Nat} {Q : State → Prop} (Cx : lwC p s m meth c b L xs E) (hi : i + 6 ≤ L) (G : xG s E (fun q => s.heap.size ≤ q) (((w0 E qo fo) ++ wm) ++ wx) H locs) (hr : Rel E b1 b2 wx wm) (hl : lv_has ls 7 [(4, .int (iI (i : Nat))), (3, .ref qo), (2, .ref b2), (1, .ref b1), (0, .ref b)]) (hcs : cells ≤ room_1.cells ∧ slots ≤ room_1.slots) (K : ∀ (wx wm : va_W) (H : Heap) (locs : List Loc), Rel E b1 b2 wx wm → xG s E (fun q => s.heap.size ≤ q) (((w0 E qo fo) ++ wm) ++ wx) H locs → W p l e room_1 s m #[Value.ref b] below meth c H locs (cells + 10) (slots + 83) Q (F0 m 1820 ls [])) : W p l e room_1 s m #[Value.ref b] below meth c H locs cells slots Q (F0 m 403 ls []) := by
  obtain ⟨wx2, wm2, r, r2, k1, k2, he, hr2⟩ := s_where (l := l) hr
  refine lv_aload_n Cx.1.1 Cx.1.2.1 dL_law_403 rfl (lv_at hl 3 rfl) ?_
  refine lx_I (As := []) Cx G hr k1 mX10_where kL_33 rfl (by decide) hl.1 rfl (by simp) hcs dL_law_404 (fun H locs G => ?_)
  refine lv_aload_n Cx.1.1 Cx.1.2.1 dL_law_407 rfl (lv_at hl 2 rfl) ?_
  refine lm_I (As := []) Cx G hr k2 mX12_where kL_36 rfl (by decide) hl.1 rfl (by simp [Value.category]) hcs dL_law_408 (fun H locs G => ?_)
  refine lv_icmp_eq (tgt := 1820) Cx.1.1 Cx.1.2.1 dL_law_411 (by decide) (fun _ => ?_) (fun h => absurd he h)
  refine W.widen (k := cells + 10) (n := slots + 83) (by omega) (by omega) ?_
  exact K _ _ _ _ hr2 G
set_option maxHeartbeats 4000000 in
set_option maxRecDepth 100000 in
theorem g_seat {p : Program} {l : Launch} {e : Env} {s : State} {m : MethodId} {below : List Frame} {meth : Method} {c : Code} {b L : Nat} {xs : Nat → Int32} {E : xE} {b1 b2 qo i : Nat} {fo : Nat → Int64} {wx wm : va_W} {H : Heap} {locs : List Loc} {ls : Array Slot} {cells slots : Nat} {Q : State → Prop} (Cx : lwC p s m meth c b L xs E) (hi : i + 6 ≤ L) (G : xG s E (fun q => s.heap.size ≤ q) (((w0 E qo fo) ++ wm) ++ wx) H locs) (hr : Rel E b1 b2 wx wm) (hl : lv_has ls 7 [(4, .int (iI (i : Nat))), (3, .ref qo), (2, .ref b2), (1, .ref b1), (0, .ref b)]) (hcs : cells ≤ room_1.cells ∧ slots ≤ room_1.slots) (K : ∀ (wx wm : va_W) (H : Heap) (locs : List Loc), Rel E b1 b2 wx wm → xG s E (fun q => s.heap.size ≤ q) (((w0 E qo fo) ++ wm) ++ wx) H locs → W p l e room_1 s m #[Value.ref b] below meth c H locs (cells + 10) (slots + 83) Q (F0 m 1820 ls [])) : W p l e room_1 s m #[Value.ref b] below meth c H locs cells slots Q (F0 m 416 ls []) := by
  obtain ⟨wx2, wm2, r, r2, k1, k2, he, hr2⟩ := s_seat (l := l) (l1 := (xs (i + 1))) hr
  refine lv_aload_n Cx.1.1 Cx.1.2.1 dL_law_416 rfl (lv_at hl 3 rfl) ?_
  refine w_arg (j := 1) Cx hi (by omega) G hl dL_law_417 dL_law_418 dL_law_420 rfl dL_law_421 dL_law_422 ?_
  refine lx_I (As := [.int (xs (i + 1))]) Cx G hr k1 mX10_seat kL_37 rfl (by decide) hl.1 rfl (by simp) hcs dL_law_423 (fun H locs G => ?_)
  refine lv_aload_n Cx.1.1 Cx.1.2.1 dL_law_426 rfl (lv_at hl 2 rfl) ?_
  refine w_arg (j := 1) Cx hi (by omega) G hl dL_law_427 dL_law_428 dL_law_430 rfl dL_law_431 dL_law_432 ?_
  refine lm_I (As := [.int (xs (i + 1))]) Cx G hr k2 mX12_seat kL_40 rfl (by decide) hl.1 rfl (by simp [Value.category]) hcs dL_law_433 (fun H locs G => ?_)
  refine lv_icmp_eq (tgt := 1820) Cx.1.1 Cx.1.2.1 dL_law_436 (by decide) (fun _ => ?_) (fun h => absurd he h)
  refine W.widen (k := cells + 10) (n := slots + 83) (by omega) (by omega) ?_
  exact K _ _ _ _ hr2 G
set_option maxHeartbeats 4000000 in
set_option maxRecDepth 100000 in
theorem g_pair {p : Program} {l : Launch} {e : Env} {s : State} {m : MethodId} {below : List Frame} {meth : Method} {c : Code} {b L : Nat} {xs : Nat → Int32} {E : xE} {b1 b2 qo i : Nat} {fo : Nat → Int64} {wx wm : va_W} {H : Heap} {locs : List Loc} {ls : Array Slot} {cells slots : Nat} {Q : State → Prop} (Cx : lwC p s m meth c b L xs E) (hi : i + 6 ≤ L) (G : xG s E (fun q => s.heap.size ≤ q) (((w0 E qo fo) ++ wm) ++ wx) H locs) (hr : Rel E b1 b2 wx wm) (hl : lv_has ls 7 [(4, .int (iI (i : Nat))), (3, .ref qo), (2, .ref b2), (1, .ref b1), (0, .ref b)]) (hcs : cells ≤ room_1.cells ∧ slots ≤ room_1.slots) (K : ∀ (wx wm : va_W) (H : Heap) (locs : List Loc), Rel E b1 b2 wx wm → xG s E (fun q => s.heap.size ≤ q) (((w0 E qo fo) ++ wm) ++ wx) H locs → W p l e room_1 s m #[Value.ref b] below meth c H locs (cells + 10) (slots + 83) Q (F0 m 1820 ls [])) : W p l e room_1 s m #[Value.ref b] below meth c H locs cells slots Q (F0 m 441 ls []) := by
  obtain ⟨wx2, wm2, r, r2, k1, k2, he, hr2⟩ := s_pair (l := l) (l1 := (xs (i + 1))) (l2 := (xs (i + 2))) hr
  refine lv_aload_n Cx.1.1 Cx.1.2.1 dL_law_441 rfl (lv_at hl 3 rfl) ?_
  refine w_arg (j := 1) Cx hi (by omega) G hl dL_law_442 dL_law_443 dL_law_445 rfl dL_law_446 dL_law_447 ?_
  refine w_arg (j := 2) Cx hi (by omega) G hl dL_law_448 dL_law_449 dL_law_451 rfl dL_law_452 dL_law_453 ?_
  refine lx_I (As := [.int (xs (i + 1)), .int (xs (i + 2))]) Cx G hr k1 mX10_pair kL_41 rfl (by decide) hl.1 rfl (by simp) hcs dL_law_454 (fun H locs G => ?_)
  refine lv_aload_n Cx.1.1 Cx.1.2.1 dL_law_457 rfl (lv_at hl 2 rfl) ?_
  refine w_arg (j := 1) Cx hi (by omega) G hl dL_law_458 dL_law_459 dL_law_461 rfl dL_law_462 dL_law_463 ?_
  refine w_arg (j := 2) Cx hi (by omega) G hl dL_law_464 dL_law_465 dL_law_467 rfl dL_law_468 dL_law_469 ?_
  refine lm_I (As := [.int (xs (i + 1)), .int (xs (i + 2))]) Cx G hr k2 mX12_pair kL_45 rfl (by decide) hl.1 rfl (by simp [Value.category]) hcs dL_law_470 (fun H locs G => ?_)
  refine lv_icmp_eq (tgt := 1820) Cx.1.1 Cx.1.2.1 dL_law_473 (by decide) (fun _ => ?_) (fun h => absurd he h)
  refine W.widen (k := cells + 10) (n := slots + 83) (by omega) (by omega) ?_
  exact K _ _ _ _ hr2 G
set_option maxHeartbeats 4000000 in
set_option maxRecDepth 100000 in
theorem g_pairOf {p : Program} {l : Launch} {e : Env} {s : State} {m : MethodId} {below : List Frame} {meth : Method} {c : Code} {b L : Nat} {xs : Nat → Int32} {E : xE} {b1 b2 qo i : Nat} {fo : Nat → Int64} {wx wm : va_W} {H : Heap} {locs : List Loc} {ls : Array Slot} {cells slots : Nat} {Q : State → Prop} (Cx : lwC p s m meth c b L xs E) (hi : i + 6 ≤ L) (G : xG s E (fun q => s.heap.size ≤ q) (((w0 E qo fo) ++ wm) ++ wx) H locs) (hr : Rel E b1 b2 wx wm) (hl : lv_has ls 7 [(4, .int (iI (i : Nat))), (3, .ref qo), (2, .ref b2), (1, .ref b1), (0, .ref b)]) (hcs : cells ≤ room_1.cells ∧ slots ≤ room_1.slots) (K : ∀ (wx wm : va_W) (H : Heap) (locs : List Loc), Rel E b1 b2 wx wm → xG s E (fun q => s.heap.size ≤ q) (((w0 E qo fo) ++ wm) ++ wx) H locs → W p l e room_1 s m #[Value.ref b] below meth c H locs (cells + 10) (slots + 83) Q (F0 m 1820 ls [])) : W p l e room_1 s m #[Value.ref b] below meth c H locs cells slots Q (F0 m 478 ls []) := by
  obtain ⟨wx2, wm2, r, r2, k1, k2, he, hr2⟩ := s_pairOf (l := l) (l1 := (xs (i + 1))) (l2 := (xs (i + 2))) hr
  refine lv_aload_n Cx.1.1 Cx.1.2.1 dL_law_478 rfl (lv_at hl 3 rfl) ?_
  refine w_arg (j := 1) Cx hi (by omega) G hl dL_law_479 dL_law_480 dL_law_482 rfl dL_law_483 dL_law_484 ?_
  refine w_arg (j := 2) Cx hi (by omega) G hl dL_law_485 dL_law_486 dL_law_488 rfl dL_law_489 dL_law_490 ?_
  refine lx_I (As := [.int (xs (i + 1)), .int (xs (i + 2))]) Cx G hr k1 mX10_pairOf kL_46 rfl (by decide) hl.1 rfl (by simp) hcs dL_law_491 (fun H locs G => ?_)
  refine lv_aload_n Cx.1.1 Cx.1.2.1 dL_law_494 rfl (lv_at hl 2 rfl) ?_
  refine w_arg (j := 1) Cx hi (by omega) G hl dL_law_495 dL_law_496 dL_law_498 rfl dL_law_499 dL_law_500 ?_
  refine w_arg (j := 2) Cx hi (by omega) G hl dL_law_501 dL_law_502 dL_law_504 rfl dL_law_505 dL_law_506 ?_
  refine lm_I (As := [.int (xs (i + 1)), .int (xs (i + 2))]) Cx G hr k2 mX12_pairOf kL_49 rfl (by decide) hl.1 rfl (by simp [Value.category]) hcs dL_law_507 (fun H locs G => ?_)
  refine lv_icmp_eq (tgt := 1820) Cx.1.1 Cx.1.2.1 dL_law_510 (by decide) (fun _ => ?_) (fun h => absurd he h)
  refine W.widen (k := cells + 10) (n := slots + 83) (by omega) (by omega) ?_
  exact K _ _ _ _ hr2 G
set_option maxHeartbeats 4000000 in
set_option maxRecDepth 100000 in
theorem g_feeders {p : Program} {l : Launch} {e : Env} {s : State} {m : MethodId} {below : List Frame} {meth : Method} {c : Code} {b L : Nat} {xs : Nat → Int32} {E : xE} {b1 b2 qo i : Nat} {fo : Nat → Int64} {wx wm : va_W} {H : Heap} {locs : List Loc} {ls : Array Slot} {cells slots : Nat} {Q : State → Prop} (Cx : lwC p s m meth c b L xs E) (hi : i + 6 ≤ L) (G : xG s E (fun q => s.heap.size ≤ q) (((w0 E qo fo) ++ wm) ++ wx) H locs) (hr : Rel E b1 b2 wx wm) (hl : lv_has ls 7 [(4, .int (iI (i : Nat))), (3, .ref qo), (2, .ref b2), (1, .ref b1), (0, .ref b)]) (hcs : cells ≤ room_1.cells ∧ slots ≤ room_1.slots) (K : ∀ (wx wm : va_W) (H : Heap) (locs : List Loc), Rel E b1 b2 wx wm → xG s E (fun q => s.heap.size ≤ q) (((w0 E qo fo) ++ wm) ++ wx) H locs → W p l e room_1 s m #[Value.ref b] below meth c H locs (cells + 10) (slots + 83) Q (F0 m 1820 ls [])) : W p l e room_1 s m #[Value.ref b] below meth c H locs cells slots Q (F0 m 515 ls []) := by
  obtain ⟨wx2, wm2, r, r2, k1, k2, he, hr2⟩ := s_feeders (l := l) (l1 := (xs (i + 1))) hr
  refine lv_aload_n Cx.1.1 Cx.1.2.1 dL_law_515 rfl (lv_at hl 3 rfl) ?_
  refine w_arg (j := 1) Cx hi (by omega) G hl dL_law_516 dL_law_517 dL_law_519 rfl dL_law_520 dL_law_521 ?_
  refine lx_I (As := [.int (xs (i + 1))]) Cx G hr k1 mX10_feeders kL_50 rfl (by decide) hl.1 rfl (by simp) hcs dL_law_522 (fun H locs G => ?_)
  refine lv_aload_n Cx.1.1 Cx.1.2.1 dL_law_525 rfl (lv_at hl 2 rfl) ?_
  refine w_arg (j := 1) Cx hi (by omega) G hl dL_law_526 dL_law_527 dL_law_529 rfl dL_law_530 dL_law_531 ?_
  refine lm_I (As := [.int (xs (i + 1))]) Cx G hr k2 mX12_feeders kL_53 rfl (by decide) hl.1 rfl (by simp [Value.category]) hcs dL_law_532 (fun H locs G => ?_)
  refine lv_icmp_eq (tgt := 1820) Cx.1.1 Cx.1.2.1 dL_law_535 (by decide) (fun _ => ?_) (fun h => absurd he h)
  refine W.widen (k := cells + 10) (n := slots + 83) (by omega) (by omega) ?_
  exact K _ _ _ _ hr2 G
set_option maxHeartbeats 4000000 in
set_option maxRecDepth 100000 in
theorem g_forks {p : Program} {l : Launch} {e : Env} {s : State} {m : MethodId} {below : List Frame} {meth : Method} {c : Code} {b L : Nat} {xs : Nat → Int32} {E : xE} {b1 b2 qo i : Nat} {fo : Nat → Int64} {wx wm : va_W} {H : Heap} {locs : List Loc} {ls : Array Slot} {cells slots : Nat} {Q : State → Prop} (Cx : lwC p s m meth c b L xs E) (hi : i + 6 ≤ L) (G : xG s E (fun q => s.heap.size ≤ q) (((w0 E qo fo) ++ wm) ++ wx) H locs) (hr : Rel E b1 b2 wx wm) (hl : lv_has ls 7 [(4, .int (iI (i : Nat))), (3, .ref qo), (2, .ref b2), (1, .ref b1), (0, .ref b)]) (hcs : cells ≤ room_1.cells ∧ slots ≤ room_1.slots) (K : ∀ (wx wm : va_W) (H : Heap) (locs : List Loc), Rel E b1 b2 wx wm → xG s E (fun q => s.heap.size ≤ q) (((w0 E qo fo) ++ wm) ++ wx) H locs → W p l e room_1 s m #[Value.ref b] below meth c H locs (cells + 10) (slots + 83) Q (F0 m 1820 ls [])) : W p l e room_1 s m #[Value.ref b] below meth c H locs cells slots Q (F0 m 540 ls []) := by
  obtain ⟨wx2, wm2, r, r2, k1, k2, he, hr2⟩ := s_forks (l := l) (l1 := (xs (i + 1))) (l2 := (xs (i + 2))) hr
  refine lv_aload_n Cx.1.1 Cx.1.2.1 dL_law_540 rfl (lv_at hl 3 rfl) ?_
  refine w_arg (j := 1) Cx hi (by omega) G hl dL_law_541 dL_law_542 dL_law_544 rfl dL_law_545 dL_law_546 ?_
  refine w_arg (j := 2) Cx hi (by omega) G hl dL_law_547 dL_law_548 dL_law_550 rfl dL_law_551 dL_law_552 ?_
  refine lx_I (As := [.int (xs (i + 1)), .int (xs (i + 2))]) Cx G hr k1 mX10_forks kL_54 rfl (by decide) hl.1 rfl (by simp) hcs dL_law_553 (fun H locs G => ?_)
  refine lv_aload_n Cx.1.1 Cx.1.2.1 dL_law_556 rfl (lv_at hl 2 rfl) ?_
  refine w_arg (j := 1) Cx hi (by omega) G hl dL_law_557 dL_law_558 dL_law_560 rfl dL_law_561 dL_law_562 ?_
  refine w_arg (j := 2) Cx hi (by omega) G hl dL_law_563 dL_law_564 dL_law_566 rfl dL_law_567 dL_law_568 ?_
  refine lm_I (As := [.int (xs (i + 1)), .int (xs (i + 2))]) Cx G hr k2 mX12_forks kL_57 rfl (by decide) hl.1 rfl (by simp [Value.category]) hcs dL_law_569 (fun H locs G => ?_)
  refine lv_icmp_eq (tgt := 1820) Cx.1.1 Cx.1.2.1 dL_law_572 (by decide) (fun _ => ?_) (fun h => absurd he h)
  refine W.widen (k := cells + 10) (n := slots + 83) (by omega) (by omega) ?_
  exact K _ _ _ _ hr2 G
set_option maxHeartbeats 4000000 in
set_option maxRecDepth 100000 in
theorem g_fed {p : Program} {l : Launch} {e : Env} {s : State} {m : MethodId} {below : List Frame} {meth : Method} {c : Code} {b L : Nat} {xs : Nat → Int32} {E : xE} {b1 b2 qo i : Nat} {fo : Nat → Int64} {wx wm : va_W} {H : Heap} {locs : List Loc} {ls : Array Slot} {cells slots : Nat} {Q : State → Prop} (Cx : lwC p s m meth c b L xs E) (hi : i + 6 ≤ L) (G : xG s E (fun q => s.heap.size ≤ q) (((w0 E qo fo) ++ wm) ++ wx) H locs) (hr : Rel E b1 b2 wx wm) (hl : lv_has ls 7 [(4, .int (iI (i : Nat))), (3, .ref qo), (2, .ref b2), (1, .ref b1), (0, .ref b)]) (hcs : cells ≤ room_1.cells ∧ slots ≤ room_1.slots) (K : ∀ (wx wm : va_W) (H : Heap) (locs : List Loc), Rel E b1 b2 wx wm → xG s E (fun q => s.heap.size ≤ q) (((w0 E qo fo) ++ wm) ++ wx) H locs → W p l e room_1 s m #[Value.ref b] below meth c H locs (cells + 10) (slots + 83) Q (F0 m 1820 ls [])) : W p l e room_1 s m #[Value.ref b] below meth c H locs cells slots Q (F0 m 577 ls []) := by
  obtain ⟨wx2, wm2, r, r2, k1, k2, he, hr2⟩ := s_fed (l := l) hr
  refine lv_aload_n Cx.1.1 Cx.1.2.1 dL_law_577 rfl (lv_at hl 3 rfl) ?_
  refine lx_I (As := []) Cx G hr k1 mX10_fed kL_58 rfl (by decide) hl.1 rfl (by simp) hcs dL_law_578 (fun H locs G => ?_)
  refine lv_aload_n Cx.1.1 Cx.1.2.1 dL_law_581 rfl (lv_at hl 2 rfl) ?_
  refine lm_I (As := []) Cx G hr k2 mX12_fed kL_61 rfl (by decide) hl.1 rfl (by simp [Value.category]) hcs dL_law_582 (fun H locs G => ?_)
  refine lv_icmp_eq (tgt := 1820) Cx.1.1 Cx.1.2.1 dL_law_585 (by decide) (fun _ => ?_) (fun h => absurd he h)
  refine W.widen (k := cells + 10) (n := slots + 83) (by omega) (by omega) ?_
  exact K _ _ _ _ hr2 G
set_option maxHeartbeats 4000000 in
set_option maxRecDepth 100000 in
theorem g_match {p : Program} {l : Launch} {e : Env} {s : State} {m : MethodId} {below : List Frame} {meth : Method} {c : Code} {b L : Nat} {xs : Nat → Int32} {E : xE} {b1 b2 qo i : Nat} {fo : Nat → Int64} {wx wm : va_W} {H : Heap} {locs : List Loc} {ls : Array Slot} {cells slots : Nat} {Q : State → Prop} (Cx : lwC p s m meth c b L xs E) (hi : i + 6 ≤ L) (G : xG s E (fun q => s.heap.size ≤ q) (((w0 E qo fo) ++ wm) ++ wx) H locs) (hr : Rel E b1 b2 wx wm) (hl : lv_has ls 7 [(4, .int (iI (i : Nat))), (3, .ref qo), (2, .ref b2), (1, .ref b1), (0, .ref b)]) (hcs : cells ≤ room_1.cells ∧ slots ≤ room_1.slots) (K : ∀ (wx wm : va_W) (H : Heap) (locs : List Loc), Rel E b1 b2 wx wm → xG s E (fun q => s.heap.size ≤ q) (((w0 E qo fo) ++ wm) ++ wx) H locs → W p l e room_1 s m #[Value.ref b] below meth c H locs (cells + 10) (slots + 83) Q (F0 m 1820 ls [])) : W p l e room_1 s m #[Value.ref b] below meth c H locs cells slots Q (F0 m 590 ls []) := by
  obtain ⟨wx2, wm2, r, r2, k1, k2, he, hr2⟩ := s_match (l := l) hr
  refine lv_aload_n Cx.1.1 Cx.1.2.1 dL_law_590 rfl (lv_at hl 3 rfl) ?_
  refine lx_I (As := []) Cx G hr k1 mX10_match kL_62 rfl (by decide) hl.1 rfl (by simp) hcs dL_law_591 (fun H locs G => ?_)
  refine lv_aload_n Cx.1.1 Cx.1.2.1 dL_law_594 rfl (lv_at hl 2 rfl) ?_
  refine lm_I (As := []) Cx G hr k2 mX12_match kL_65 rfl (by decide) hl.1 rfl (by simp [Value.category]) hcs dL_law_595 (fun H locs G => ?_)
  refine lv_icmp_eq (tgt := 1820) Cx.1.1 Cx.1.2.1 dL_law_598 (by decide) (fun _ => ?_) (fun h => absurd he h)
  refine W.widen (k := cells + 10) (n := slots + 83) (by omega) (by omega) ?_
  exact K _ _ _ _ hr2 G
set_option maxHeartbeats 4000000 in
set_option maxRecDepth 100000 in
theorem g_slops {p : Program} {l : Launch} {e : Env} {s : State} {m : MethodId} {below : List Frame} {meth : Method} {c : Code} {b L : Nat} {xs : Nat → Int32} {E : xE} {b1 b2 qo i : Nat} {fo : Nat → Int64} {wx wm : va_W} {H : Heap} {locs : List Loc} {ls : Array Slot} {cells slots : Nat} {Q : State → Prop} (Cx : lwC p s m meth c b L xs E) (hi : i + 6 ≤ L) (G : xG s E (fun q => s.heap.size ≤ q) (((w0 E qo fo) ++ wm) ++ wx) H locs) (hr : Rel E b1 b2 wx wm) (hl : lv_has ls 7 [(4, .int (iI (i : Nat))), (3, .ref qo), (2, .ref b2), (1, .ref b1), (0, .ref b)]) (hcs : cells ≤ room_1.cells ∧ slots ≤ room_1.slots) (K : ∀ (wx wm : va_W) (H : Heap) (locs : List Loc), Rel E b1 b2 wx wm → xG s E (fun q => s.heap.size ≤ q) (((w0 E qo fo) ++ wm) ++ wx) H locs → W p l e room_1 s m #[Value.ref b] below meth c H locs (cells + 10) (slots + 83) Q (F0 m 1820 ls [])) : W p l e room_1 s m #[Value.ref b] below meth c H locs cells slots Q (F0 m 603 ls []) := by
  obtain ⟨wx2, wm2, r, r2, k1, k2, he, hr2⟩ := s_slops (l := l) hr
  refine lv_aload_n Cx.1.1 Cx.1.2.1 dL_law_603 rfl (lv_at hl 3 rfl) ?_
  refine lx_I (As := []) Cx G hr k1 mX10_slops kL_66 rfl (by decide) hl.1 rfl (by simp) hcs dL_law_604 (fun H locs G => ?_)
  refine lv_aload_n Cx.1.1 Cx.1.2.1 dL_law_607 rfl (lv_at hl 2 rfl) ?_
  refine lm_I (As := []) Cx G hr k2 mX12_slops kL_69 rfl (by decide) hl.1 rfl (by simp [Value.category]) hcs dL_law_608 (fun H locs G => ?_)
  refine lv_icmp_eq (tgt := 1820) Cx.1.1 Cx.1.2.1 dL_law_611 (by decide) (fun _ => ?_) (fun h => absurd he h)
  refine W.widen (k := cells + 10) (n := slots + 83) (by omega) (by omega) ?_
  exact K _ _ _ _ hr2 G
set_option maxHeartbeats 4000000 in
set_option maxRecDepth 100000 in
theorem g_mate {p : Program} {l : Launch} {e : Env} {s : State} {m : MethodId} {below : List Frame} {meth : Method} {c : Code} {b L : Nat} {xs : Nat → Int32} {E : xE} {b1 b2 qo i : Nat} {fo : Nat → Int64} {wx wm : va_W} {H : Heap} {locs : List Loc} {ls : Array Slot} {cells slots : Nat} {Q : State → Prop} (Cx : lwC p s m meth c b L xs E) (hi : i + 6 ≤ L) (G : xG s E (fun q => s.heap.size ≤ q) (((w0 E qo fo) ++ wm) ++ wx) H locs) (hr : Rel E b1 b2 wx wm) (hl : lv_has ls 7 [(4, .int (iI (i : Nat))), (3, .ref qo), (2, .ref b2), (1, .ref b1), (0, .ref b)]) (hcs : cells ≤ room_1.cells ∧ slots ≤ room_1.slots) (K : ∀ (wx wm : va_W) (H : Heap) (locs : List Loc), Rel E b1 b2 wx wm → xG s E (fun q => s.heap.size ≤ q) (((w0 E qo fo) ++ wm) ++ wx) H locs → W p l e room_1 s m #[Value.ref b] below meth c H locs (cells + 10) (slots + 83) Q (F0 m 1820 ls [])) : W p l e room_1 s m #[Value.ref b] below meth c H locs cells slots Q (F0 m 616 ls []) := by
  obtain ⟨wx2, wm2, r, r2, k1, k2, he, hr2⟩ := s_mate (l := l) (l1 := (xs (i + 1))) hr
  refine lv_aload_n Cx.1.1 Cx.1.2.1 dL_law_616 rfl (lv_at hl 3 rfl) ?_
  refine w_arg (j := 1) Cx hi (by omega) G hl dL_law_617 dL_law_618 dL_law_620 rfl dL_law_621 dL_law_622 ?_
  refine lx_I (As := [.int (xs (i + 1))]) Cx G hr k1 mX10_mate kL_70 rfl (by decide) hl.1 rfl (by simp) hcs dL_law_623 (fun H locs G => ?_)
  refine lv_aload_n Cx.1.1 Cx.1.2.1 dL_law_626 rfl (lv_at hl 2 rfl) ?_
  refine w_arg (j := 1) Cx hi (by omega) G hl dL_law_627 dL_law_628 dL_law_630 rfl dL_law_631 dL_law_632 ?_
  refine lm_I (As := [.int (xs (i + 1))]) Cx G hr k2 mX12_mate kL_73 rfl (by decide) hl.1 rfl (by simp [Value.category]) hcs dL_law_633 (fun H locs G => ?_)
  refine lv_icmp_eq (tgt := 1820) Cx.1.1 Cx.1.2.1 dL_law_636 (by decide) (fun _ => ?_) (fun h => absurd he h)
  refine W.widen (k := cells + 10) (n := slots + 83) (by omega) (by omega) ?_
  exact K _ _ _ _ hr2 G
set_option maxHeartbeats 4000000 in
set_option maxRecDepth 100000 in
theorem g_starving {p : Program} {l : Launch} {e : Env} {s : State} {m : MethodId} {below : List Frame} {meth : Method} {c : Code} {b L : Nat} {xs : Nat → Int32} {E : xE} {b1 b2 qo i : Nat} {fo : Nat → Int64} {wx wm : va_W} {H : Heap} {locs : List Loc} {ls : Array Slot} {cells slots : Nat} {Q : State → Prop} (Cx : lwC p s m meth c b L xs E) (hi : i + 6 ≤ L) (G : xG s E (fun q => s.heap.size ≤ q) (((w0 E qo fo) ++ wm) ++ wx) H locs) (hr : Rel E b1 b2 wx wm) (hl : lv_has ls 7 [(4, .int (iI (i : Nat))), (3, .ref qo), (2, .ref b2), (1, .ref b1), (0, .ref b)]) (hcs : cells ≤ room_1.cells ∧ slots ≤ room_1.slots) (K : ∀ (wx wm : va_W) (H : Heap) (locs : List Loc), Rel E b1 b2 wx wm → xG s E (fun q => s.heap.size ≤ q) (((w0 E qo fo) ++ wm) ++ wx) H locs → W p l e room_1 s m #[Value.ref b] below meth c H locs (cells + 10) (slots + 83) Q (F0 m 1820 ls [])) : W p l e room_1 s m #[Value.ref b] below meth c H locs cells slots Q (F0 m 641 ls []) := by
  obtain ⟨wx2, wm2, r, r2, k1, k2, he, hr2⟩ := s_starving (l := l) hr
  refine lv_aload_n Cx.1.1 Cx.1.2.1 dL_law_641 rfl (lv_at hl 3 rfl) ?_
  refine lx_I (As := []) Cx G hr k1 mX10_starving kL_74 rfl (by decide) hl.1 rfl (by simp) hcs dL_law_642 (fun H locs G => ?_)
  refine lv_aload_n Cx.1.1 Cx.1.2.1 dL_law_645 rfl (lv_at hl 2 rfl) ?_
  refine lm_I (As := []) Cx G hr k2 mX12_starving kL_77 rfl (by decide) hl.1 rfl (by simp [Value.category]) hcs dL_law_646 (fun H locs G => ?_)
  refine lv_icmp_eq (tgt := 1820) Cx.1.1 Cx.1.2.1 dL_law_649 (by decide) (fun _ => ?_) (fun h => absurd he h)
  refine W.widen (k := cells + 10) (n := slots + 83) (by omega) (by omega) ?_
  exact K _ _ _ _ hr2 G
set_option maxHeartbeats 4000000 in
set_option maxRecDepth 100000 in
theorem g_matches {p : Program} {l : Launch} {e : Env} {s : State} {m : MethodId} {below : List Frame} {meth : Method} {c : Code} {b L : Nat} {xs : Nat → Int32} {E : xE} {b1 b2 qo i : Nat} {fo : Nat → Int64} {wx wm : va_W} {H : Heap} {locs : List Loc} {ls : Array Slot} {cells slots : Nat} {Q : State → Prop} (Cx : lwC p s m meth c b L xs E) (hi : i + 6 ≤ L) (G : xG s E (fun q => s.heap.size ≤ q) (((w0 E qo fo) ++ wm) ++ wx) H locs) (hr : Rel E b1 b2 wx wm) (hl : lv_has ls 7 [(4, .int (iI (i : Nat))), (3, .ref qo), (2, .ref b2), (1, .ref b1), (0, .ref b)]) (hcs : cells ≤ room_1.cells ∧ slots ≤ room_1.slots) (K : ∀ (wx wm : va_W) (H : Heap) (locs : List Loc), Rel E b1 b2 wx wm → xG s E (fun q => s.heap.size ≤ q) (((w0 E qo fo) ++ wm) ++ wx) H locs → W p l e room_1 s m #[Value.ref b] below meth c H locs (cells + 10) (slots + 83) Q (F0 m 1820 ls [])) : W p l e room_1 s m #[Value.ref b] below meth c H locs cells slots Q (F0 m 654 ls []) := by
  obtain ⟨wx2, wm2, r, r2, k1, k2, he, hr2⟩ := s_matches (l := l) hr
  refine lv_aload_n Cx.1.1 Cx.1.2.1 dL_law_654 rfl (lv_at hl 3 rfl) ?_
  refine lx_I (As := []) Cx G hr k1 mX10_matches kL_78 rfl (by decide) hl.1 rfl (by simp) hcs dL_law_655 (fun H locs G => ?_)
  refine lv_aload_n Cx.1.1 Cx.1.2.1 dL_law_658 rfl (lv_at hl 2 rfl) ?_
  refine lm_I (As := []) Cx G hr k2 mX12_matches kL_81 rfl (by decide) hl.1 rfl (by simp [Value.category]) hcs dL_law_659 (fun H locs G => ?_)
  refine lv_icmp_eq (tgt := 1820) Cx.1.1 Cx.1.2.1 dL_law_662 (by decide) (fun _ => ?_) (fun h => absurd he h)
  refine W.widen (k := cells + 10) (n := slots + 83) (by omega) (by omega) ?_
  exact K _ _ _ _ hr2 G
set_option maxHeartbeats 4000000 in
set_option maxRecDepth 100000 in
theorem g_handleIn {p : Program} {l : Launch} {e : Env} {s : State} {m : MethodId} {below : List Frame} {meth : Method} {c : Code} {b L : Nat} {xs : Nat → Int32} {E : xE} {b1 b2 qo i : Nat} {fo : Nat → Int64} {wx wm : va_W} {H : Heap} {locs : List Loc} {ls : Array Slot} {cells slots : Nat} {Q : State → Prop} (Cx : lwC p s m meth c b L xs E) (hi : i + 6 ≤ L) (G : xG s E (fun q => s.heap.size ≤ q) (((w0 E qo fo) ++ wm) ++ wx) H locs) (hr : Rel E b1 b2 wx wm) (hl : lv_has ls 7 [(4, .int (iI (i : Nat))), (3, .ref qo), (2, .ref b2), (1, .ref b1), (0, .ref b)]) (hcs : cells ≤ room_1.cells ∧ slots ≤ room_1.slots) (K : ∀ (wx wm : va_W) (H : Heap) (locs : List Loc), Rel E b1 b2 wx wm → xG s E (fun q => s.heap.size ≤ q) (((w0 E qo fo) ++ wm) ++ wx) H locs → W p l e room_1 s m #[Value.ref b] below meth c H locs (cells + 10) (slots + 83) Q (F0 m 1820 ls [])) : W p l e room_1 s m #[Value.ref b] below meth c H locs cells slots Q (F0 m 667 ls []) := by
  obtain ⟨wx2, wm2, r, r2, k1, k2, he, hr2⟩ := s_handleIn (l := l) (l1 := (xs (i + 1))) (l2 := (xs (i + 2))) hr
  refine lv_aload_n Cx.1.1 Cx.1.2.1 dL_law_667 rfl (lv_at hl 3 rfl) ?_
  refine w_arg (j := 1) Cx hi (by omega) G hl dL_law_668 dL_law_669 dL_law_671 rfl dL_law_672 dL_law_673 ?_
  refine w_arg (j := 2) Cx hi (by omega) G hl dL_law_674 dL_law_675 dL_law_677 rfl dL_law_678 dL_law_679 ?_
  refine lx_I (As := [.int (xs (i + 1)), .int (xs (i + 2))]) Cx G hr k1 mX10_handleIn kL_82 rfl (by decide) hl.1 rfl (by simp) hcs dL_law_680 (fun H locs G => ?_)
  refine lv_aload_n Cx.1.1 Cx.1.2.1 dL_law_683 rfl (lv_at hl 2 rfl) ?_
  refine w_arg (j := 1) Cx hi (by omega) G hl dL_law_684 dL_law_685 dL_law_687 rfl dL_law_688 dL_law_689 ?_
  refine w_arg (j := 2) Cx hi (by omega) G hl dL_law_690 dL_law_691 dL_law_693 rfl dL_law_694 dL_law_695 ?_
  refine lm_I (As := [.int (xs (i + 1)), .int (xs (i + 2))]) Cx G hr k2 mX12_handleIn kL_85 rfl (by decide) hl.1 rfl (by simp [Value.category]) hcs dL_law_696 (fun H locs G => ?_)
  refine lv_icmp_eq (tgt := 1820) Cx.1.1 Cx.1.2.1 dL_law_699 (by decide) (fun _ => ?_) (fun h => absurd he h)
  refine W.widen (k := cells + 10) (n := slots + 83) (by omega) (by omega) ?_
  exact K _ _ _ _ hr2 G
set_option maxHeartbeats 4000000 in
set_option maxRecDepth 100000 in
theorem g_feedsIn {p : Program} {l : Launch} {e : Env} {s : State} {m : MethodId} {below : List Frame} {meth : Method} {c : Code} {b L : Nat} {xs : Nat → Int32} {E : xE} {b1 b2 qo i : Nat} {fo : Nat → Int64} {wx wm : va_W} {H : Heap} {locs : List Loc} {ls : Array Slot} {cells slots : Nat} {Q : State → Prop} (Cx : lwC p s m meth c b L xs E) (hi : i + 6 ≤ L) (G : xG s E (fun q => s.heap.size ≤ q) (((w0 E qo fo) ++ wm) ++ wx) H locs) (hr : Rel E b1 b2 wx wm) (hl : lv_has ls 7 [(4, .int (iI (i : Nat))), (3, .ref qo), (2, .ref b2), (1, .ref b1), (0, .ref b)]) (hcs : cells ≤ room_1.cells ∧ slots ≤ room_1.slots) (K : ∀ (wx wm : va_W) (H : Heap) (locs : List Loc), Rel E b1 b2 wx wm → xG s E (fun q => s.heap.size ≤ q) (((w0 E qo fo) ++ wm) ++ wx) H locs → W p l e room_1 s m #[Value.ref b] below meth c H locs (cells + 10) (slots + 83) Q (F0 m 1820 ls [])) : W p l e room_1 s m #[Value.ref b] below meth c H locs cells slots Q (F0 m 704 ls []) := by
  obtain ⟨wx2, wm2, r, r2, k1, k2, he, hr2⟩ := s_feedsIn (l := l) (l1 := (xs (i + 1))) hr
  refine lv_aload_n Cx.1.1 Cx.1.2.1 dL_law_704 rfl (lv_at hl 3 rfl) ?_
  refine w_arg (j := 1) Cx hi (by omega) G hl dL_law_705 dL_law_706 dL_law_708 rfl dL_law_709 dL_law_710 ?_
  refine lx_I (As := [.int (xs (i + 1))]) Cx G hr k1 mX10_feedsIn kL_86 rfl (by decide) hl.1 rfl (by simp) hcs dL_law_711 (fun H locs G => ?_)
  refine lv_aload_n Cx.1.1 Cx.1.2.1 dL_law_714 rfl (lv_at hl 2 rfl) ?_
  refine w_arg (j := 1) Cx hi (by omega) G hl dL_law_715 dL_law_716 dL_law_718 rfl dL_law_719 dL_law_720 ?_
  refine lm_I (As := [.int (xs (i + 1))]) Cx G hr k2 mX12_feedsIn kL_89 rfl (by decide) hl.1 rfl (by simp [Value.category]) hcs dL_law_721 (fun H locs G => ?_)
  refine lv_icmp_eq (tgt := 1820) Cx.1.1 Cx.1.2.1 dL_law_724 (by decide) (fun _ => ?_) (fun h => absurd he h)
  refine W.widen (k := cells + 10) (n := slots + 83) (by omega) (by omega) ?_
  exact K _ _ _ _ hr2 G
set_option maxHeartbeats 4000000 in
set_option maxRecDepth 100000 in
theorem g_feedsOften {p : Program} {l : Launch} {e : Env} {s : State} {m : MethodId} {below : List Frame} {meth : Method} {c : Code} {b L : Nat} {xs : Nat → Int32} {E : xE} {b1 b2 qo i : Nat} {fo : Nat → Int64} {wx wm : va_W} {H : Heap} {locs : List Loc} {ls : Array Slot} {cells slots : Nat} {Q : State → Prop} (Cx : lwC p s m meth c b L xs E) (hi : i + 6 ≤ L) (G : xG s E (fun q => s.heap.size ≤ q) (((w0 E qo fo) ++ wm) ++ wx) H locs) (hr : Rel E b1 b2 wx wm) (hl : lv_has ls 7 [(4, .int (iI (i : Nat))), (3, .ref qo), (2, .ref b2), (1, .ref b1), (0, .ref b)]) (hcs : cells ≤ room_1.cells ∧ slots ≤ room_1.slots) (K : ∀ (wx wm : va_W) (H : Heap) (locs : List Loc), Rel E b1 b2 wx wm → xG s E (fun q => s.heap.size ≤ q) (((w0 E qo fo) ++ wm) ++ wx) H locs → W p l e room_1 s m #[Value.ref b] below meth c H locs (cells + 10) (slots + 83) Q (F0 m 1820 ls [])) : W p l e room_1 s m #[Value.ref b] below meth c H locs cells slots Q (F0 m 729 ls []) := by
  obtain ⟨wx2, wm2, r, r2, k1, k2, he, hr2⟩ := s_feedsOften (l := l) (l1 := (xs (i + 1))) hr
  refine lv_aload_n Cx.1.1 Cx.1.2.1 dL_law_729 rfl (lv_at hl 3 rfl) ?_
  refine w_arg (j := 1) Cx hi (by omega) G hl dL_law_730 dL_law_731 dL_law_733 rfl dL_law_734 dL_law_735 ?_
  refine lx_I (As := [.int (xs (i + 1))]) Cx G hr k1 mX10_feedsOften kL_90 rfl (by decide) hl.1 rfl (by simp) hcs dL_law_736 (fun H locs G => ?_)
  refine lv_aload_n Cx.1.1 Cx.1.2.1 dL_law_739 rfl (lv_at hl 2 rfl) ?_
  refine w_arg (j := 1) Cx hi (by omega) G hl dL_law_740 dL_law_741 dL_law_743 rfl dL_law_744 dL_law_745 ?_
  refine lm_I (As := [.int (xs (i + 1))]) Cx G hr k2 mX12_feedsOften kL_93 rfl (by decide) hl.1 rfl (by simp [Value.category]) hcs dL_law_746 (fun H locs G => ?_)
  refine lv_icmp_eq (tgt := 1820) Cx.1.1 Cx.1.2.1 dL_law_749 (by decide) (fun _ => ?_) (fun h => absurd he h)
  refine W.widen (k := cells + 10) (n := slots + 83) (by omega) (by omega) ?_
  exact K _ _ _ _ hr2 G
set_option maxHeartbeats 4000000 in
set_option maxRecDepth 100000 in
theorem g_fedIn {p : Program} {l : Launch} {e : Env} {s : State} {m : MethodId} {below : List Frame} {meth : Method} {c : Code} {b L : Nat} {xs : Nat → Int32} {E : xE} {b1 b2 qo i : Nat} {fo : Nat → Int64} {wx wm : va_W} {H : Heap} {locs : List Loc} {ls : Array Slot} {cells slots : Nat} {Q : State → Prop} (Cx : lwC p s m meth c b L xs E) (hi : i + 6 ≤ L) (G : xG s E (fun q => s.heap.size ≤ q) (((w0 E qo fo) ++ wm) ++ wx) H locs) (hr : Rel E b1 b2 wx wm) (hl : lv_has ls 7 [(4, .int (iI (i : Nat))), (3, .ref qo), (2, .ref b2), (1, .ref b1), (0, .ref b)]) (hcs : cells ≤ room_1.cells ∧ slots ≤ room_1.slots) (K : ∀ (wx wm : va_W) (H : Heap) (locs : List Loc), Rel E b1 b2 wx wm → xG s E (fun q => s.heap.size ≤ q) (((w0 E qo fo) ++ wm) ++ wx) H locs → W p l e room_1 s m #[Value.ref b] below meth c H locs (cells + 10) (slots + 83) Q (F0 m 1820 ls [])) : W p l e room_1 s m #[Value.ref b] below meth c H locs cells slots Q (F0 m 754 ls []) := by
  obtain ⟨wx2, wm2, r, r2, k1, k2, he, hr2⟩ := s_fedIn (l := l) (l1 := (xs (i + 1))) hr
  refine lv_aload_n Cx.1.1 Cx.1.2.1 dL_law_754 rfl (lv_at hl 3 rfl) ?_
  refine w_arg (j := 1) Cx hi (by omega) G hl dL_law_755 dL_law_756 dL_law_758 rfl dL_law_759 dL_law_760 ?_
  refine lx_I (As := [.int (xs (i + 1))]) Cx G hr k1 mX10_fedIn kL_94 rfl (by decide) hl.1 rfl (by simp) hcs dL_law_761 (fun H locs G => ?_)
  refine lv_aload_n Cx.1.1 Cx.1.2.1 dL_law_764 rfl (lv_at hl 2 rfl) ?_
  refine w_arg (j := 1) Cx hi (by omega) G hl dL_law_765 dL_law_766 dL_law_768 rfl dL_law_769 dL_law_770 ?_
  refine lm_I (As := [.int (xs (i + 1))]) Cx G hr k2 mX12_fedIn kL_97 rfl (by decide) hl.1 rfl (by simp [Value.category]) hcs dL_law_771 (fun H locs G => ?_)
  refine lv_icmp_eq (tgt := 1820) Cx.1.1 Cx.1.2.1 dL_law_774 (by decide) (fun _ => ?_) (fun h => absurd he h)
  refine W.widen (k := cells + 10) (n := slots + 83) (by omega) (by omega) ?_
  exact K _ _ _ _ hr2 G
set_option maxHeartbeats 4000000 in
set_option maxRecDepth 100000 in
theorem g_bestYear {p : Program} {l : Launch} {e : Env} {s : State} {m : MethodId} {below : List Frame} {meth : Method} {c : Code} {b L : Nat} {xs : Nat → Int32} {E : xE} {b1 b2 qo i : Nat} {fo : Nat → Int64} {wx wm : va_W} {H : Heap} {locs : List Loc} {ls : Array Slot} {cells slots : Nat} {Q : State → Prop} (Cx : lwC p s m meth c b L xs E) (hi : i + 6 ≤ L) (G : xG s E (fun q => s.heap.size ≤ q) (((w0 E qo fo) ++ wm) ++ wx) H locs) (hr : Rel E b1 b2 wx wm) (hl : lv_has ls 7 [(4, .int (iI (i : Nat))), (3, .ref qo), (2, .ref b2), (1, .ref b1), (0, .ref b)]) (hcs : cells ≤ room_1.cells ∧ slots ≤ room_1.slots) (K : ∀ (wx wm : va_W) (H : Heap) (locs : List Loc), Rel E b1 b2 wx wm → xG s E (fun q => s.heap.size ≤ q) (((w0 E qo fo) ++ wm) ++ wx) H locs → W p l e room_1 s m #[Value.ref b] below meth c H locs (cells + 10) (slots + 83) Q (F0 m 1820 ls [])) : W p l e room_1 s m #[Value.ref b] below meth c H locs cells slots Q (F0 m 779 ls []) := by
  obtain ⟨wx2, wm2, r, r2, k1, k2, he, hr2⟩ := s_bestYear (l := l) hr
  refine lv_aload_n Cx.1.1 Cx.1.2.1 dL_law_779 rfl (lv_at hl 3 rfl) ?_
  refine lx_I (As := []) Cx G hr k1 mX10_bestYear kL_98 rfl (by decide) hl.1 rfl (by simp) hcs dL_law_780 (fun H locs G => ?_)
  refine lv_aload_n Cx.1.1 Cx.1.2.1 dL_law_783 rfl (lv_at hl 2 rfl) ?_
  refine lm_I (As := []) Cx G hr k2 mX12_bestYear kL_101 rfl (by decide) hl.1 rfl (by simp [Value.category]) hcs dL_law_784 (fun H locs G => ?_)
  refine lv_icmp_eq (tgt := 1820) Cx.1.1 Cx.1.2.1 dL_law_787 (by decide) (fun _ => ?_) (fun h => absurd he h)
  refine W.widen (k := cells + 10) (n := slots + 83) (by omega) (by omega) ?_
  exact K _ _ _ _ hr2 G
set_option maxHeartbeats 4000000 in
set_option maxRecDepth 100000 in
theorem g_allIn {p : Program} {l : Launch} {e : Env} {s : State} {m : MethodId} {below : List Frame} {meth : Method} {c : Code} {b L : Nat} {xs : Nat → Int32} {E : xE} {b1 b2 qo i : Nat} {fo : Nat → Int64} {wx wm : va_W} {H : Heap} {locs : List Loc} {ls : Array Slot} {cells slots : Nat} {Q : State → Prop} (Cx : lwC p s m meth c b L xs E) (hi : i + 6 ≤ L) (G : xG s E (fun q => s.heap.size ≤ q) (((w0 E qo fo) ++ wm) ++ wx) H locs) (hr : Rel E b1 b2 wx wm) (hl : lv_has ls 7 [(4, .int (iI (i : Nat))), (3, .ref qo), (2, .ref b2), (1, .ref b1), (0, .ref b)]) (hcs : cells ≤ room_1.cells ∧ slots ≤ room_1.slots) (K : ∀ (wx wm : va_W) (H : Heap) (locs : List Loc), Rel E b1 b2 wx wm → xG s E (fun q => s.heap.size ≤ q) (((w0 E qo fo) ++ wm) ++ wx) H locs → W p l e room_1 s m #[Value.ref b] below meth c H locs (cells + 10) (slots + 83) Q (F0 m 1820 ls [])) : W p l e room_1 s m #[Value.ref b] below meth c H locs cells slots Q (F0 m 792 ls []) := by
  obtain ⟨wx2, wm2, r, r2, k1, k2, he, hr2⟩ := s_allIn (l := l) hr
  refine lv_aload_n Cx.1.1 Cx.1.2.1 dL_law_792 rfl (lv_at hl 3 rfl) ?_
  refine lx_I (As := []) Cx G hr k1 mX10_allIn kL_102 rfl (by decide) hl.1 rfl (by simp) hcs dL_law_793 (fun H locs G => ?_)
  refine lv_aload_n Cx.1.1 Cx.1.2.1 dL_law_796 rfl (lv_at hl 2 rfl) ?_
  refine lm_I (As := []) Cx G hr k2 mX12_allIn kL_105 rfl (by decide) hl.1 rfl (by simp [Value.category]) hcs dL_law_797 (fun H locs G => ?_)
  refine lv_icmp_eq (tgt := 1820) Cx.1.1 Cx.1.2.1 dL_law_800 (by decide) (fun _ => ?_) (fun h => absurd he h)
  refine W.widen (k := cells + 10) (n := slots + 83) (by omega) (by omega) ?_
  exact K _ _ _ _ hr2 G
set_option maxHeartbeats 4000000 in
set_option maxRecDepth 100000 in
theorem g_seating {p : Program} {l : Launch} {e : Env} {s : State} {m : MethodId} {below : List Frame} {meth : Method} {c : Code} {b L : Nat} {xs : Nat → Int32} {E : xE} {b1 b2 qo i : Nat} {fo : Nat → Int64} {wx wm : va_W} {H : Heap} {locs : List Loc} {ls : Array Slot} {cells slots : Nat} {Q : State → Prop} (Cx : lwC p s m meth c b L xs E) (hi : i + 6 ≤ L) (G : xG s E (fun q => s.heap.size ≤ q) (((w0 E qo fo) ++ wm) ++ wx) H locs) (hr : Rel E b1 b2 wx wm) (hl : lv_has ls 7 [(4, .int (iI (i : Nat))), (3, .ref qo), (2, .ref b2), (1, .ref b1), (0, .ref b)]) (hcs : cells ≤ room_1.cells ∧ slots ≤ room_1.slots) (K : ∀ (wx wm : va_W) (H : Heap) (locs : List Loc), Rel E b1 b2 wx wm → xG s E (fun q => s.heap.size ≤ q) (((w0 E qo fo) ++ wm) ++ wx) H locs → W p l e room_1 s m #[Value.ref b] below meth c H locs (cells + 10) (slots + 83) Q (F0 m 1820 ls [])) : W p l e room_1 s m #[Value.ref b] below meth c H locs cells slots Q (F0 m 805 ls []) := by
  obtain ⟨wx2, wm2, r, r2, k1, k2, he, hr2⟩ := s_seating (l := l) hr
  refine lv_aload_n Cx.1.1 Cx.1.2.1 dL_law_805 rfl (lv_at hl 3 rfl) ?_
  refine lx_I (As := []) Cx G hr k1 mX10_seating kL_106 rfl (by decide) hl.1 rfl (by simp) hcs dL_law_806 (fun H locs G => ?_)
  refine lv_aload_n Cx.1.1 Cx.1.2.1 dL_law_809 rfl (lv_at hl 2 rfl) ?_
  refine lm_I (As := []) Cx G hr k2 mX12_seating kL_109 rfl (by decide) hl.1 rfl (by simp [Value.category]) hcs dL_law_810 (fun H locs G => ?_)
  refine lv_icmp_eq (tgt := 1820) Cx.1.1 Cx.1.2.1 dL_law_813 (by decide) (fun _ => ?_) (fun h => absurd he h)
  refine W.widen (k := cells + 10) (n := slots + 83) (by omega) (by omega) ?_
  exact K _ _ _ _ hr2 G
set_option maxHeartbeats 4000000 in
set_option maxRecDepth 100000 in
theorem g_seatAt {p : Program} {l : Launch} {e : Env} {s : State} {m : MethodId} {below : List Frame} {meth : Method} {c : Code} {b L : Nat} {xs : Nat → Int32} {E : xE} {b1 b2 qo i : Nat} {fo : Nat → Int64} {wx wm : va_W} {H : Heap} {locs : List Loc} {ls : Array Slot} {cells slots : Nat} {Q : State → Prop} (Cx : lwC p s m meth c b L xs E) (hi : i + 6 ≤ L) (G : xG s E (fun q => s.heap.size ≤ q) (((w0 E qo fo) ++ wm) ++ wx) H locs) (hr : Rel E b1 b2 wx wm) (hl : lv_has ls 7 [(4, .int (iI (i : Nat))), (3, .ref qo), (2, .ref b2), (1, .ref b1), (0, .ref b)]) (hcs : cells ≤ room_1.cells ∧ slots ≤ room_1.slots) (K : ∀ (wx wm : va_W) (H : Heap) (locs : List Loc), Rel E b1 b2 wx wm → xG s E (fun q => s.heap.size ≤ q) (((w0 E qo fo) ++ wm) ++ wx) H locs → W p l e room_1 s m #[Value.ref b] below meth c H locs (cells + 10) (slots + 83) Q (F0 m 1820 ls [])) : W p l e room_1 s m #[Value.ref b] below meth c H locs cells slots Q (F0 m 818 ls []) := by
  obtain ⟨wx2, wm2, r, r2, k1, k2, he, hr2⟩ := s_seatAt (l := l) (l1 := (xs (i + 1))) hr
  refine lv_aload_n Cx.1.1 Cx.1.2.1 dL_law_818 rfl (lv_at hl 3 rfl) ?_
  refine w_arg (j := 1) Cx hi (by omega) G hl dL_law_819 dL_law_820 dL_law_822 rfl dL_law_823 dL_law_824 ?_
  refine lx_I (As := [.int (xs (i + 1))]) Cx G hr k1 mX10_seatAt kL_110 rfl (by decide) hl.1 rfl (by simp) hcs dL_law_825 (fun H locs G => ?_)
  refine lv_aload_n Cx.1.1 Cx.1.2.1 dL_law_828 rfl (lv_at hl 2 rfl) ?_
  refine w_arg (j := 1) Cx hi (by omega) G hl dL_law_829 dL_law_830 dL_law_832 rfl dL_law_833 dL_law_834 ?_
  refine lm_I (As := [.int (xs (i + 1))]) Cx G hr k2 mX12_seatAt kL_113 rfl (by decide) hl.1 rfl (by simp [Value.category]) hcs dL_law_835 (fun H locs G => ?_)
  refine lv_icmp_eq (tgt := 1820) Cx.1.1 Cx.1.2.1 dL_law_838 (by decide) (fun _ => ?_) (fun h => absurd he h)
  refine W.widen (k := cells + 10) (n := slots + 83) (by omega) (by omega) ?_
  exact K _ _ _ _ hr2 G
set_option maxHeartbeats 4000000 in
set_option maxRecDepth 100000 in
theorem g_seatSlops {p : Program} {l : Launch} {e : Env} {s : State} {m : MethodId} {below : List Frame} {meth : Method} {c : Code} {b L : Nat} {xs : Nat → Int32} {E : xE} {b1 b2 qo i : Nat} {fo : Nat → Int64} {wx wm : va_W} {H : Heap} {locs : List Loc} {ls : Array Slot} {cells slots : Nat} {Q : State → Prop} (Cx : lwC p s m meth c b L xs E) (hi : i + 6 ≤ L) (G : xG s E (fun q => s.heap.size ≤ q) (((w0 E qo fo) ++ wm) ++ wx) H locs) (hr : Rel E b1 b2 wx wm) (hl : lv_has ls 7 [(4, .int (iI (i : Nat))), (3, .ref qo), (2, .ref b2), (1, .ref b1), (0, .ref b)]) (hcs : cells ≤ room_1.cells ∧ slots ≤ room_1.slots) (K : ∀ (wx wm : va_W) (H : Heap) (locs : List Loc), Rel E b1 b2 wx wm → xG s E (fun q => s.heap.size ≤ q) (((w0 E qo fo) ++ wm) ++ wx) H locs → W p l e room_1 s m #[Value.ref b] below meth c H locs (cells + 10) (slots + 83) Q (F0 m 1820 ls [])) : W p l e room_1 s m #[Value.ref b] below meth c H locs cells slots Q (F0 m 843 ls []) := by
  obtain ⟨wx2, wm2, r, r2, k1, k2, he, hr2⟩ := s_seatSlops (l := l) hr
  refine lv_aload_n Cx.1.1 Cx.1.2.1 dL_law_843 rfl (lv_at hl 3 rfl) ?_
  refine lx_I (As := []) Cx G hr k1 mX10_seatSlops kL_114 rfl (by decide) hl.1 rfl (by simp) hcs dL_law_844 (fun H locs G => ?_)
  refine lv_aload_n Cx.1.1 Cx.1.2.1 dL_law_847 rfl (lv_at hl 2 rfl) ?_
  refine lm_I (As := []) Cx G hr k2 mX12_seatSlops kL_117 rfl (by decide) hl.1 rfl (by simp [Value.category]) hcs dL_law_848 (fun H locs G => ?_)
  refine lv_icmp_eq (tgt := 1820) Cx.1.1 Cx.1.2.1 dL_law_851 (by decide) (fun _ => ?_) (fun h => absurd he h)
  refine W.widen (k := cells + 10) (n := slots + 83) (by omega) (by omega) ?_
  exact K _ _ _ _ hr2 G
set_option maxHeartbeats 4000000 in
set_option maxRecDepth 100000 in
theorem g_swapped {p : Program} {l : Launch} {e : Env} {s : State} {m : MethodId} {below : List Frame} {meth : Method} {c : Code} {b L : Nat} {xs : Nat → Int32} {E : xE} {b1 b2 qo i : Nat} {fo : Nat → Int64} {wx wm : va_W} {H : Heap} {locs : List Loc} {ls : Array Slot} {cells slots : Nat} {Q : State → Prop} (Cx : lwC p s m meth c b L xs E) (hi : i + 6 ≤ L) (G : xG s E (fun q => s.heap.size ≤ q) (((w0 E qo fo) ++ wm) ++ wx) H locs) (hr : Rel E b1 b2 wx wm) (hl : lv_has ls 7 [(4, .int (iI (i : Nat))), (3, .ref qo), (2, .ref b2), (1, .ref b1), (0, .ref b)]) (hcs : cells ≤ room_1.cells ∧ slots ≤ room_1.slots) (K : ∀ (wx wm : va_W) (H : Heap) (locs : List Loc), Rel E b1 b2 wx wm → xG s E (fun q => s.heap.size ≤ q) (((w0 E qo fo) ++ wm) ++ wx) H locs → W p l e room_1 s m #[Value.ref b] below meth c H locs (cells + 10) (slots + 83) Q (F0 m 1820 ls [])) : W p l e room_1 s m #[Value.ref b] below meth c H locs cells slots Q (F0 m 856 ls []) := by
  obtain ⟨wx2, wm2, r, r2, k1, k2, he, hr2⟩ := s_swapped (l := l) (l1 := (xs (i + 1))) (l2 := (xs (i + 2))) hr
  refine lv_aload_n Cx.1.1 Cx.1.2.1 dL_law_856 rfl (lv_at hl 3 rfl) ?_
  refine w_arg (j := 1) Cx hi (by omega) G hl dL_law_857 dL_law_858 dL_law_860 rfl dL_law_861 dL_law_862 ?_
  refine w_arg (j := 2) Cx hi (by omega) G hl dL_law_863 dL_law_864 dL_law_866 rfl dL_law_867 dL_law_868 ?_
  refine lx_I (As := [.int (xs (i + 1)), .int (xs (i + 2))]) Cx G hr k1 mX10_swapped kL_118 rfl (by decide) hl.1 rfl (by simp) hcs dL_law_869 (fun H locs G => ?_)
  refine lv_aload_n Cx.1.1 Cx.1.2.1 dL_law_872 rfl (lv_at hl 2 rfl) ?_
  refine w_arg (j := 1) Cx hi (by omega) G hl dL_law_873 dL_law_874 dL_law_876 rfl dL_law_877 dL_law_878 ?_
  refine w_arg (j := 2) Cx hi (by omega) G hl dL_law_879 dL_law_880 dL_law_882 rfl dL_law_883 dL_law_884 ?_
  refine lm_I (As := [.int (xs (i + 1)), .int (xs (i + 2))]) Cx G hr k2 mX12_swapped kL_121 rfl (by decide) hl.1 rfl (by simp [Value.category]) hcs dL_law_885 (fun H locs G => ?_)
  refine lv_icmp_eq (tgt := 1820) Cx.1.1 Cx.1.2.1 dL_law_888 (by decide) (fun _ => ?_) (fun h => absurd he h)
  refine W.widen (k := cells + 10) (n := slots + 83) (by omega) (by omega) ?_
  exact K _ _ _ _ hr2 G
set_option maxHeartbeats 4000000 in
set_option maxRecDepth 100000 in
theorem g_bestSwap {p : Program} {l : Launch} {e : Env} {s : State} {m : MethodId} {below : List Frame} {meth : Method} {c : Code} {b L : Nat} {xs : Nat → Int32} {E : xE} {b1 b2 qo i : Nat} {fo : Nat → Int64} {wx wm : va_W} {H : Heap} {locs : List Loc} {ls : Array Slot} {cells slots : Nat} {Q : State → Prop} (Cx : lwC p s m meth c b L xs E) (hi : i + 6 ≤ L) (G : xG s E (fun q => s.heap.size ≤ q) (((w0 E qo fo) ++ wm) ++ wx) H locs) (hr : Rel E b1 b2 wx wm) (hl : lv_has ls 7 [(4, .int (iI (i : Nat))), (3, .ref qo), (2, .ref b2), (1, .ref b1), (0, .ref b)]) (hcs : cells ≤ room_1.cells ∧ slots ≤ room_1.slots) (K : ∀ (wx wm : va_W) (H : Heap) (locs : List Loc), Rel E b1 b2 wx wm → xG s E (fun q => s.heap.size ≤ q) (((w0 E qo fo) ++ wm) ++ wx) H locs → W p l e room_1 s m #[Value.ref b] below meth c H locs (cells + 10) (slots + 83) Q (F0 m 1820 ls [])) : W p l e room_1 s m #[Value.ref b] below meth c H locs cells slots Q (F0 m 893 ls []) := by
  obtain ⟨wx2, wm2, r, r2, k1, k2, he, hr2⟩ := s_bestSwap (l := l) hr
  refine lv_aload_n Cx.1.1 Cx.1.2.1 dL_law_893 rfl (lv_at hl 3 rfl) ?_
  refine lx_I (As := []) Cx G hr k1 mX10_bestSwap kL_122 rfl (by decide) hl.1 rfl (by simp) hcs dL_law_894 (fun H locs G => ?_)
  refine lv_aload_n Cx.1.1 Cx.1.2.1 dL_law_897 rfl (lv_at hl 2 rfl) ?_
  refine lm_I (As := []) Cx G hr k2 mX12_bestSwap kL_125 rfl (by decide) hl.1 rfl (by simp [Value.category]) hcs dL_law_898 (fun H locs G => ?_)
  refine lv_icmp_eq (tgt := 1820) Cx.1.1 Cx.1.2.1 dL_law_901 (by decide) (fun _ => ?_) (fun h => absurd he h)
  refine W.widen (k := cells + 10) (n := slots + 83) (by omega) (by omega) ?_
  exact K _ _ _ _ hr2 G
set_option maxHeartbeats 4000000 in
set_option maxRecDepth 100000 in
theorem g_better {p : Program} {l : Launch} {e : Env} {s : State} {m : MethodId} {below : List Frame} {meth : Method} {c : Code} {b L : Nat} {xs : Nat → Int32} {E : xE} {b1 b2 qo i : Nat} {fo : Nat → Int64} {wx wm : va_W} {H : Heap} {locs : List Loc} {ls : Array Slot} {cells slots : Nat} {Q : State → Prop} (Cx : lwC p s m meth c b L xs E) (hi : i + 6 ≤ L) (G : xG s E (fun q => s.heap.size ≤ q) (((w0 E qo fo) ++ wm) ++ wx) H locs) (hr : Rel E b1 b2 wx wm) (hl : lv_has ls 7 [(4, .int (iI (i : Nat))), (3, .ref qo), (2, .ref b2), (1, .ref b1), (0, .ref b)]) (hcs : cells ≤ room_1.cells ∧ slots ≤ room_1.slots) (K : ∀ (wx wm : va_W) (H : Heap) (locs : List Loc), Rel E b1 b2 wx wm → xG s E (fun q => s.heap.size ≤ q) (((w0 E qo fo) ++ wm) ++ wx) H locs → W p l e room_1 s m #[Value.ref b] below meth c H locs (cells + 10) (slots + 83) Q (F0 m 1820 ls [])) : W p l e room_1 s m #[Value.ref b] below meth c H locs cells slots Q (F0 m 906 ls []) := by
  obtain ⟨wx2, wm2, r, r2, k1, k2, he, hr2⟩ := s_better (l := l) (l1 := (xs (i + 1))) hr
  refine lv_aload_n Cx.1.1 Cx.1.2.1 dL_law_906 rfl (lv_at hl 3 rfl) ?_
  refine w_arg (j := 1) Cx hi (by omega) G hl dL_law_907 dL_law_908 dL_law_910 rfl dL_law_911 dL_law_912 ?_
  refine lx_I (As := [.int (xs (i + 1))]) Cx G hr k1 mX10_better kL_126 rfl (by decide) hl.1 rfl (by simp) hcs dL_law_913 (fun H locs G => ?_)
  refine lv_aload_n Cx.1.1 Cx.1.2.1 dL_law_916 rfl (lv_at hl 2 rfl) ?_
  refine w_arg (j := 1) Cx hi (by omega) G hl dL_law_917 dL_law_918 dL_law_920 rfl dL_law_921 dL_law_922 ?_
  refine lm_I (As := [.int (xs (i + 1))]) Cx G hr k2 mX12_better kL_129 rfl (by decide) hl.1 rfl (by simp [Value.category]) hcs dL_law_923 (fun H locs G => ?_)
  refine lv_icmp_eq (tgt := 1820) Cx.1.1 Cx.1.2.1 dL_law_926 (by decide) (fun _ => ?_) (fun h => absurd he h)
  refine W.widen (k := cells + 10) (n := slots + 83) (by omega) (by omega) ?_
  exact K _ _ _ _ hr2 G
set_option maxHeartbeats 4000000 in
set_option maxRecDepth 100000 in
theorem g_forkAt {p : Program} {l : Launch} {e : Env} {s : State} {m : MethodId} {below : List Frame} {meth : Method} {c : Code} {b L : Nat} {xs : Nat → Int32} {E : xE} {b1 b2 qo i : Nat} {fo : Nat → Int64} {wx wm : va_W} {H : Heap} {locs : List Loc} {ls : Array Slot} {cells slots : Nat} {Q : State → Prop} (Cx : lwC p s m meth c b L xs E) (hi : i + 6 ≤ L) (G : xG s E (fun q => s.heap.size ≤ q) (((w0 E qo fo) ++ wm) ++ wx) H locs) (hr : Rel E b1 b2 wx wm) (hl : lv_has ls 7 [(4, .int (iI (i : Nat))), (3, .ref qo), (2, .ref b2), (1, .ref b1), (0, .ref b)]) (hcs : cells ≤ room_1.cells ∧ slots ≤ room_1.slots) (K : ∀ (wx wm : va_W) (H : Heap) (locs : List Loc), Rel E b1 b2 wx wm → xG s E (fun q => s.heap.size ≤ q) (((w0 E qo fo) ++ wm) ++ wx) H locs → W p l e room_1 s m #[Value.ref b] below meth c H locs (cells + 10) (slots + 83) Q (F0 m 1820 ls [])) : W p l e room_1 s m #[Value.ref b] below meth c H locs cells slots Q (F0 m 931 ls []) := by
  obtain ⟨wx2, wm2, r, r2, k1, k2, he, hr2⟩ := s_forkAt (l := l) hr
  refine lv_aload_n Cx.1.1 Cx.1.2.1 dL_law_931 rfl (lv_at hl 3 rfl) ?_
  refine lx_I (As := []) Cx G hr k1 mX10_forkAt kL_130 rfl (by decide) hl.1 rfl (by simp) hcs dL_law_932 (fun H locs G => ?_)
  refine lv_aload_n Cx.1.1 Cx.1.2.1 dL_law_935 rfl (lv_at hl 2 rfl) ?_
  refine lm_I (As := []) Cx G hr k2 mX12_forkAt kL_133 rfl (by decide) hl.1 rfl (by simp [Value.category]) hcs dL_law_936 (fun H locs G => ?_)
  refine lv_icmp_eq (tgt := 1820) Cx.1.1 Cx.1.2.1 dL_law_939 (by decide) (fun _ => ?_) (fun h => absurd he h)
  refine W.widen (k := cells + 10) (n := slots + 83) (by omega) (by omega) ?_
  exact K _ _ _ _ hr2 G
set_option maxHeartbeats 4000000 in
set_option maxRecDepth 100000 in
theorem g_saws {p : Program} {l : Launch} {e : Env} {s : State} {m : MethodId} {below : List Frame} {meth : Method} {c : Code} {b L : Nat} {xs : Nat → Int32} {E : xE} {b1 b2 qo i : Nat} {fo : Nat → Int64} {wx wm : va_W} {H : Heap} {locs : List Loc} {ls : Array Slot} {cells slots : Nat} {Q : State → Prop} (Cx : lwC p s m meth c b L xs E) (hi : i + 6 ≤ L) (G : xG s E (fun q => s.heap.size ≤ q) (((w0 E qo fo) ++ wm) ++ wx) H locs) (hr : Rel E b1 b2 wx wm) (hl : lv_has ls 7 [(4, .int (iI (i : Nat))), (3, .ref qo), (2, .ref b2), (1, .ref b1), (0, .ref b)]) (hcs : cells ≤ room_1.cells ∧ slots ≤ room_1.slots) (K : ∀ (wx wm : va_W) (H : Heap) (locs : List Loc), Rel E b1 b2 wx wm → xG s E (fun q => s.heap.size ≤ q) (((w0 E qo fo) ++ wm) ++ wx) H locs → W p l e room_1 s m #[Value.ref b] below meth c H locs (cells + 10) (slots + 83) Q (F0 m 1820 ls [])) : W p l e room_1 s m #[Value.ref b] below meth c H locs cells slots Q (F0 m 944 ls []) := by
  obtain ⟨wx2, wm2, r, r2, k1, k2, he, hr2⟩ := s_saws (l := l) hr
  refine lv_aload_n Cx.1.1 Cx.1.2.1 dL_law_944 rfl (lv_at hl 3 rfl) ?_
  refine lx_I (As := []) Cx G hr k1 mX10_saws kL_134 rfl (by decide) hl.1 rfl (by simp) hcs dL_law_945 (fun H locs G => ?_)
  refine lv_aload_n Cx.1.1 Cx.1.2.1 dL_law_948 rfl (lv_at hl 2 rfl) ?_
  refine lm_I (As := []) Cx G hr k2 mX12_saws kL_137 rfl (by decide) hl.1 rfl (by simp [Value.category]) hcs dL_law_949 (fun H locs G => ?_)
  refine lv_icmp_eq (tgt := 1820) Cx.1.1 Cx.1.2.1 dL_law_952 (by decide) (fun _ => ?_) (fun h => absurd he h)
  refine W.widen (k := cells + 10) (n := slots + 83) (by omega) (by omega) ?_
  exact K _ _ _ _ hr2 G
