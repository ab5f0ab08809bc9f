/-! the law's loop -/
theorem and63 (x : Int32) : ∃ t : Nat, t < 64 ∧ x &&& 63 = iI (t : Nat) := by
  have h1 : (x &&& 63).toBitVec = x.toBitVec &&& 63#32 := rfl
  have h2 : (x.toBitVec &&& 63#32).toNat < 64 := by
    rw [BitVec.toNat_and]
    exact Nat.lt_of_le_of_lt Nat.and_le_right (by decide)
  refine ⟨(x.toBitVec &&& 63#32).toNat, h2, ?_⟩
  apply Int32.toBitVec_inj.mp
  rw [h1]
  show _ = (Int32.ofInt _).toBitVec
  rw [Int32.toBitVec_ofInt]
  apply BitVec.eq_of_toNat_eq
  rw [BitVec.toNat_ofInt]
  omega
set_option maxHeartbeats 4000000 in
set_option maxRecDepth 100000 in
theorem sw_a {p : Program} {l : Launch} {e : Env} {s : State} {m : MethodId} {below : List Frame} {meth : Method} {c : Code} {b L : Nat} {xs : Nat → Int32} {E : xE} {b1 b2 qo i : Nat} {fo : Nat → Int64} {wx wm : va_W} {H : Heap} {locs : List Loc} {ls : Array Slot} {cells slots : Nat} {Q : State → Prop} (Cx : lwC p s m meth c b L xs E) (hzT : zT (fun q => s.heap.size ≤ q) s s.heap) (hstk : l.stackTraces = false) (hi : i + 6 ≤ L) (G : xG s E (fun q => s.heap.size ≤ q) ((w0 E qo fo ++ wm) ++ wx) H locs) (hr : Rel E b1 b2 wx wm) (hl : lv_has ls 7 [(4, .int (iI (i : Nat))), (3, .ref qo), (2, .ref b2), (1, .ref b1), (0, .ref b)]) (hcs : cells + 10 ≤ room_1.cells ∧ slots + 83 ≤ room_1.slots) (K : ∀ (fo : Nat → Int64) (wx wm : va_W) (H : Heap) (locs : List Loc) (ls : Array Slot), Rel E b1 b2 wx wm → xG s E (fun q => s.heap.size ≤ q) ((w0 E qo fo ++ wm) ++ wx) H locs → lv_has ls 7 [(4, .int (iI (i : Nat))), (3, .ref qo), (2, .ref b2), (1, .ref b1), (0, .ref b)] → W p l e room_1 s m #[Value.ref b] below meth c H locs (cells + 10) (slots + 83) Q (F0 m 1820 ls [])) {t : Nat} (h0 : 0 ≤ t) (h1 : t < 16) : W p l e room_1 s m #[Value.ref b] below meth c H locs cells slots Q (F0 m 40 ls [.int (iI (t : Nat))]) := by
  have hx := Cx.1.1
  have hb := Cx.1.2.1
  have hcs0 : cells ≤ room_1.cells ∧ slots ≤ room_1.slots := ⟨by omega, by omega⟩
  have hcs1 : cells + 1 ≤ room_1.cells ∧ slots + 6 ≤ room_1.slots := ⟨by omega, by omega⟩
  rcases (show t = 0 ∨ t = 1 ∨ t = 2 ∨ t = 3 ∨ t = 4 ∨ t = 5 ∨ t = 6 ∨ t = 7 ∨ t = 8 ∨ t = 9 ∨ t = 10 ∨ t = 11 ∨ t = 12 ∨ t = 13 ∨ t = 14 ∨ t = 15 by omega) with rfl | rfl | rfl | rfl | rfl | rfl | rfl | rfl | rfl | rfl | rfl | rfl | rfl | rfl | rfl | rfl
  · refine x_tab (k := (0 : Int32)) (tgt := 292) hx hb dL_law_40 (by decide) (by decide) (by decide) rfl (by decide) ?_
    exact g_feed Cx hi G hr hl hcs0 (fun wx wm H locs hr G => K fo wx wm H locs ls hr G hl)
  · refine x_tab (k := (1 : Int32)) (tgt := 365) hx hb dL_law_40 (by decide) (by decide) (by decide) rfl (by decide) ?_
    exact g_table Cx hi G hr hl hcs0 hcs (fun wx wm H locs hr G => K fo wx wm H locs ls hr G hl)
  · refine x_tab (k := (2 : Int32)) (tgt := 390) hx hb dL_law_40 (by decide) (by decide) (by decide) rfl (by decide) ?_
    exact g_fault Cx hi G hr hl hcs0 (fun wx wm H locs hr G => K fo wx wm H locs ls hr G hl)
  · refine x_tab (k := (3 : Int32)) (tgt := 403) hx hb dL_law_40 (by decide) (by decide) (by decide) rfl (by decide) ?_
    exact g_where Cx hi G hr hl hcs0 (fun wx wm H locs hr G => K fo wx wm H locs ls hr G hl)
  · refine x_tab (k := (4 : Int32)) (tgt := 416) hx hb dL_law_40 (by decide) (by decide) (by decide) rfl (by decide) ?_
    exact g_seat Cx hi G hr hl hcs0 (fun wx wm H locs hr G => K fo wx wm H locs ls hr G hl)
  · refine x_tab (k := (5 : Int32)) (tgt := 441) hx hb dL_law_40 (by decide) (by decide) (by decide) rfl (by decide) ?_
    exact g_pair Cx hi G hr hl hcs0 (fun wx wm H locs hr G => K fo wx wm H locs ls hr G hl)
  · refine x_tab (k := (6 : Int32)) (tgt := 478) hx hb dL_law_40 (by decide) (by decide) (by decide) rfl (by decide) ?_
    exact g_pairOf Cx hi G hr hl hcs0 (fun wx wm H locs hr G => K fo wx wm H locs ls hr G hl)
  · refine x_tab (k := (7 : Int32)) (tgt := 515) hx hb dL_law_40 (by decide) (by decide) (by decide) rfl (by decide) ?_
    exact g_feeders Cx hi G hr hl hcs0 (fun wx wm H locs hr G => K fo wx wm H locs ls hr G hl)
  · refine x_tab (k := (8 : Int32)) (tgt := 540) hx hb dL_law_40 (by decide) (by decide) (by decide) rfl (by decide) ?_
    exact g_forks Cx hi G hr hl hcs0 (fun wx wm H locs hr G => K fo wx wm H locs ls hr G hl)
  · refine x_tab (k := (9 : Int32)) (tgt := 577) hx hb dL_law_40 (by decide) (by decide) (by decide) rfl (by decide) ?_
    exact g_fed Cx hi G hr hl hcs0 (fun wx wm H locs hr G => K fo wx wm H locs ls hr G hl)
  · refine x_tab (k := (10 : Int32)) (tgt := 590) hx hb dL_law_40 (by decide) (by decide) (by decide) rfl (by decide) ?_
    exact g_match Cx hi G hr hl hcs0 (fun wx wm H locs hr G => K fo wx wm H locs ls hr G hl)
  · refine x_tab (k := (11 : Int32)) (tgt := 603) hx hb dL_law_40 (by decide) (by decide) (by decide) rfl (by decide) ?_
    exact g_slops Cx hi G hr hl hcs0 (fun wx wm H locs hr G => K fo wx wm H locs ls hr G hl)
  · refine x_tab (k := (12 : Int32)) (tgt := 616) hx hb dL_law_40 (by decide) (by decide) (by decide) rfl (by decide) ?_
    exact g_mate Cx hi G hr hl hcs0 (fun wx wm H locs hr G => K fo wx wm H locs ls hr G hl)
  · refine x_tab (k := (13 : Int32)) (tgt := 641) hx hb dL_law_40 (by decide) (by decide) (by decide) rfl (by decide) ?_
    exact g_starving Cx hi G hr hl hcs0 (fun wx wm H locs hr G => K fo wx wm H locs ls hr G hl)
  · refine x_tab (k := (14 : Int32)) (tgt := 654) hx hb dL_law_40 (by decide) (by decide) (by decide) rfl (by decide) ?_
    exact g_matches Cx hi G hr hl hcs0 (fun wx wm H locs hr G => K fo wx wm H locs ls hr G hl)
  · refine x_tab (k := (15 : Int32)) (tgt := 667) hx hb dL_law_40 (by decide) (by decide) (by decide) rfl (by decide) ?_
    exact g_handleIn Cx hi G hr hl hcs0 (fun wx wm H locs hr G => K fo wx wm H locs ls hr G hl)
set_option maxHeartbeats 4000000 in
set_option maxRecDepth 100000 in
theorem sw_b {p : Program} {l : Launch} {e : Env} {s : State} {m : MethodId} {below : List Frame} {meth : Method} {c : Code} {b L : Nat} {xs : Nat → Int32} {E : xE} {b1 b2 qo i : Nat} {fo : Nat → Int64} {wx wm : va_W} {H : Heap} {locs : List Loc} {ls : Array Slot} {cells slots : Nat} {Q : State → Prop} (Cx : lwC p s m meth c b L xs E) (hzT : zT (fun q => s.heap.size ≤ q) s s.heap) (hstk : l.stackTraces = false) (hi : i + 6 ≤ L) (G : xG s E (fun q => s.heap.size ≤ q) ((w0 E qo fo ++ wm) ++ wx) H locs) (hr : Rel E b1 b2 wx wm) (hl : lv_has ls 7 [(4, .int (iI (i : Nat))), (3, .ref qo), (2, .ref b2), (1, .ref b1), (0, .ref b)]) (hcs : cells + 10 ≤ room_1.cells ∧ slots + 83 ≤ room_1.slots) (K : ∀ (fo : Nat → Int64) (wx wm : va_W) (H : Heap) (locs : List Loc) (ls : Array Slot), Rel E b1 b2 wx wm → xG s E (fun q => s.heap.size ≤ q) ((w0 E qo fo ++ wm) ++ wx) H locs → lv_has ls 7 [(4, .int (iI (i : Nat))), (3, .ref qo), (2, .ref b2), (1, .ref b1), (0, .ref b)] → W p l e room_1 s m #[Value.ref b] below meth c H locs (cells + 10) (slots + 83) Q (F0 m 1820 ls [])) {t : Nat} (h0 : 16 ≤ t) (h1 : t < 32) : W p l e room_1 s m #[Value.ref b] below meth c H locs cells slots Q (F0 m 40 ls [.int (iI (t : Nat))]) := by
  have hx := Cx.1.1
  have hb := Cx.1.2.1
  have hcs0 : cells ≤ room_1.cells ∧ slots ≤ room_1.slots := ⟨by omega, by omega⟩
  have hcs1 : cells + 1 ≤ room_1.cells ∧ slots + 6 ≤ room_1.slots := ⟨by omega, by omega⟩
  rcases (show t = 16 ∨ t = 17 ∨ t = 18 ∨ t = 19 ∨ t = 20 ∨ t = 21 ∨ t = 22 ∨ t = 23 ∨ t = 24 ∨ t = 25 ∨ t = 26 ∨ t = 27 ∨ t = 28 ∨ t = 29 ∨ t = 30 ∨ t = 31 by omega) with rfl | rfl | rfl | rfl | rfl | rfl | rfl | rfl | rfl | rfl | rfl | rfl | rfl | rfl | rfl | rfl
  · refine x_tab (k := (16 : Int32)) (tgt := 704) hx hb dL_law_40 (by decide) (by decide) (by decide) rfl (by decide) ?_
    exact g_feedsIn Cx hi G hr hl hcs0 (fun wx wm H locs hr G => K fo wx wm H locs ls hr G hl)
  · refine x_tab (k := (17 : Int32)) (tgt := 729) hx hb dL_law_40 (by decide) (by decide) (by decide) rfl (by decide) ?_
    exact g_feedsOften Cx hi G hr hl hcs0 (fun wx wm H locs hr G => K fo wx wm H locs ls hr G hl)
  · refine x_tab (k := (18 : Int32)) (tgt := 754) hx hb dL_law_40 (by decide) (by decide) (by decide) rfl (by decide) ?_
    exact g_fedIn Cx hi G hr hl hcs0 (fun wx wm H locs hr G => K fo wx wm H locs ls hr G hl)
  · refine x_tab (k := (19 : Int32)) (tgt := 779) hx hb dL_law_40 (by decide) (by decide) (by decide) rfl (by decide) ?_
    exact g_bestYear Cx hi G hr hl hcs0 (fun wx wm H locs hr G => K fo wx wm H locs ls hr G hl)
  · refine x_tab (k := (20 : Int32)) (tgt := 792) hx hb dL_law_40 (by decide) (by decide) (by decide) rfl (by decide) ?_
    exact g_allIn Cx hi G hr hl hcs0 (fun wx wm H locs hr G => K fo wx wm H locs ls hr G hl)
  · refine x_tab (k := (21 : Int32)) (tgt := 805) hx hb dL_law_40 (by decide) (by decide) (by decide) rfl (by decide) ?_
    exact g_seating Cx hi G hr hl hcs0 (fun wx wm H locs hr G => K fo wx wm H locs ls hr G hl)
  · refine x_tab (k := (22 : Int32)) (tgt := 818) hx hb dL_law_40 (by decide) (by decide) (by decide) rfl (by decide) ?_
    exact g_seatAt Cx hi G hr hl hcs0 (fun wx wm H locs hr G => K fo wx wm H locs ls hr G hl)
  · refine x_tab (k := (23 : Int32)) (tgt := 843) hx hb dL_law_40 (by decide) (by decide) (by decide) rfl (by decide) ?_
    exact g_seatSlops Cx hi G hr hl hcs0 (fun wx wm H locs hr G => K fo wx wm H locs ls hr G hl)
  · refine x_tab (k := (24 : Int32)) (tgt := 856) hx hb dL_law_40 (by decide) (by decide) (by decide) rfl (by decide) ?_
    exact g_swapped Cx hi G hr hl hcs0 (fun wx wm H locs hr G => K fo wx wm H locs ls hr G hl)
  · refine x_tab (k := (25 : Int32)) (tgt := 893) hx hb dL_law_40 (by decide) (by decide) (by decide) rfl (by decide) ?_
    exact g_bestSwap Cx hi G hr hl hcs0 (fun wx wm H locs hr G => K fo wx wm H locs ls hr G hl)
  · refine x_tab (k := (26 : Int32)) (tgt := 906) hx hb dL_law_40 (by decide) (by decide) (by decide) rfl (by decide) ?_
    exact g_better Cx hi G hr hl hcs0 (fun wx wm H locs hr G => K fo wx wm H locs ls hr G hl)
  · refine x_tab (k := (27 : Int32)) (tgt := 931) hx hb dL_law_40 (by decide) (by decide) (by decide) rfl (by decide) ?_
    exact g_forkAt Cx hi G hr hl hcs0 (fun wx wm H locs hr G => K fo wx wm H locs ls hr G hl)
  · refine x_tab (k := (28 : Int32)) (tgt := 944) hx hb dL_law_40 (by decide) (by decide) (by decide) rfl (by decide) ?_
    exact g_saws Cx hi G hr hl hcs0 (fun wx wm H locs hr G => K fo wx wm H locs ls hr G hl)
  · refine x_tab (k := (29 : Int32)) (tgt := 957) hx hb dL_law_40 (by decide) (by decide) (by decide) rfl (by decide) ?_
    exact g_sawsOf Cx hi G hr hl hcs0 (fun wx wm H locs hr G => K fo wx wm H locs ls hr G hl)
  · refine x_tab (k := (30 : Int32)) (tgt := 982) hx hb dL_law_40 (by decide) (by decide) (by decide) rfl (by decide) ?_
    exact g_meet Cx hi G hr hl hcs0 (fun wx wm H locs hr G => K fo wx wm H locs ls hr G hl)
  · refine x_tab (k := (31 : Int32)) (tgt := 1007) hx hb dL_law_40 (by decide) (by decide) (by decide) rfl (by decide) ?_
    exact g_meetAt Cx hi G hr hl hcs0 (fun wx wm H locs hr G => K fo wx wm H locs ls hr G hl)
set_option maxHeartbeats 4000000 in
set_option maxRecDepth 100000 in
theorem sw_c {p : Program} {l : Launch} {e : Env} {s : State} {m : MethodId} {below : List Frame} {meth : Method} {c : Code} {b L : Nat} {xs : Nat → Int32} {E : xE} {b1 b2 qo i : Nat} {fo : Nat → Int64} {wx wm : va_W} {H : Heap} {locs : List Loc} {ls : Array Slot} {cells slots : Nat} {Q : State → Prop} (Cx : lwC p s m meth c b L xs E) (hzT : zT (fun q => s.heap.size ≤ q) s s.heap) (hstk : l.stackTraces = false) (hi : i + 6 ≤ L) (G : xG s E (fun q => s.heap.size ≤ q) ((w0 E qo fo ++ wm) ++ wx) H locs) (hr : Rel E b1 b2 wx wm) (hl : lv_has ls 7 [(4, .int (iI (i : Nat))), (3, .ref qo), (2, .ref b2), (1, .ref b1), (0, .ref b)]) (hcs : cells + 10 ≤ room_1.cells ∧ slots + 83 ≤ room_1.slots) (K : ∀ (fo : Nat → Int64) (wx wm : va_W) (H : Heap) (locs : List Loc) (ls : Array Slot), Rel E b1 b2 wx wm → xG s E (fun q => s.heap.size ≤ q) ((w0 E qo fo ++ wm) ++ wx) H locs → lv_has ls 7 [(4, .int (iI (i : Nat))), (3, .ref qo), (2, .ref b2), (1, .ref b1), (0, .ref b)] → W p l e room_1 s m #[Value.ref b] below meth c H locs (cells + 10) (slots + 83) Q (F0 m 1820 ls [])) {t : Nat} (h0 : 32 ≤ t) (h1 : t < 48) : W p l e room_1 s m #[Value.ref b] below meth c H locs cells slots Q (F0 m 40 ls [.int (iI (t : Nat))]) := by
  have hx := Cx.1.1
  have hb := Cx.1.2.1
  have hcs0 : cells ≤ room_1.cells ∧ slots ≤ room_1.slots := ⟨by omega, by omega⟩
  have hcs1 : cells + 1 ≤ room_1.cells ∧ slots + 6 ≤ room_1.slots := ⟨by omega, by omega⟩
  rcases (show t = 32 ∨ t = 33 ∨ t = 34 ∨ t = 35 ∨ t = 36 ∨ t = 37 ∨ t = 38 ∨ t = 39 ∨ t = 40 ∨ t = 41 ∨ t = 42 ∨ t = 43 ∨ t = 44 ∨ t = 45 ∨ t = 46 ∨ t = 47 by omega) with rfl | rfl | rfl | rfl | rfl | rfl | rfl | rfl | rfl | rfl | rfl | rfl | rfl | rfl | rfl | rfl
  · refine x_tab (k := (32 : Int32)) (tgt := 1032) hx hb dL_law_40 (by decide) (by decide) (by decide) rfl (by decide) ?_
    exact g_stable Cx hi G hr hl hcs0 (fun wx wm H locs hr G => K fo wx wm H locs ls hr G hl)
  · refine x_tab (k := (33 : Int32)) (tgt := 1045) hx hb dL_law_40 (by decide) (by decide) (by decide) rfl (by decide) ?_
    exact g_stableAt Cx hi G hr hl hcs0 (fun wx wm H locs hr G => K fo wx wm H locs ls hr G hl)
  · refine x_tab (k := (34 : Int32)) (tgt := 1070) hx hb dL_law_40 (by decide) (by decide) (by decide) rfl (by decide) ?_
    exact g_leaves Cx hi G hr hl hcs0 (fun wx wm H locs hr G => K fo wx wm H locs ls hr G hl)
  · refine x_tab (k := (35 : Int32)) (tgt := 1083) hx hb dL_law_40 (by decide) (by decide) (by decide) rfl (by decide) ?_
    exact g_fits Cx hi G hr hl hcs0 (fun wx wm H locs hr G => K fo wx wm H locs ls hr G hl)
  · refine x_tab (k := (36 : Int32)) (tgt := 1096) hx hb dL_law_40 (by decide) (by decide) (by decide) rfl (by decide) ?_
    exact g_fitAt Cx hi G hr hl hcs0 (fun wx wm H locs hr G => K fo wx wm H locs ls hr G hl)
  · refine x_tab (k := (37 : Int32)) (tgt := 1121) hx hb dL_law_40 (by decide) (by decide) (by decide) rfl (by decide) ?_
    exact g_could Cx hi G hr hl hcs0 (fun wx wm H locs hr G => K fo wx wm H locs ls hr G hl)
  · refine x_tab (k := (38 : Int32)) (tgt := 1134) hx hb dL_law_40 (by decide) (by decide) (by decide) rfl (by decide) ?_
    exact g_surely Cx hi G hr hl hcs0 (fun wx wm H locs hr G => K fo wx wm H locs ls hr G hl)
  · refine x_tab (k := (39 : Int32)) (tgt := 1147) hx hb dL_law_40 (by decide) (by decide) (by decide) rfl (by decide) ?_
    exact g_ask Cx hi G hr hl hcs0 (fun wx wm H locs hr G => K fo wx wm H locs ls hr G hl)
  · refine x_tab (k := (40 : Int32)) (tgt := 1160) hx hb dL_law_40 (by decide) (by decide) (by decide) rfl (by decide) ?_
    exact g_askLeaves Cx hi G hr hl hcs0 (fun wx wm H locs hr G => K fo wx wm H locs ls hr G hl)
  · refine x_tab (k := (41 : Int32)) (tgt := 1173) hx hb dL_law_40 (by decide) (by decide) (by decide) rfl (by decide) ?_
    exact g_judge Cx hi G hr hl hcs0 (fun wx wm H locs hr G => K fo wx wm H locs ls hr G hl)
  · refine x_tab (k := (42 : Int32)) (tgt := 1186) hx hb dL_law_40 (by decide) (by decide) (by decide) rfl (by decide) ?_
    exact g_saw Cx hi G hr hl hcs0 (fun wx wm H locs hr G => K fo wx wm H locs ls hr G hl)
  · refine x_tab (k := (43 : Int32)) (tgt := 1295) hx hb dL_law_40 (by decide) (by decide) (by decide) rfl (by decide) ?_
    exact g_rests Cx hi G hr hl hcs0 (fun wx wm H locs hr G => K fo wx wm H locs ls hr G hl)
  · refine x_tab (k := (44 : Int32)) (tgt := 1320) hx hb dL_law_40 (by decide) (by decide) (by decide) rfl (by decide) ?_
    exact g_rest Cx hi G hr hl hcs0 (fun wx wm H locs hr G => K fo wx wm H locs ls hr G hl)
  · refine x_tab (k := (45 : Int32)) (tgt := 1345) hx hb dL_law_40 (by decide) (by decide) (by decide) rfl (by decide) ?_
    exact g_odds Cx hi G hr hl hcs0 (fun wx wm H locs hr G => K fo wx wm H locs ls hr G hl)
  · refine x_tab (k := (46 : Int32)) (tgt := 1411) hx hb dL_law_40 (by decide) (by decide) (by decide) rfl (by decide) ?_
    exact g_mean Cx hi G hr hl hcs0 (fun wx wm H locs hr G => K fo wx wm H locs ls hr G hl)
  · refine x_tab (k := (47 : Int32)) (tgt := 1477) hx hb dL_law_40 (by decide) (by decide) (by decide) rfl (by decide) ?_
    exact g_drawnHandle Cx hi G hr hl hcs0 (fun wx wm H locs hr G => K fo wx wm H locs ls hr G hl)
set_option maxHeartbeats 4000000 in
set_option maxRecDepth 100000 in
theorem sw_d {p : Program} {l : Launch} {e : Env} {s : State} {m : MethodId} {below : List Frame} {meth : Method} {c : Code} {b L : Nat} {xs : Nat → Int32} {E : xE} {b1 b2 qo i : Nat} {fo : Nat → Int64} {wx wm : va_W} {H : Heap} {locs : List Loc} {ls : Array Slot} {cells slots : Nat} {Q : State → Prop} (Cx : lwC p s m meth c b L xs E) (hzT : zT (fun q => s.heap.size ≤ q) s s.heap) (hstk : l.stackTraces = false) (hi : i + 6 ≤ L) (G : xG s E (fun q => s.heap.size ≤ q) ((w0 E qo fo ++ wm) ++ wx) H locs) (hr : Rel E b1 b2 wx wm) (hl : lv_has ls 7 [(4, .int (iI (i : Nat))), (3, .ref qo), (2, .ref b2), (1, .ref b1), (0, .ref b)]) (hcs : cells + 10 ≤ room_1.cells ∧ slots + 83 ≤ room_1.slots) (K : ∀ (fo : Nat → Int64) (wx wm : va_W) (H : Heap) (locs : List Loc) (ls : Array Slot), Rel E b1 b2 wx wm → xG s E (fun q => s.heap.size ≤ q) ((w0 E qo fo ++ wm) ++ wx) H locs → lv_has ls 7 [(4, .int (iI (i : Nat))), (3, .ref qo), (2, .ref b2), (1, .ref b1), (0, .ref b)] → W p l e room_1 s m #[Value.ref b] below meth c H locs (cells + 10) (slots + 83) Q (F0 m 1820 ls [])) {t : Nat} (h0 : 48 ≤ t) (h1 : t < 64) : W p l e room_1 s m #[Value.ref b] below meth c H locs cells slots Q (F0 m 40 ls [.int (iI (t : Nat))]) := by
  have hx := Cx.1.1
  have hb := Cx.1.2.1
  have hcs0 : cells ≤ room_1.cells ∧ slots ≤ room_1.slots := ⟨by omega, by omega⟩
  have hcs1 : cells + 1 ≤ room_1.cells ∧ slots + 6 ≤ room_1.slots := ⟨by omega, by omega⟩
  rcases (show t = 48 ∨ t = 49 ∨ t = 50 ∨ t = 51 ∨ t = 52 ∨ t = 53 ∨ t = 54 ∨ t = 55 ∨ t = 56 ∨ t = 57 ∨ t = 58 ∨ t = 59 ∨ t = 60 ∨ t = 61 ∨ t = 62 ∨ t = 63 by omega) with rfl | rfl | rfl | rfl | rfl | rfl | rfl | rfl | rfl | rfl | rfl | rfl | rfl | rfl | rfl | rfl
  · refine x_tab (k := (48 : Int32)) (tgt := 1526) hx hb dL_law_40 (by decide) (by decide) (by decide) rfl (by decide) ?_
    exact g_drawnFed Cx hi G hr hl hcs0 (fun wx wm H locs hr G => K fo wx wm H locs ls hr G hl)
  · refine x_tab (k := (49 : Int32)) (tgt := 1563) hx hb dL_law_40 (by decide) (by decide) (by decide) rfl (by decide) ?_
    exact g_year Cx hi G hr hl hcs0 (fun wx wm H locs hr G => K fo wx wm H locs ls hr G hl)
  · refine x_tab (k := (50 : Int32)) (tgt := 1576) hx hb dL_law_40 (by decide) (by decide) (by decide) rfl (by decide) ?_
    exact g_quarrel Cx hi G hr hl hcs0 (fun wx wm H locs hr G => K fo wx wm H locs ls hr G hl)
  · refine x_tab (k := (51 : Int32)) (tgt := 1601) hx hb dL_law_40 (by decide) (by decide) (by decide) rfl (by decide) ?_
    exact g_sit Cx hi G hr hl hcs0 (fun wx wm H locs hr G => K fo wx wm H locs ls hr G hl)
  · refine x_tab (k := (52 : Int32)) (tgt := 1638) hx hb dL_law_40 (by decide) (by decide) (by decide) rfl (by decide) ?_
    exact g_know Cx hi G hr hl hcs0 (fun wx wm H locs hr G => K fo wx wm H locs ls hr G hl)
  · refine x_tab (k := (53 : Int32)) (tgt := 1675) hx hb dL_law_40 (by decide) (by decide) (by decide) rfl (by decide) ?_
    exact g_undo Cx hi G hr hl hcs0 (fun wx wm H locs hr G => K fo wx wm H locs ls hr G hl)
  · refine x_tab (k := (54 : Int32)) (tgt := 1688) hx hb dL_law_40 (by decide) (by decide) (by decide) rfl (by decide) ?_
    exact g_image Cx hi G hr hl hcs0 (fun wx wm H locs hr G => K fo wx wm H locs ls hr G hl)
  · refine x_tab (k := (55 : Int32)) (tgt := 1701) hx hb dL_law_40 (by decide) (by decide) (by decide) rfl (by decide) ?_
    exact g_back Cx hi G hr hl hcs0 (fun wx wm H locs hr G => K fo wx wm H locs ls hr G hl)
  · refine x_tab (k := (56 : Int32)) (tgt := 1726) hx hb dL_law_40 (by decide) (by decide) (by decide) rfl (by decide) ?_
    exact g_led Cx hzT hstk hi G hr hl hcs1 K
  · refine x_tab (k := (57 : Int32)) (tgt := 1782) hx hb dL_law_40 (by decide) (by decide) (by decide) rfl (by decide) ?_
    exact g_size Cx hi G hr hl hcs0 (fun wx wm H locs hr G => K fo wx wm H locs ls hr G hl)
  · refine x_tab (k := (58 : Int32)) (tgt := 1807) hx hb dL_law_40 (by decide) (by decide) (by decide) rfl (by decide) ?_
    exact g_trouble Cx hi G hr hl hcs0 (fun wx wm H locs hr G => K fo wx wm H locs ls hr G hl)
  · refine lv_tableOut (tgt := 1820) hx hb dL_law_40 (Or.inr (by decide)) (by decide) ?_
    refine W.widen (k := cells + 10) (n := slots + 83) (by omega) (by omega) ?_
    exact K fo wx wm H locs ls hr G hl
  · refine lv_tableOut (tgt := 1820) hx hb dL_law_40 (Or.inr (by decide)) (by decide) ?_
    refine W.widen (k := cells + 10) (n := slots + 83) (by omega) (by omega) ?_
    exact K fo wx wm H locs ls hr G hl
  · refine lv_tableOut (tgt := 1820) hx hb dL_law_40 (Or.inr (by decide)) (by decide) ?_
    refine W.widen (k := cells + 10) (n := slots + 83) (by omega) (by omega) ?_
    exact K fo wx wm H locs ls hr G hl
  · refine lv_tableOut (tgt := 1820) hx hb dL_law_40 (Or.inr (by decide)) (by decide) ?_
    refine W.widen (k := cells + 10) (n := slots + 83) (by omega) (by omega) ?_
    exact K fo wx wm H locs ls hr G hl
  · refine lv_tableOut (tgt := 1820) hx hb dL_law_40 (Or.inr (by decide)) (by decide) ?_
    refine W.widen (k := cells + 10) (n := slots + 83) (by omega) (by omega) ?_
    exact K fo wx wm H locs ls hr G hl
set_option maxHeartbeats 4000000 in
set_option maxRecDepth 100000 in
theorem law_loop {p : Program} {l : Launch} {e : Env} {s : State} {m : MethodId} {below : List Frame} {meth : Method} {c : Code} {b L : Nat} {xs : Nat → Int32} {E : xE} {b1 b2 qo : Nat} (Cx : lwC p s m meth c b L xs E) (hzT : zT (fun q => s.heap.size ≤ q) s s.heap) (hstk : l.stackTraces = false) :
    ∀ (n j : Nat) (fo : Nat → Int64) (wx wm : va_W) (H : Heap) (locs : List Loc) (ls : Array Slot), 6 * j ≤ L → L < 6 * (j + n) → Rel E b1 b2 wx wm → xG s E (fun q => s.heap.size ≤ q) ((w0 E qo fo ++ wm) ++ wx) H locs → lv_has ls 7 [(4, .int (iI ((6 * j : Nat) : Int))), (3, .ref qo), (2, .ref b2), (1, .ref b1), (0, .ref b)] → W p l e room_1 s m #[Value.ref b] below meth c H locs (200 + 10 * j) (5000 + 83 * j) (lw_Z below #[Value.ref b] s) (F0 m 23 ls []) := by
  have hx := Cx.1.1
  have hb := Cx.1.2.1
  have hX := Cx.2.1
  have hbl := Cx.2.2.1
  have hL := Cx.2.2.2
  have hbA : ¬ (fun q : Nat => s.heap.size ≤ q) b := Nat.not_le.mpr hbl
  intro n
  induction n with
  | zero =>
    intro j fo wx wm H locs ls h1 h2
    exact absurd h2 (by omega)
  | succ n ih =>
    intro j fo wx wm H locs ls h1 h2 hr G hl
    have eL : Int32.ofNat L - 6 = iI ((L : Int) - 6) := by
      rw [show Int32.ofNat L = iI (L : Nat) from (Int32.ofInt_eq_ofNat).symm, show (6 : Int32) = iI 6 from rfl, iI_sub]
    refine lv_iload hx hb dL_law_23 (lv_at hl 0 rfl) ?_
    refine lv_aload_n hx hb dL_law_25 rfl (lv_at hl 4 rfl) ?_
    refine va_slen hx hb hX hbl hbA G.2.2 dL_law_26 ?_
    refine lv_bipush (v := 6) hx hb dL_law_27 (by decide) ?_
    refine lv_isub hx hb dL_law_29 ?_
    rw [eL]
    refine lv_icmp_gt (tgt := 1826) hx hb dL_law_30 (by decide) (fun h => ?_) (fun h => ?_)
    · refine lv_iconst (v := 1) hx hb dL_law_1826 (by decide) ?_
      refine va_forget (fun q hq => G.2.2.2.2 q hq) ?_
      refine W.widen (k := 601024) (n := 7293034) (by omega) (by omega) ?_
      exact lw_ret hx hb Cx.1.2.2.2.2.2.2.2.2.2.1 Cx.1.2.2.2.2.2.2.2.2.1 dL_law_1827
    · have hi : 6 * j + 6 ≤ L := by
        have h3 : ¬ iI ((L : Int) - 6) < iI ((6 * j : Nat) : Int) := h
        rw [iI_lt (by omega) (by omega) (by omega) (by omega)] at h3
        omega
      refine lv_aload_n hx hb dL_law_33 rfl (lv_at hl 4 rfl) ?_
      refine lv_iload hx hb dL_law_34 (lv_at hl 0 rfl) ?_
      refine va_sld hx hb hX hbl hbA G.2.2 (vp_in_iI (show 6 * j < L by omega) (by omega)) dL_law_36 ?_
      refine lv_bipush (v := 63) hx hb dL_law_37 (by decide) ?_
      refine lv_iand hx hb dL_law_39 ?_
      obtain ⟨t, ht, et⟩ := and63 (xs (iI ((6 * j : Nat) : Int)).toNatClampNeg)
      rw [et]
      have hcs : 200 + 10 * j + 10 ≤ room_1.cells ∧ 5000 + 83 * j + 83 ≤ room_1.slots := ⟨show 200 + 10 * j + 10 ≤ 601024 by omega, show 5000 + 83 * j + 83 ≤ 7293034 by omega⟩
      have K : ∀ (fo : Nat → Int64) (wx wm : va_W) (H : Heap) (locs : List Loc) (ls : Array Slot), Rel E b1 b2 wx wm → xG s E (fun q => s.heap.size ≤ q) ((w0 E qo fo ++ wm) ++ wx) H locs → lv_has ls 7 [(4, .int (iI ((6 * j : Nat) : Int))), (3, .ref qo), (2, .ref b2), (1, .ref b1), (0, .ref b)] → W p l e room_1 s m #[Value.ref b] below meth c H locs (200 + 10 * j + 10) (5000 + 83 * j + 83) (lw_Z below #[Value.ref b] s) (F0 m 1820 ls []) := by
        intro fo wx wm H locs ls hr G hl
        refine lv_iinc (v := iI ((6 * (j + 1) : Nat) : Int)) (lv' := [(4, .int (iI ((6 * (j + 1) : Nat) : Int))), (3, .ref qo), (2, .ref b2), (1, .ref b1), (0, .ref b)]) hx hb dL_law_1820 hl (k := 0) rfl (by rw [show Int32.ofInt 6 = iI 6 from rfl, iI_add]; exact congrArg iI (by omega)) (by decide) rfl (fun ls hl => ?_)
        refine lv_goto (tgt := 23) hx hb dL_law_1823 (by decide) ?_
        have e1 : 200 + 10 * j + 10 = 200 + 10 * (j + 1) := by omega
        have e2 : 5000 + 83 * j + 83 = 5000 + 83 * (j + 1) := by omega
        rw [e1, e2]
        exact ih (j + 1) fo wx wm H locs ls (by omega) (by omega) hr G hl
      by_cases c1 : t < 16
      · exact sw_a Cx hzT hstk hi G hr hl hcs K (Nat.zero_le _) c1
      · by_cases c2 : t < 32
        · exact sw_b Cx hzT hstk hi G hr hl hcs K (Nat.le_of_not_lt c1) c2
        · by_cases c3 : t < 48
          · exact sw_c Cx hzT hstk hi G hr hl hcs K (Nat.le_of_not_lt c2) c3
          · exact sw_d Cx hzT hstk hi G hr hl hcs K (Nat.le_of_not_lt c3) ht
