set_option maxHeartbeats 4000000 in
set_option maxRecDepth 100000 in
theorem c_X_trouble_x {l : Launch} {E : xE} {ad : Nat → Nat} {x_imageCount x_lastTrouble x_lastFault x_lastPlace pa_faultNumber pa_faultPlace rd_length rd_end rd_next rd_sort rd_start rd_value to_seats to_slack to_sawInches to_quarrelChance to_people to_forkBits to_unsure to_tried to_triedFedBits tf_pairs tf_gone bd_seats bd_slack bd_sawInches bd_quarrelChance bd_people bd_forkBits bd_unsure bd_tried bd_triedFedBits bf_pairs bf_gone nw_pairs nw_gone sc_forkBits sc_canBits sc_bestBits sc_bestSlops sl_count se_bestWorth se_fresh ch_items ch_leastCost ch_leastBits cl_count fi_count ps_next ps_count i0_pairs i0_gone i1_pairs i1_gone i2_pairs i2_gone : Int32} {pa_names : Nat → Int64} {rd_tape to_unsurePair to_unsureYears to_triedPair tf_seatOf tf_one tf_other tf_kind tf_years tf_sawn bd_unsurePair bd_unsureYears bd_triedPair bf_seatOf bf_one bf_other bf_kind bf_years bf_sawn nw_seatOf nw_one nw_other nw_kind nw_years nw_sawn sc_seatOf sc_handle sc_both sc_slopOf sl_bits se_bestRow se_row se_pairAt se_hope se_hopeAt se_slopAt se_farBits se_gain se_worth ch_both ch_cost ch_bit cl_bits fi_sets ps_act ps_whom ps_amount i0_seatOf i0_one i0_other i0_kind i0_years i0_sawn i1_seatOf i1_one i1_other i1_kind i1_years i1_sawn i2_seatOf i2_one i2_other i2_kind i2_years i2_sawn : Nat → Int32} {rd_word : Int64} {R0 : Int32} (hf : f_X_trouble x_lastTrouble = some R0) : xI l E yX10_trouble cX10_trouble 1 (some .int) 0 0 [.ref (ad 0)] (wX E ad x_imageCount x_lastTrouble x_lastFault x_lastPlace pa_names pa_faultNumber pa_faultPlace rd_tape rd_length rd_end rd_next rd_sort rd_start rd_value rd_word to_unsurePair to_unsureYears to_triedPair to_seats to_slack to_sawInches to_quarrelChance to_people to_forkBits to_unsure to_tried to_triedFedBits tf_seatOf tf_one tf_other tf_kind tf_years tf_sawn tf_pairs tf_gone bd_unsurePair bd_unsureYears bd_triedPair bd_seats bd_slack bd_sawInches bd_quarrelChance bd_people bd_forkBits bd_unsure bd_tried bd_triedFedBits bf_seatOf bf_one bf_other bf_kind bf_years bf_sawn bf_pairs bf_gone nw_seatOf nw_one nw_other nw_kind nw_years nw_sawn nw_pairs nw_gone sc_seatOf sc_handle sc_both sc_slopOf sc_forkBits sc_canBits sc_bestBits sc_bestSlops sl_bits sl_count se_bestRow se_row se_pairAt se_hope se_hopeAt se_slopAt se_farBits se_gain se_worth se_bestWorth se_fresh ch_both ch_cost ch_bit ch_items ch_leastCost ch_leastBits cl_bits cl_count fi_sets fi_count ps_act ps_whom ps_amount ps_next ps_count i0_seatOf i0_one i0_other i0_kind i0_years i0_sawn i0_pairs i0_gone i1_seatOf i1_one i1_other i1_kind i1_years i1_sawn i1_pairs i1_gone i2_seatOf i2_one i2_other i2_kind i2_years i2_sawn i2_pairs i2_gone) (wX E ad x_imageCount x_lastTrouble x_lastFault x_lastPlace pa_names pa_faultNumber pa_faultPlace rd_tape rd_length rd_end rd_next rd_sort rd_start rd_value rd_word to_unsurePair to_unsureYears to_triedPair to_seats to_slack to_sawInches to_quarrelChance to_people to_forkBits to_unsure to_tried to_triedFedBits tf_seatOf tf_one tf_other tf_kind tf_years tf_sawn tf_pairs tf_gone bd_unsurePair bd_unsureYears bd_triedPair bd_seats bd_slack bd_sawInches bd_quarrelChance bd_people bd_forkBits bd_unsure bd_tried bd_triedFedBits bf_seatOf bf_one bf_other bf_kind bf_years bf_sawn bf_pairs bf_gone nw_seatOf nw_one nw_other nw_kind nw_years nw_sawn nw_pairs nw_gone sc_seatOf sc_handle sc_both sc_slopOf sc_forkBits sc_canBits sc_bestBits sc_bestSlops sl_bits sl_count se_bestRow se_row se_pairAt se_hope se_hopeAt se_slopAt se_farBits se_gain se_worth se_bestWorth se_fresh ch_both ch_cost ch_bit ch_items ch_leastCost ch_leastBits cl_bits cl_count fi_sets fi_count ps_act ps_whom ps_amount ps_next ps_count i0_seatOf i0_one i0_other i0_kind i0_years i0_sawn i0_pairs i0_gone i1_seatOf i1_one i1_other i1_kind i1_years i1_sawn i1_pairs i1_gone i2_seatOf i2_one i2_other i2_kind i2_years i2_sawn i2_pairs i2_gone) R0 := by
  refine xI_of (by decide) (Nat.le_of_ble_eq_true rfl) (fun p e s m args below meth c A C ls hl G => ?_)
  have hx := C.1
  have hb := C.2.1
  have hl : lv_has ls 1 [(0, .ref (ad 0))] := hl
  unfold f_X_trouble at hf
  refine lv_aload_n hx hb dX10_trouble_0 rfl (lv_at hl 0 rfl) ?_
  refine x_get C G fX10_107.g (wX_at0) rfl dX10_trouble_1 ?_
  obtain rfl := Option.some.inj hf
  exact xI_ret C G rfl dX10_trouble_4
set_option maxHeartbeats 4000000 in
set_option maxRecDepth 100000 in
theorem w_X_hundredTo_any_L4 {p : Program} {l : Launch} {e : Env} {s : State} {m : MethodId} {args : Array Value} {below : List Frame} {meth : Method} {c : Code} {A : Nat → Prop} {E : xE} {Q : State → Prop} {ws : va_W} {l0 : Int32} {o : Int64} (C : xC p s m args meth c cX10_hundredTo 4 RX10 E A (some .long)) (J : ∀ (H : Heap) (locs : List Loc) (ls : Array Slot), xG s E A ws H locs → lv_has ls 4 [(1, .long o)] → W p l e (xR 0 0) s m args below meth c H locs 0 0 Q (F0 m 21 ls [])) :
    ∀ (n : Nat) (l1 : Int64) (l3 : Int32) (H : Heap) (locs : List Loc) (ls : Array Slot), xG s E A ws H locs → lv_has ls 4 [(0, .int l0), (1, .long l1), (3, .int l3)] → f_X_hundredTo_L4 l0 n l1 l3 = some o → W p l e (xR 0 0) s m args below meth c H locs 0 0 Q (F0 m 4 ls []) := by
  have hx := C.1
  have hb := C.2.1
  intro n
  induction n with
  | zero =>
    intro l1 l3 H locs ls G hl hf
    exact nomatch (show (none : Option (Int64)) = some o from hf)
  | succ n ih =>
    intro l1 l3 H locs ls G hl hf
    rw [f_X_hundredTo_L4] at hf
    refine lv_iload_n hx hb dX10_hundredTo_4 rfl (lv_at hl 2 rfl) ?_
    refine lv_iload_n hx hb dX10_hundredTo_5 rfl (lv_at hl 0 rfl) ?_
    refine lv_icmp_ge (tgt := 21) hx hb dX10_hundredTo_6 (by decide) (fun h => ?_) (fun h => ?_)
    · have hf := it_t h hf
      obtain rfl := Option.some.inj hf
      exact J _ _ _ G (lv_sub hl [1] rfl)
    · have hf := it_f h hf
      refine lv_lload_n hx hb dX10_hundredTo_9 rfl (lv_at hl 1 rfl) ?_
      refine lv_ldc2 hx hb C.2.2.2.1 (C.2.2.2.2.1 _ qX10_419) dX10_hundredTo_10 ?_
      refine lv_lmul hx hb dX10_hundredTo_13 ?_
      refine lv_topl (fun x1 ex1 => ?_)
      have hf := lt_go ex1 hf
      refine lv_lstore_n (lv' := [(1, .long x1), (0, .int l0), (3, .int l3)]) hx hb dX10_hundredTo_14 rfl hl (by decide) rfl (fun ls hl => ?_)
      obtain ⟨x2, ex2⟩ : ∃ z : Int32, z = l3 + (1 : Int32) := ⟨_, rfl⟩
      have hf := lt_go ex2 hf
      refine lv_iinc (v := x2) (lv' := [(3, .int x2), (1, .long x1), (0, .int l0)]) hx hb dX10_hundredTo_15 hl (k := 2) rfl (by rw [ex2]; rfl) (by decide) rfl (fun ls hl => ?_)
      refine lv_goto (tgt := 4) hx hb dX10_hundredTo_18 (by decide) ?_
      exact ih x1 x2 _ _ _ G (lv_sub hl [2, 1, 0] rfl) hf
set_option maxHeartbeats 4000000 in
set_option maxRecDepth 100000 in
theorem c_X_hundredTo_any {l : Launch} {E : xE} {ws : va_W} {l0 : Int32} {R0 : Int64} (hf : f_X_hundredTo l0 = some R0) : xL l E yX10_hundredTo cX10_hundredTo 4 (some .long) 0 0 [.int l0] ws ws R0 := by
  refine xL_of (by decide) (Nat.le_of_ble_eq_true rfl) (fun p e s m args below meth c A C ls hl G => ?_)
  have hx := C.1
  have hb := C.2.1
  have hl : lv_has ls 4 [(0, .int l0)] := hl
  unfold f_X_hundredTo at hf
  refine lv_lconst (v := 1) hx hb dX10_hundredTo_0 (by decide) ?_
  refine lv_lstore_n (lv' := [(1, .long (1 : Int64)), (0, .int l0)]) hx hb dX10_hundredTo_1 rfl hl (by decide) rfl (fun ls hl => ?_)
  refine lv_iconst (v := 0) hx hb dX10_hundredTo_2 (by decide) ?_
  refine lv_istore_n (lv' := [(3, .int (0 : Int32)), (1, .long (1 : Int64)), (0, .int l0)]) hx hb dX10_hundredTo_3 rfl hl (by decide) rfl (fun ls hl => ?_)
  obtain ⟨x3, hr, hf⟩ := bd_go hf
  have Jx3 : ∀ (H : Heap) (locs : List Loc) (ls : Array Slot), xG s E A ws H locs → lv_has ls 4 [(1, .long x3)] → W p l e (xR 0 0) s m args below meth c H locs 0 0 (MQ below (xqL E A ws R0) args s 0 0 A) (F0 m 21 ls []) := by
    intro H locs ls G hl
    refine lv_lload_n hx hb dX10_hundredTo_21 rfl (lv_at hl 0 rfl) ?_
    obtain rfl := Option.some.inj hf
    exact xL_ret C G dX10_hundredTo_22
  exact w_X_hundredTo_any_L4 C Jx3 fu _ _ _ _ _ G (lv_sub hl [2, 1, 0] rfl) hr
set_option maxHeartbeats 4000000 in
set_option maxRecDepth 100000 in
theorem w_X_lowestTerm_any_L9 {p : Program} {l : Launch} {e : Env} {s : State} {m : MethodId} {args : Array Value} {below : List Frame} {meth : Method} {c : Code} {A : Nat → Prop} {E : xE} {Q : State → Prop} {ws : va_W} {l0 : Int64} {l2 : Int64} {l4 : Int32} {o : Int64} (C : xC p s m args meth c cX10_lowestTerm 12 RX10 E A (some .long)) (J : ∀ (H : Heap) (locs : List Loc) (ls : Array Slot), xG s E A ws H locs → lv_has ls 12 [(0, .long l0), (2, .long l2), (4, .int l4), (5, .long o)] → W p l e (xR 0 0) s m args below meth c H locs 0 0 Q (F0 m 45 ls [])) :
    ∀ (n : Nat) (l5 : Int64) (l7 : Int64) (l9 : Int32) (H : Heap) (locs : List Loc) (ls : Array Slot), xG s E A ws H locs → lv_has ls 12 [(0, .long l0), (2, .long l2), (4, .int l4), (5, .long l5), (7, .long l7), (9, .int l9)] → f_X_lowestTerm_L9 n l5 l7 l9 = some o → W p l e (xR 0 0) s m args below meth c H locs 0 0 Q (F0 m 9 ls []) := by
  have hx := C.1
  have hb := C.2.1
  intro n
  induction n with
  | zero =>
    intro l5 l7 l9 H locs ls G hl hf
    exact nomatch (show (none : Option (Int64)) = some o from hf)
  | succ n ih =>
    intro l5 l7 l9 H locs ls G hl hf
    rw [f_X_lowestTerm_L9] at hf
    refine lv_iload hx hb dX10_lowestTerm_9 (lv_at hl 5 rfl) ?_
    refine lv_sipush (v := 200) hx hb dX10_lowestTerm_11 (by decide) ?_
    obtain ⟨b1, hr, hf⟩ := bd_go hf
    cases b1 with
    | true =>
      have hf := it_t rfl hf
      have J : ∀ (H : Heap) (locs : List Loc), xG s E A ws H locs → W p l e (xR 0 0) s m args below meth c H locs 0 0 Q (F0 m 45 ls []) := by
        intro H locs G
        obtain rfl := Option.some.inj hf
        exact J _ _ _ G (lv_sub hl [0, 1, 2, 3] rfl)
      have hf := hr
      clear hr
      refine lv_icmp_ge (tgt := 45) hx hb dX10_lowestTerm_14 (by decide) (fun h => ?_) (fun h => ?_)
      · have hf := it_t h hf
        exact J _ _ G
      · have hf := it_f h hf
        refine lv_lload hx hb dX10_lowestTerm_17 (lv_at hl 4 rfl) ?_
        refine lv_lconst (v := 0) hx hb dX10_lowestTerm_19 (by decide) ?_
        refine W.lcmp hx hb dX10_lowestTerm_20 ?_
        refine lv_if_eq (tgt := 45) hx hb dX10_lowestTerm_21 (by decide) (fun h => ?_) (fun h => ?_)
        · have hf := it_t h hf
          exact J _ _ G
        · have hf := it_f h hf
          exact absurd (Option.some.inj hf) (by decide)
    | false =>
      have hf := it_f (by decide) hf
      have J : ∀ (H : Heap) (locs : List Loc), xG s E A ws H locs → W p l e (xR 0 0) s m args below meth c H locs 0 0 Q (F0 m 24 ls []) := by
        intro H locs G
        refine lv_lload hx hb dX10_lowestTerm_24 (lv_at hl 3 rfl) ?_
        refine lv_lload hx hb dX10_lowestTerm_26 (lv_at hl 4 rfl) ?_
        have hi := nzL_ne hf
        have hf := nzL_go hf
        refine lv_lrem hx hb dX10_lowestTerm_28 hi ?_
        refine lv_topl (fun x2 ex2 => ?_)
        have hf := lt_go ex2 hf
        refine lv_lstore (lv' := [(10, .long x2), (0, .long l0), (2, .long l2), (4, .int l4), (5, .long l5), (7, .long l7), (9, .int l9)]) hx hb dX10_lowestTerm_29 hl (by decide) rfl (fun ls hl => ?_)
        refine lv_lload hx hb dX10_lowestTerm_31 (lv_at hl 5 rfl) ?_
        refine lv_lstore (lv' := [(5, .long l7), (10, .long x2), (0, .long l0), (2, .long l2), (4, .int l4), (7, .long l7), (9, .int l9)]) hx hb dX10_lowestTerm_33 hl (by decide) rfl (fun ls hl => ?_)
        refine lv_lload hx hb dX10_lowestTerm_35 (lv_at hl 1 rfl) ?_
        refine lv_lstore (lv' := [(7, .long x2), (5, .long l7), (10, .long x2), (0, .long l0), (2, .long l2), (4, .int l4), (9, .int l9)]) hx hb dX10_lowestTerm_37 hl (by decide) rfl (fun ls hl => ?_)
        obtain ⟨x3, ex3⟩ : ∃ z : Int32, z = l9 + (1 : Int32) := ⟨_, rfl⟩
        have hf := lt_go ex3 hf
        refine lv_iinc (v := x3) (lv' := [(9, .int x3), (7, .long x2), (5, .long l7), (10, .long x2), (0, .long l0), (2, .long l2), (4, .int l4)]) hx hb dX10_lowestTerm_39 hl (k := 6) rfl (by rw [ex3]; rfl) (by decide) rfl (fun ls hl => ?_)
        refine lv_goto (tgt := 9) hx hb dX10_lowestTerm_42 (by decide) ?_
        exact ih l7 x2 x3 _ _ _ G (lv_sub hl [4, 5, 6, 2, 1, 0] rfl) hf
      have hf := hr
      clear hr
      refine lv_icmp_ge (tgt := 45) hx hb dX10_lowestTerm_14 (by decide) (fun h => ?_) (fun h => ?_)
      · have hf := it_t h hf
        exact absurd (Option.some.inj hf) (by decide)
      · have hf := it_f h hf
        refine lv_lload hx hb dX10_lowestTerm_17 (lv_at hl 4 rfl) ?_
        refine lv_lconst (v := 0) hx hb dX10_lowestTerm_19 (by decide) ?_
        refine W.lcmp hx hb dX10_lowestTerm_20 ?_
        refine lv_if_eq (tgt := 45) hx hb dX10_lowestTerm_21 (by decide) (fun h => ?_) (fun h => ?_)
        · have hf := it_t h hf
          exact absurd (Option.some.inj hf) (by decide)
        · have hf := it_f h hf
          exact J _ _ G
set_option maxHeartbeats 4000000 in
set_option maxRecDepth 100000 in
theorem c_X_lowestTerm_any {l : Launch} {E : xE} {ws : va_W} {l0 : Int64} {l2 : Int64} {l4 : Int32} {R0 : Int64} (hf : f_X_lowestTerm l0 l2 l4 = some R0) : xL l E yX10_lowestTerm cX10_lowestTerm 12 (some .long) 0 0 [.long l0, .long l2, .int l4] ws ws R0 := by
  refine xL_of (by decide) (Nat.le_of_ble_eq_true rfl) (fun p e s m args below meth c A C ls hl G => ?_)
  have hx := C.1
  have hb := C.2.1
  have hl : lv_has ls 12 [(0, .long l0), (2, .long l2), (4, .int l4)] := hl
  unfold f_X_lowestTerm at hf
  refine lv_lload_n hx hb dX10_lowestTerm_0 rfl (lv_at hl 1 rfl) ?_
  refine lv_lstore (lv' := [(5, .long l2), (0, .long l0), (2, .long l2), (4, .int l4)]) hx hb dX10_lowestTerm_1 hl (by decide) rfl (fun ls hl => ?_)
  refine lv_lload_n hx hb dX10_lowestTerm_3 rfl (lv_at hl 1 rfl) ?_
  refine lv_lstore (lv' := [(7, .long l0), (5, .long l2), (0, .long l0), (2, .long l2), (4, .int l4)]) hx hb dX10_lowestTerm_4 hl (by decide) rfl (fun ls hl => ?_)
  refine lv_iconst (v := 0) hx hb dX10_lowestTerm_6 (by decide) ?_
  refine lv_istore (lv' := [(9, .int (0 : Int32)), (7, .long l0), (5, .long l2), (0, .long l0), (2, .long l2), (4, .int l4)]) hx hb dX10_lowestTerm_7 hl (by decide) rfl (fun ls hl => ?_)
  obtain ⟨x4, hr, hf⟩ := bd_go hf
  have Jx4 : ∀ (H : Heap) (locs : List Loc) (ls : Array Slot), xG s E A ws H locs → lv_has ls 12 [(0, .long l0), (2, .long l2), (4, .int l4), (5, .long x4)] → W p l e (xR 0 0) s m args below meth c H locs 0 0 (MQ below (xqL E A ws R0) args s 0 0 A) (F0 m 45 ls []) := by
    intro H locs ls G hl
    refine lv_lload hx hb dX10_lowestTerm_45 (lv_at hl 3 rfl) ?_
    refine lv_lconst (v := 0) hx hb dX10_lowestTerm_47 (by decide) ?_
    refine W.lcmp hx hb dX10_lowestTerm_48 ?_
    refine lv_if_ne (tgt := 54) hx hb dX10_lowestTerm_49 (by decide) (fun h => ?_) (fun h => ?_)
    · have hf := it_f h hf
      refine lv_iload hx hb dX10_lowestTerm_54 (lv_at hl 2 rfl) ?_
      refine lv_if_eq (tgt := 66) hx hb dX10_lowestTerm_56 (by decide) (fun h => ?_) (fun h => ?_)
      · have hf := it_t h hf
        refine lv_lload_n hx hb dX10_lowestTerm_66 rfl (lv_at hl 0 rfl) ?_
        refine lv_lload hx hb dX10_lowestTerm_67 (lv_at hl 3 rfl) ?_
        have hi := nzL_ne hf
        have hf := nzL_go hf
        refine lv_ldiv hx hb dX10_lowestTerm_69 hi ?_
        obtain rfl := Option.some.inj hf
        exact xL_ret C G dX10_lowestTerm_70
      · have hf := it_f h hf
        refine lv_lload_n hx hb dX10_lowestTerm_59 rfl (lv_at hl 1 rfl) ?_
        refine lv_lload hx hb dX10_lowestTerm_60 (lv_at hl 3 rfl) ?_
        have hi := nzL_ne hf
        have hf := nzL_go hf
        refine lv_ldiv hx hb dX10_lowestTerm_62 hi ?_
        refine lv_goto (tgt := 70) hx hb dX10_lowestTerm_63 (by decide) ?_
        obtain rfl := Option.some.inj hf
        exact xL_ret C G dX10_lowestTerm_70
    · have hf := it_t h hf
      refine lv_lconst (v := 0) hx hb dX10_lowestTerm_52 (by decide) ?_
      obtain rfl := Option.some.inj hf
      exact xL_ret C G dX10_lowestTerm_53
  exact w_X_lowestTerm_any_L9 C Jx4 fu _ _ _ _ _ _ G (lv_sub hl [3, 4, 5, 2, 1, 0] rfl) hr
