set_option maxHeartbeats 4000000 in
set_option maxRecDepth 100000 in
theorem w_X_sumOf_ch_bit_L4 {p : Program} {l : Launch} {e : Env} {s : State} {m : MethodId} {args : Array Value} {below : List Frame} {meth : Method} {c : Code} {A : Nat → Prop} {E : xE} {Q : State → Prop} {ad : Nat → Nat} {x_imageCount x_lastTrouble x_lastFault x_lastPlace pa_faultNumber pa_faultPlace rd_length rd_end rd_next rd_sort rd_start rd_value to_seats to_slack to_sawInches to_quarrelChance to_people to_forkBits to_unsure to_tried to_triedFedBits tf_pairs tf_gone bd_seats bd_slack bd_sawInches bd_quarrelChance bd_people bd_forkBits bd_unsure bd_tried bd_triedFedBits bf_pairs bf_gone nw_pairs nw_gone sc_forkBits sc_canBits sc_bestBits sc_bestSlops sl_count se_bestWorth se_fresh ch_items ch_leastCost ch_leastBits cl_count fi_count ps_next ps_count i0_pairs i0_gone i1_pairs i1_gone i2_pairs i2_gone : Int32} {pa_names : Nat → Int64} {rd_tape to_unsurePair to_unsureYears to_triedPair tf_seatOf tf_one tf_other tf_kind tf_years tf_sawn bd_unsurePair bd_unsureYears bd_triedPair bf_seatOf bf_one bf_other bf_kind bf_years bf_sawn nw_seatOf nw_one nw_other nw_kind nw_years nw_sawn sc_seatOf sc_handle sc_both sc_slopOf sl_bits se_bestRow se_row se_pairAt se_hope se_hopeAt se_slopAt se_farBits se_gain se_worth ch_both ch_cost ch_bit cl_bits fi_sets ps_act ps_whom ps_amount i0_seatOf i0_one i0_other i0_kind i0_years i0_sawn i1_seatOf i1_one i1_other i1_kind i1_years i1_sawn i2_seatOf i2_one i2_other i2_kind i2_years i2_sawn : Nat → Int32} {rd_word : Int64} {l0 : Int32} {o : Int32} (C : xC p s m args meth c cX10_sumOf 4 RX10 E A (some .int)) (J : ∀ (H : Heap) (locs : List Loc) (ls : Array Slot), xG s E A (wX E ad x_imageCount x_lastTrouble x_lastFault x_lastPlace pa_names pa_faultNumber pa_faultPlace rd_tape rd_length rd_end rd_next rd_sort rd_start rd_value rd_word to_unsurePair to_unsureYears to_triedPair to_seats to_slack to_sawInches to_quarrelChance to_people to_forkBits to_unsure to_tried to_triedFedBits tf_seatOf tf_one tf_other tf_kind tf_years tf_sawn tf_pairs tf_gone bd_unsurePair bd_unsureYears bd_triedPair bd_seats bd_slack bd_sawInches bd_quarrelChance bd_people bd_forkBits bd_unsure bd_tried bd_triedFedBits bf_seatOf bf_one bf_other bf_kind bf_years bf_sawn bf_pairs bf_gone nw_seatOf nw_one nw_other nw_kind nw_years nw_sawn nw_pairs nw_gone sc_seatOf sc_handle sc_both sc_slopOf sc_forkBits sc_canBits sc_bestBits sc_bestSlops sl_bits sl_count se_bestRow se_row se_pairAt se_hope se_hopeAt se_slopAt se_farBits se_gain se_worth se_bestWorth se_fresh ch_both ch_cost ch_bit ch_items ch_leastCost ch_leastBits cl_bits cl_count fi_sets fi_count ps_act ps_whom ps_amount ps_next ps_count i0_seatOf i0_one i0_other i0_kind i0_years i0_sawn i0_pairs i0_gone i1_seatOf i1_one i1_other i1_kind i1_years i1_sawn i1_pairs i1_gone i2_seatOf i2_one i2_other i2_kind i2_years i2_sawn i2_pairs i2_gone) H locs → lv_has ls 4 [(2, .int o)] → W p l e (xR 1 21) s m args below meth c H locs 0 0 Q (F0 m 30 ls [])) :
    ∀ (n : Nat) (l2 : Int32) (l3 : Int32) (H : Heap) (locs : List Loc) (ls : Array Slot), xG s E A (wX E ad x_imageCount x_lastTrouble x_lastFault x_lastPlace pa_names pa_faultNumber pa_faultPlace rd_tape rd_length rd_end rd_next rd_sort rd_start rd_value rd_word to_unsurePair to_unsureYears to_triedPair to_seats to_slack to_sawInches to_quarrelChance to_people to_forkBits to_unsure to_tried to_triedFedBits tf_seatOf tf_one tf_other tf_kind tf_years tf_sawn tf_pairs tf_gone bd_unsurePair bd_unsureYears bd_triedPair bd_seats bd_slack bd_sawInches bd_quarrelChance bd_people bd_forkBits bd_unsure bd_tried bd_triedFedBits bf_seatOf bf_one bf_other bf_kind bf_years bf_sawn bf_pairs bf_gone nw_seatOf nw_one nw_other nw_kind nw_years nw_sawn nw_pairs nw_gone sc_seatOf sc_handle sc_both sc_slopOf sc_forkBits sc_canBits sc_bestBits sc_bestSlops sl_bits sl_count se_bestRow se_row se_pairAt se_hope se_hopeAt se_slopAt se_farBits se_gain se_worth se_bestWorth se_fresh ch_both ch_cost ch_bit ch_items ch_leastCost ch_leastBits cl_bits cl_count fi_sets fi_count ps_act ps_whom ps_amount ps_next ps_count i0_seatOf i0_one i0_other i0_kind i0_years i0_sawn i0_pairs i0_gone i1_seatOf i1_one i1_other i1_kind i1_years i1_sawn i1_pairs i1_gone i2_seatOf i2_one i2_other i2_kind i2_years i2_sawn i2_pairs i2_gone) H locs → lv_has ls 4 [(0, .int l0), (1, .ref (ad 55)), (2, .int l2), (3, .int l3)] → f_X_sumOf_L4 l0 ch_bit n l2 l3 = some o → W p l e (xR 1 21) s m args below meth c H locs 0 0 Q (F0 m 4 ls []) := by
  have hx := C.1
  have hb := C.2.1
  intro n
  induction n with
  | zero =>
    intro l2 l3 H locs ls G hl hf
    exact nomatch (show (none : Option (Int32)) = some o from hf)
  | succ n ih =>
    intro l2 l3 H locs ls G hl hf
    rw [f_X_sumOf_L4] at hf
    refine lv_iload_n hx hb dX10_sumOf_4 rfl (lv_at hl 3 rfl) ?_
    refine lv_aload_n hx hb dX10_sumOf_5 rfl (lv_at hl 1 rfl) ?_
    refine x_ialen C G (wX_at55) dX10_sumOf_6 ?_
    refine lv_icmp_ge (tgt := 30) hx hb dX10_sumOf_7 (by decide) (fun h => ?_) (fun h => ?_)
    · have hf := it_t h hf
      obtain rfl := Option.some.inj hf
      exact J _ _ _ G (lv_sub hl [2] rfl)
    · have hf := it_f h hf
      refine lv_iload_n hx hb dX10_sumOf_10 rfl (lv_at hl 0 rfl) ?_
      refine lv_iload_n hx hb dX10_sumOf_11 rfl (lv_at hl 3 rfl) ?_
      obtain ⟨x1, hc, hf⟩ := bd_go hf
      refine xI_S C G (c_X_has_any hc) mX10_has kX10_257 ⟨Nat.le_of_ble_eq_true rfl, Nat.le_of_ble_eq_true rfl⟩ rfl hl.1 rfl (Nat.le_of_ble_eq_true rfl) ⟨Nat.le_refl _, Nat.le_refl _⟩ dX10_sumOf_12 (fun hz1 H locs G => ?_)
      refine lv_if_eq (tgt := 24) hx hb dX10_sumOf_15 (by decide) (fun h => ?_) (fun h => ?_)
      · have hf := it_t h hf
        obtain ⟨x2, ex2⟩ : ∃ z : Int32, z = l3 + (1 : Int32) := ⟨_, rfl⟩
        have hf := lt_go ex2 hf
        refine lv_iinc (v := x2) (lv' := [(3, .int x2), (0, .int l0), (1, .ref (ad 55)), (2, .int l2)]) hx hb dX10_sumOf_24 hl (k := 3) rfl (by rw [ex2]; rfl) (by decide) rfl (fun ls hl => ?_)
        refine lv_goto (tgt := 4) hx hb dX10_sumOf_27 (by decide) ?_
        exact ih l2 x2 _ _ _ G (lv_sub hl [1, 2, 3, 0] rfl) hf
      · have hf := it_f h hf
        refine lv_iload_n hx hb dX10_sumOf_18 rfl (lv_at hl 2 rfl) ?_
        refine lv_aload_n hx hb dX10_sumOf_19 rfl (lv_at hl 1 rfl) ?_
        refine lv_iload_n hx hb dX10_sumOf_20 rfl (lv_at hl 3 rfl) ?_
        have hi := ck_in hf
        have hf := ck_go hf
        refine x_iald C G (wX_at55) hi dX10_sumOf_21 ?_
        refine lv_iadd hx hb dX10_sumOf_22 ?_
        refine lv_topi (fun x3 ex3 => ?_)
        have hf := lt_go ex3 hf
        refine lv_istore_n (lv' := [(2, .int x3), (0, .int l0), (1, .ref (ad 55)), (3, .int l3)]) hx hb dX10_sumOf_23 rfl hl (by decide) rfl (fun ls hl => ?_)
        obtain ⟨x4, ex4⟩ : ∃ z : Int32, z = l3 + (1 : Int32) := ⟨_, rfl⟩
        have hf := lt_go ex4 hf
        refine lv_iinc (v := x4) (lv' := [(3, .int x4), (2, .int x3), (0, .int l0), (1, .ref (ad 55))]) hx hb dX10_sumOf_24 hl (k := 3) rfl (by rw [ex4]; rfl) (by decide) rfl (fun ls hl => ?_)
        refine lv_goto (tgt := 4) hx hb dX10_sumOf_27 (by decide) ?_
        exact ih x3 x4 _ _ _ G (lv_sub hl [2, 3, 1, 0] rfl) hf
set_option maxHeartbeats 4000000 in
set_option maxRecDepth 100000 in
theorem c_X_sumOf_ch_bit {l : Launch} {E : xE} {ad : Nat → Nat} {x_imageCount x_lastTrouble x_lastFault x_lastPlace pa_faultNumber pa_faultPlace rd_length rd_end rd_next rd_sort rd_start rd_value to_seats to_slack to_sawInches to_quarrelChance to_people to_forkBits to_unsure to_tried to_triedFedBits tf_pairs tf_gone bd_seats bd_slack bd_sawInches bd_quarrelChance bd_people bd_forkBits bd_unsure bd_tried bd_triedFedBits bf_pairs bf_gone nw_pairs nw_gone sc_forkBits sc_canBits sc_bestBits sc_bestSlops sl_count se_bestWorth se_fresh ch_items ch_leastCost ch_leastBits cl_count fi_count ps_next ps_count i0_pairs i0_gone i1_pairs i1_gone i2_pairs i2_gone : Int32} {pa_names : Nat → Int64} {rd_tape to_unsurePair to_unsureYears to_triedPair tf_seatOf tf_one tf_other tf_kind tf_years tf_sawn bd_unsurePair bd_unsureYears bd_triedPair bf_seatOf bf_one bf_other bf_kind bf_years bf_sawn nw_seatOf nw_one nw_other nw_kind nw_years nw_sawn sc_seatOf sc_handle sc_both sc_slopOf sl_bits se_bestRow se_row se_pairAt se_hope se_hopeAt se_slopAt se_farBits se_gain se_worth ch_both ch_cost ch_bit cl_bits fi_sets ps_act ps_whom ps_amount i0_seatOf i0_one i0_other i0_kind i0_years i0_sawn i1_seatOf i1_one i1_other i1_kind i1_years i1_sawn i2_seatOf i2_one i2_other i2_kind i2_years i2_sawn : Nat → Int32} {rd_word : Int64} {l0 : Int32} {R0 : Int32} (hf : f_X_sumOf l0 ch_bit = some R0) : xI l E yX10_sumOf cX10_sumOf 4 (some .int) 1 21 [.int l0, .ref (ad 55)] (wX E ad x_imageCount x_lastTrouble x_lastFault x_lastPlace pa_names pa_faultNumber pa_faultPlace rd_tape rd_length rd_end rd_next rd_sort rd_start rd_value rd_word to_unsurePair to_unsureYears to_triedPair to_seats to_slack to_sawInches to_quarrelChance to_people to_forkBits to_unsure to_tried to_triedFedBits tf_seatOf tf_one tf_other tf_kind tf_years tf_sawn tf_pairs tf_gone bd_unsurePair bd_unsureYears bd_triedPair bd_seats bd_slack bd_sawInches bd_quarrelChance bd_people bd_forkBits bd_unsure bd_tried bd_triedFedBits bf_seatOf bf_one bf_other bf_kind bf_years bf_sawn bf_pairs bf_gone nw_seatOf nw_one nw_other nw_kind nw_years nw_sawn nw_pairs nw_gone sc_seatOf sc_handle sc_both sc_slopOf sc_forkBits sc_canBits sc_bestBits sc_bestSlops sl_bits sl_count se_bestRow se_row se_pairAt se_hope se_hopeAt se_slopAt se_farBits se_gain se_worth se_bestWorth se_fresh ch_both ch_cost ch_bit ch_items ch_leastCost ch_leastBits cl_bits cl_count fi_sets fi_count ps_act ps_whom ps_amount ps_next ps_count i0_seatOf i0_one i0_other i0_kind i0_years i0_sawn i0_pairs i0_gone i1_seatOf i1_one i1_other i1_kind i1_years i1_sawn i1_pairs i1_gone i2_seatOf i2_one i2_other i2_kind i2_years i2_sawn i2_pairs i2_gone) (wX E ad x_imageCount x_lastTrouble x_lastFault x_lastPlace pa_names pa_faultNumber pa_faultPlace rd_tape rd_length rd_end rd_next rd_sort rd_start rd_value rd_word to_unsurePair to_unsureYears to_triedPair to_seats to_slack to_sawInches to_quarrelChance to_people to_forkBits to_unsure to_tried to_triedFedBits tf_seatOf tf_one tf_other tf_kind tf_years tf_sawn tf_pairs tf_gone bd_unsurePair bd_unsureYears bd_triedPair bd_seats bd_slack bd_sawInches bd_quarrelChance bd_people bd_forkBits bd_unsure bd_tried bd_triedFedBits bf_seatOf bf_one bf_other bf_kind bf_years bf_sawn bf_pairs bf_gone nw_seatOf nw_one nw_other nw_kind nw_years nw_sawn nw_pairs nw_gone sc_seatOf sc_handle sc_both sc_slopOf sc_forkBits sc_canBits sc_bestBits sc_bestSlops sl_bits sl_count se_bestRow se_row se_pairAt se_hope se_hopeAt se_slopAt se_farBits se_gain se_worth se_bestWorth se_fresh ch_both ch_cost ch_bit ch_items ch_leastCost ch_leastBits cl_bits cl_count fi_sets fi_count ps_act ps_whom ps_amount ps_next ps_count i0_seatOf i0_one i0_other i0_kind i0_years i0_sawn i0_pairs i0_gone i1_seatOf i1_one i1_other i1_kind i1_years i1_sawn i1_pairs i1_gone i2_seatOf i2_one i2_other i2_kind i2_years i2_sawn i2_pairs i2_gone) R0 := by
  refine xI_of (by decide) (Nat.le_of_ble_eq_true rfl) (fun p e s m args below meth c A C ls hl G => ?_)
  have hx := C.1
  have hb := C.2.1
  have hl : lv_has ls 4 [(0, .int l0), (1, .ref (ad 55))] := hl
  unfold f_X_sumOf at hf
  refine lv_iconst (v := 0) hx hb dX10_sumOf_0 (by decide) ?_
  refine lv_istore_n (lv' := [(2, .int (0 : Int32)), (0, .int l0), (1, .ref (ad 55))]) hx hb dX10_sumOf_1 rfl hl (by decide) rfl (fun ls hl => ?_)
  refine lv_iconst (v := 0) hx hb dX10_sumOf_2 (by decide) ?_
  refine lv_istore_n (lv' := [(3, .int (0 : Int32)), (2, .int (0 : Int32)), (0, .int l0), (1, .ref (ad 55))]) hx hb dX10_sumOf_3 rfl hl (by decide) rfl (fun ls hl => ?_)
  obtain ⟨x5, hr, hf⟩ := bd_go hf
  have Jx5 : ∀ (H : Heap) (locs : List Loc) (ls : Array Slot), xG s E A (wX E ad x_imageCount x_lastTrouble x_lastFault x_lastPlace pa_names pa_faultNumber pa_faultPlace rd_tape rd_length rd_end rd_next rd_sort rd_start rd_value rd_word to_unsurePair to_unsureYears to_triedPair to_seats to_slack to_sawInches to_quarrelChance to_people to_forkBits to_unsure to_tried to_triedFedBits tf_seatOf tf_one tf_other tf_kind tf_years tf_sawn tf_pairs tf_gone bd_unsurePair bd_unsureYears bd_triedPair bd_seats bd_slack bd_sawInches bd_quarrelChance bd_people bd_forkBits bd_unsure bd_tried bd_triedFedBits bf_seatOf bf_one bf_other bf_kind bf_years bf_sawn bf_pairs bf_gone nw_seatOf nw_one nw_other nw_kind nw_years nw_sawn nw_pairs nw_gone sc_seatOf sc_handle sc_both sc_slopOf sc_forkBits sc_canBits sc_bestBits sc_bestSlops sl_bits sl_count se_bestRow se_row se_pairAt se_hope se_hopeAt se_slopAt se_farBits se_gain se_worth se_bestWorth se_fresh ch_both ch_cost ch_bit ch_items ch_leastCost ch_leastBits cl_bits cl_count fi_sets fi_count ps_act ps_whom ps_amount ps_next ps_count i0_seatOf i0_one i0_other i0_kind i0_years i0_sawn i0_pairs i0_gone i1_seatOf i1_one i1_other i1_kind i1_years i1_sawn i1_pairs i1_gone i2_seatOf i2_one i2_other i2_kind i2_years i2_sawn i2_pairs i2_gone) H locs → lv_has ls 4 [(2, .int x5)] → W p l e (xR 1 21) s m args below meth c H locs 0 0 (MQ below (xqI E A (wX E ad x_imageCount x_lastTrouble x_lastFault x_lastPlace pa_names pa_faultNumber pa_faultPlace rd_tape rd_length rd_end rd_next rd_sort rd_start rd_value rd_word to_unsurePair to_unsureYears to_triedPair to_seats to_slack to_sawInches to_quarrelChance to_people to_forkBits to_unsure to_tried to_triedFedBits tf_seatOf tf_one tf_other tf_kind tf_years tf_sawn tf_pairs tf_gone bd_unsurePair bd_unsureYears bd_triedPair bd_seats bd_slack bd_sawInches bd_quarrelChance bd_people bd_forkBits bd_unsure bd_tried bd_triedFedBits bf_seatOf bf_one bf_other bf_kind bf_years bf_sawn bf_pairs bf_gone nw_seatOf nw_one nw_other nw_kind nw_years nw_sawn nw_pairs nw_gone sc_seatOf sc_handle sc_both sc_slopOf sc_forkBits sc_canBits sc_bestBits sc_bestSlops sl_bits sl_count se_bestRow se_row se_pairAt se_hope se_hopeAt se_slopAt se_farBits se_gain se_worth se_bestWorth se_fresh ch_both ch_cost ch_bit ch_items ch_leastCost ch_leastBits cl_bits cl_count fi_sets fi_count ps_act ps_whom ps_amount ps_next ps_count i0_seatOf i0_one i0_other i0_kind i0_years i0_sawn i0_pairs i0_gone i1_seatOf i1_one i1_other i1_kind i1_years i1_sawn i1_pairs i1_gone i2_seatOf i2_one i2_other i2_kind i2_years i2_sawn i2_pairs i2_gone) (some .int) R0) args s 0 0 A) (F0 m 30 ls []) := by
    intro H locs ls G hl
    refine lv_iload_n hx hb dX10_sumOf_30 rfl (lv_at hl 0 rfl) ?_
    obtain rfl := Option.some.inj hf
    exact xI_ret C G rfl dX10_sumOf_31
  exact w_X_sumOf_ch_bit_L4 C Jx5 fu _ _ _ _ _ G (lv_sub hl [2, 3, 1, 0] rfl) hr
set_option maxHeartbeats 4000000 in
set_option maxRecDepth 100000 in
theorem c_Choice_consider_ch {l : Launch} {E : xE} {ad : Nat → Nat} {x_imageCount x_lastTrouble x_lastFault x_lastPlace pa_faultNumber pa_faultPlace rd_length rd_end rd_next rd_sort rd_start rd_value to_seats to_slack to_sawInches to_quarrelChance to_people to_forkBits to_unsure to_tried to_triedFedBits tf_pairs tf_gone bd_seats bd_slack bd_sawInches bd_quarrelChance bd_people bd_forkBits bd_unsure bd_tried bd_triedFedBits bf_pairs bf_gone nw_pairs nw_gone sc_forkBits sc_canBits sc_bestBits sc_bestSlops sl_count se_bestWorth se_fresh ch_items ch_leastCost ch_leastBits cl_count fi_count ps_next ps_count i0_pairs i0_gone i1_pairs i1_gone i2_pairs i2_gone : Int32} {pa_names : Nat → Int64} {rd_tape to_unsurePair to_unsureYears to_triedPair tf_seatOf tf_one tf_other tf_kind tf_years tf_sawn bd_unsurePair bd_unsureYears bd_triedPair bf_seatOf bf_one bf_other bf_kind bf_years bf_sawn nw_seatOf nw_one nw_other nw_kind nw_years nw_sawn sc_seatOf sc_handle sc_both sc_slopOf sl_bits se_bestRow se_row se_pairAt se_hope se_hopeAt se_slopAt se_farBits se_gain se_worth ch_both ch_cost ch_bit cl_bits fi_sets ps_act ps_whom ps_amount i0_seatOf i0_one i0_other i0_kind i0_years i0_sawn i1_seatOf i1_one i1_other i1_kind i1_years i1_sawn i2_seatOf i2_one i2_other i2_kind i2_years i2_sawn : Nat → Int32} {rd_word : Int64} {l1 : Int32} {l2 : Int32} {R0 : Int32 × Int32} (hf : f_Choice_consider l1 l2 ch_leastCost ch_leastBits = some R0) : xV l E yX1_consider cX1_consider 3 none 0 0 [.ref (ad 52), .int l1, .int l2] (wX E ad x_imageCount x_lastTrouble x_lastFault x_lastPlace pa_names pa_faultNumber pa_faultPlace rd_tape rd_length rd_end rd_next rd_sort rd_start rd_value rd_word to_unsurePair to_unsureYears to_triedPair to_seats to_slack to_sawInches to_quarrelChance to_people to_forkBits to_unsure to_tried to_triedFedBits tf_seatOf tf_one tf_other tf_kind tf_years tf_sawn tf_pairs tf_gone bd_unsurePair bd_unsureYears bd_triedPair bd_seats bd_slack bd_sawInches bd_quarrelChance bd_people bd_forkBits bd_unsure bd_tried bd_triedFedBits bf_seatOf bf_one bf_other bf_kind bf_years bf_sawn bf_pairs bf_gone nw_seatOf nw_one nw_other nw_kind nw_years nw_sawn nw_pairs nw_gone sc_seatOf sc_handle sc_both sc_slopOf sc_forkBits sc_canBits sc_bestBits sc_bestSlops sl_bits sl_count se_bestRow se_row se_pairAt se_hope se_hopeAt se_slopAt se_farBits se_gain se_worth se_bestWorth se_fresh ch_both ch_cost ch_bit ch_items ch_leastCost ch_leastBits cl_bits cl_count fi_sets fi_count ps_act ps_whom ps_amount ps_next ps_count i0_seatOf i0_one i0_other i0_kind i0_years i0_sawn i0_pairs i0_gone i1_seatOf i1_one i1_other i1_kind i1_years i1_sawn i1_pairs i1_gone i2_seatOf i2_one i2_other i2_kind i2_years i2_sawn i2_pairs i2_gone) (wX E ad x_imageCount x_lastTrouble x_lastFault x_lastPlace pa_names pa_faultNumber pa_faultPlace rd_tape rd_length rd_end rd_next rd_sort rd_start rd_value rd_word to_unsurePair to_unsureYears to_triedPair to_seats to_slack to_sawInches to_quarrelChance to_people to_forkBits to_unsure to_tried to_triedFedBits tf_seatOf tf_one tf_other tf_kind tf_years tf_sawn tf_pairs tf_gone bd_unsurePair bd_unsureYears bd_triedPair bd_seats bd_slack bd_sawInches bd_quarrelChance bd_people bd_forkBits bd_unsure bd_tried bd_triedFedBits bf_seatOf bf_one bf_other bf_kind bf_years bf_sawn bf_pairs bf_gone nw_seatOf nw_one nw_other nw_kind nw_years nw_sawn nw_pairs nw_gone sc_seatOf sc_handle sc_both sc_slopOf sc_forkBits sc_canBits sc_bestBits sc_bestSlops sl_bits sl_count se_bestRow se_row se_pairAt se_hope se_hopeAt se_slopAt se_farBits se_gain se_worth se_bestWorth se_fresh ch_both ch_cost ch_bit ch_items R0.1 R0.2 cl_bits cl_count fi_sets fi_count ps_act ps_whom ps_amount ps_next ps_count i0_seatOf i0_one i0_other i0_kind i0_years i0_sawn i0_pairs i0_gone i1_seatOf i1_one i1_other i1_kind i1_years i1_sawn i1_pairs i1_gone i2_seatOf i2_one i2_other i2_kind i2_years i2_sawn i2_pairs i2_gone) := by
  refine xV_of (by decide) (Nat.le_of_ble_eq_true rfl) (fun p e s m args below meth c A C ls hl G => ?_)
  have hx := C.1
  have hb := C.2.1
  have hl : lv_has ls 3 [(0, .ref (ad 52)), (1, .int l1), (2, .int l2)] := hl
  unfold f_Choice_consider at hf
  refine lv_aload_n hx hb dX1_consider_0 rfl (lv_at hl 0 rfl) ?_
  refine x_get C G fX1_36.g (wX_at52) rfl dX1_consider_1 ?_
  obtain ⟨b1, hr, hf⟩ := bd_go hf
  cases b1 with
  | true =>
    have hf := it_t rfl hf
    have J : ∀ (H : Heap) (locs : List Loc), xG s E A (wX E ad x_imageCount x_lastTrouble x_lastFault x_lastPlace pa_names pa_faultNumber pa_faultPlace rd_tape rd_length rd_end rd_next rd_sort rd_start rd_value rd_word to_unsurePair to_unsureYears to_triedPair to_seats to_slack to_sawInches to_quarrelChance to_people to_forkBits to_unsure to_tried to_triedFedBits tf_seatOf tf_one tf_other tf_kind tf_years tf_sawn tf_pairs tf_gone bd_unsurePair bd_unsureYears bd_triedPair bd_seats bd_slack bd_sawInches bd_quarrelChance bd_people bd_forkBits bd_unsure bd_tried bd_triedFedBits bf_seatOf bf_one bf_other bf_kind bf_years bf_sawn bf_pairs bf_gone nw_seatOf nw_one nw_other nw_kind nw_years nw_sawn nw_pairs nw_gone sc_seatOf sc_handle sc_both sc_slopOf sc_forkBits sc_canBits sc_bestBits sc_bestSlops sl_bits sl_count se_bestRow se_row se_pairAt se_hope se_hopeAt se_slopAt se_farBits se_gain se_worth se_bestWorth se_fresh ch_both ch_cost ch_bit ch_items ch_leastCost ch_leastBits cl_bits cl_count fi_sets fi_count ps_act ps_whom ps_amount ps_next ps_count i0_seatOf i0_one i0_other i0_kind i0_years i0_sawn i0_pairs i0_gone i1_seatOf i1_one i1_other i1_kind i1_years i1_sawn i1_pairs i1_gone i2_seatOf i2_one i2_other i2_kind i2_years i2_sawn i2_pairs i2_gone) H locs → W p l e (xR 0 0) s m args below meth c H locs 0 0 (MQ below (xqV E A (wX E ad x_imageCount x_lastTrouble x_lastFault x_lastPlace pa_names pa_faultNumber pa_faultPlace rd_tape rd_length rd_end rd_next rd_sort rd_start rd_value rd_word to_unsurePair to_unsureYears to_triedPair to_seats to_slack to_sawInches to_quarrelChance to_people to_forkBits to_unsure to_tried to_triedFedBits tf_seatOf tf_one tf_other tf_kind tf_years tf_sawn tf_pairs tf_gone bd_unsurePair bd_unsureYears bd_triedPair bd_seats bd_slack bd_sawInches bd_quarrelChance bd_people bd_forkBits bd_unsure bd_tried bd_triedFedBits bf_seatOf bf_one bf_other bf_kind bf_years bf_sawn bf_pairs bf_gone nw_seatOf nw_one nw_other nw_kind nw_years nw_sawn nw_pairs nw_gone sc_seatOf sc_handle sc_both sc_slopOf sc_forkBits sc_canBits sc_bestBits sc_bestSlops sl_bits sl_count se_bestRow se_row se_pairAt se_hope se_hopeAt se_slopAt se_farBits se_gain se_worth se_bestWorth se_fresh ch_both ch_cost ch_bit ch_items R0.1 R0.2 cl_bits cl_count fi_sets fi_count ps_act ps_whom ps_amount ps_next ps_count i0_seatOf i0_one i0_other i0_kind i0_years i0_sawn i0_pairs i0_gone i1_seatOf i1_one i1_other i1_kind i1_years i1_sawn i1_pairs i1_gone i2_seatOf i2_one i2_other i2_kind i2_years i2_sawn i2_pairs i2_gone)) args s 0 0 A) (F0 m 31 ls []) := by
      intro H locs G
      refine lv_aload_n hx hb dX1_consider_31 rfl (lv_at hl 0 rfl) ?_
      refine lv_iload_n hx hb dX1_consider_32 rfl (lv_at hl 1 rfl) ?_
      refine x_put (ws' := (wX E ad x_imageCount x_lastTrouble x_lastFault x_lastPlace pa_names pa_faultNumber pa_faultPlace rd_tape rd_length rd_end rd_next rd_sort rd_start rd_value rd_word to_unsurePair to_unsureYears to_triedPair to_seats to_slack to_sawInches to_quarrelChance to_people to_forkBits to_unsure to_tried to_triedFedBits tf_seatOf tf_one tf_other tf_kind tf_years tf_sawn tf_pairs tf_gone bd_unsurePair bd_unsureYears bd_triedPair bd_seats bd_slack bd_sawInches bd_quarrelChance bd_people bd_forkBits bd_unsure bd_tried bd_triedFedBits bf_seatOf bf_one bf_other bf_kind bf_years bf_sawn bf_pairs bf_gone nw_seatOf nw_one nw_other nw_kind nw_years nw_sawn nw_pairs nw_gone sc_seatOf sc_handle sc_both sc_slopOf sc_forkBits sc_canBits sc_bestBits sc_bestSlops sl_bits sl_count se_bestRow se_row se_pairAt se_hope se_hopeAt se_slopAt se_farBits se_gain se_worth se_bestWorth se_fresh ch_both ch_cost ch_bit ch_items l1 ch_leastBits cl_bits cl_count fi_sets fi_count ps_act ps_whom ps_amount ps_next ps_count i0_seatOf i0_one i0_other i0_kind i0_years i0_sawn i0_pairs i0_gone i1_seatOf i1_one i1_other i1_kind i1_years i1_sawn i1_pairs i1_gone i2_seatOf i2_one i2_other i2_kind i2_years i2_sawn i2_pairs i2_gone)) C G fX1_36 (wX_at52) rfl rfl (Nat.le_of_ble_eq_true rfl) wX_set_ch_leastCost dX1_consider_33 (fun H locs G => ?_)
      refine lv_aload_n hx hb dX1_consider_36 rfl (lv_at hl 0 rfl) ?_
      refine lv_iload_n hx hb dX1_consider_37 rfl (lv_at hl 2 rfl) ?_
      refine x_put (ws' := (wX E ad x_imageCount x_lastTrouble x_lastFault x_lastPlace pa_names pa_faultNumber pa_faultPlace rd_tape rd_length rd_end rd_next rd_sort rd_start rd_value rd_word to_unsurePair to_unsureYears to_triedPair to_seats to_slack to_sawInches to_quarrelChance to_people to_forkBits to_unsure to_tried to_triedFedBits tf_seatOf tf_one tf_other tf_kind tf_years tf_sawn tf_pairs tf_gone bd_unsurePair bd_unsureYears bd_triedPair bd_seats bd_slack bd_sawInches bd_quarrelChance bd_people bd_forkBits bd_unsure bd_tried bd_triedFedBits bf_seatOf bf_one bf_other bf_kind bf_years bf_sawn bf_pairs bf_gone nw_seatOf nw_one nw_other nw_kind nw_years nw_sawn nw_pairs nw_gone sc_seatOf sc_handle sc_both sc_slopOf sc_forkBits sc_canBits sc_bestBits sc_bestSlops sl_bits sl_count se_bestRow se_row se_pairAt se_hope se_hopeAt se_slopAt se_farBits se_gain se_worth se_bestWorth se_fresh ch_both ch_cost ch_bit ch_items l1 l2 cl_bits cl_count fi_sets fi_count ps_act ps_whom ps_amount ps_next ps_count i0_seatOf i0_one i0_other i0_kind i0_years i0_sawn i0_pairs i0_gone i1_seatOf i1_one i1_other i1_kind i1_years i1_sawn i1_pairs i1_gone i2_seatOf i2_one i2_other i2_kind i2_years i2_sawn i2_pairs i2_gone)) C G fX1_39 (wX_at52) rfl rfl (Nat.le_of_ble_eq_true rfl) wX_set_ch_leastBits dX1_consider_38 (fun H locs G => ?_)
      obtain rfl := Option.some.inj hf
      exact xV_ret C G dX1_consider_41
    have hf := hr
    clear hr
    refine lv_if_lt (tgt := 31) hx hb dX1_consider_4 (by decide) (fun h => ?_) (fun h => ?_)
    · have hf := it_t h hf
      exact J _ _ G
    · have hf := it_f h hf
      refine lv_iload_n hx hb dX1_consider_7 rfl (lv_at hl 1 rfl) ?_
      refine lv_aload_n hx hb dX1_consider_8 rfl (lv_at hl 0 rfl) ?_
      refine x_get C G fX1_36.g (wX_at52) rfl dX1_consider_9 ?_
      refine lv_icmp_lt (tgt := 31) hx hb dX1_consider_12 (by decide) (fun h => ?_) (fun h => ?_)
      · have hf := it_t h hf
        exact J _ _ G
      · have hf := it_f h hf
        refine lv_iload_n hx hb dX1_consider_15 rfl (lv_at hl 1 rfl) ?_
        refine lv_aload_n hx hb dX1_consider_16 rfl (lv_at hl 0 rfl) ?_
        refine x_get C G fX1_36.g (wX_at52) rfl dX1_consider_17 ?_
        refine lv_icmp_ne (tgt := 41) hx hb dX1_consider_20 (by decide) (fun h => ?_) (fun h => ?_)
        · have hf := it_f h hf
          exact absurd (Option.some.inj hf) (by decide)
        · have hf := it_t h hf
          refine lv_iload_n hx hb dX1_consider_23 rfl (lv_at hl 2 rfl) ?_
          refine lv_aload_n hx hb dX1_consider_24 rfl (lv_at hl 0 rfl) ?_
          refine x_get C G fX1_39.g (wX_at52) rfl dX1_consider_25 ?_
          refine lv_icmp_ge (tgt := 41) hx hb dX1_consider_28 (by decide) (fun h => ?_) (fun h => ?_)
          · have hf := it_t h hf
            exact absurd (Option.some.inj hf) (by decide)
          · have hf := it_f h hf
            exact J _ _ G
  | false =>
    have hf := it_f (by decide) hf
    have J : ∀ (H : Heap) (locs : List Loc), xG s E A (wX E ad x_imageCount x_lastTrouble x_lastFault x_lastPlace pa_names pa_faultNumber pa_faultPlace rd_tape rd_length rd_end rd_next rd_sort rd_start rd_value rd_word to_unsurePair to_unsureYears to_triedPair to_seats to_slack to_sawInches to_quarrelChance to_people to_forkBits to_unsure to_tried to_triedFedBits tf_seatOf tf_one tf_other tf_kind tf_years tf_sawn tf_pairs tf_gone bd_unsurePair bd_unsureYears bd_triedPair bd_seats bd_slack bd_sawInches bd_quarrelChance bd_people bd_forkBits bd_unsure bd_tried bd_triedFedBits bf_seatOf bf_one bf_other bf_kind bf_years bf_sawn bf_pairs bf_gone nw_seatOf nw_one nw_other nw_kind nw_years nw_sawn nw_pairs nw_gone sc_seatOf sc_handle sc_both sc_slopOf sc_forkBits sc_canBits sc_bestBits sc_bestSlops sl_bits sl_count se_bestRow se_row se_pairAt se_hope se_hopeAt se_slopAt se_farBits se_gain se_worth se_bestWorth se_fresh ch_both ch_cost ch_bit ch_items ch_leastCost ch_leastBits cl_bits cl_count fi_sets fi_count ps_act ps_whom ps_amount ps_next ps_count i0_seatOf i0_one i0_other i0_kind i0_years i0_sawn i0_pairs i0_gone i1_seatOf i1_one i1_other i1_kind i1_years i1_sawn i1_pairs i1_gone i2_seatOf i2_one i2_other i2_kind i2_years i2_sawn i2_pairs i2_gone) H locs → W p l e (xR 0 0) s m args below meth c H locs 0 0 (MQ below (xqV E A (wX E ad x_imageCount x_lastTrouble x_lastFault x_lastPlace pa_names pa_faultNumber pa_faultPlace rd_tape rd_length rd_end rd_next rd_sort rd_start rd_value rd_word to_unsurePair to_unsureYears to_triedPair to_seats to_slack to_sawInches to_quarrelChance to_people to_forkBits to_unsure to_tried to_triedFedBits tf_seatOf tf_one tf_other tf_kind tf_years tf_sawn tf_pairs tf_gone bd_unsurePair bd_unsureYears bd_triedPair bd_seats bd_slack bd_sawInches bd_quarrelChance bd_people bd_forkBits bd_unsure bd_tried bd_triedFedBits bf_seatOf bf_one bf_other bf_kind bf_years bf_sawn bf_pairs bf_gone nw_seatOf nw_one nw_other nw_kind nw_years nw_sawn nw_pairs nw_gone sc_seatOf sc_handle sc_both sc_slopOf sc_forkBits sc_canBits sc_bestBits sc_bestSlops sl_bits sl_count se_bestRow se_row se_pairAt se_hope se_hopeAt se_slopAt se_farBits se_gain se_worth se_bestWorth se_fresh ch_both ch_cost ch_bit ch_items R0.1 R0.2 cl_bits cl_count fi_sets fi_count ps_act ps_whom ps_amount ps_next ps_count i0_seatOf i0_one i0_other i0_kind i0_years i0_sawn i0_pairs i0_gone i1_seatOf i1_one i1_other i1_kind i1_years i1_sawn i1_pairs i1_gone i2_seatOf i2_one i2_other i2_kind i2_years i2_sawn i2_pairs i2_gone)) args s 0 0 A) (F0 m 41 ls []) := by
      intro H locs G
      obtain rfl := Option.some.inj hf
      exact xV_ret C G dX1_consider_41
    have hf := hr
    clear hr
    refine lv_if_lt (tgt := 31) hx hb dX1_consider_4 (by decide) (fun h => ?_) (fun h => ?_)
    · have hf := it_t h hf
      exact absurd (Option.some.inj hf) (by decide)
    · have hf := it_f h hf
      refine lv_iload_n hx hb dX1_consider_7 rfl (lv_at hl 1 rfl) ?_
      refine lv_aload_n hx hb dX1_consider_8 rfl (lv_at hl 0 rfl) ?_
      refine x_get C G fX1_36.g (wX_at52) rfl dX1_consider_9 ?_
      refine lv_icmp_lt (tgt := 31) hx hb dX1_consider_12 (by decide) (fun h => ?_) (fun h => ?_)
      · have hf := it_t h hf
        exact absurd (Option.some.inj hf) (by decide)
      · have hf := it_f h hf
        refine lv_iload_n hx hb dX1_consider_15 rfl (lv_at hl 1 rfl) ?_
        refine lv_aload_n hx hb dX1_consider_16 rfl (lv_at hl 0 rfl) ?_
        refine x_get C G fX1_36.g (wX_at52) rfl dX1_consider_17 ?_
        refine lv_icmp_ne (tgt := 41) hx hb dX1_consider_20 (by decide) (fun h => ?_) (fun h => ?_)
        · have hf := it_f h hf
          exact J _ _ G
        · have hf := it_t h hf
          refine lv_iload_n hx hb dX1_consider_23 rfl (lv_at hl 2 rfl) ?_
          refine lv_aload_n hx hb dX1_consider_24 rfl (lv_at hl 0 rfl) ?_
          refine x_get C G fX1_39.g (wX_at52) rfl dX1_consider_25 ?_
          refine lv_icmp_ge (tgt := 41) hx hb dX1_consider_28 (by decide) (fun h => ?_) (fun h => ?_)
          · have hf := it_t h hf
            exact J _ _ G
          · have hf := it_f h hf
            exact absurd (Option.some.inj hf) (by decide)
set_option maxHeartbeats 4000000 in
set_option maxRecDepth 100000 in
theorem w_Choice_decide_ch_L4 {p : Program} {l : Launch} {e : Env} {s : State} {m : MethodId} {args : Array Value} {below : List Frame} {meth : Method} {c : Code} {A : Nat → Prop} {E : xE} {Q : State → Prop} {ad : Nat → Nat} {x_imageCount x_lastTrouble x_lastFault x_lastPlace pa_faultNumber pa_faultPlace rd_length rd_end rd_next rd_sort rd_start rd_value to_seats to_slack to_sawInches to_quarrelChance to_people to_forkBits to_unsure to_tried to_triedFedBits tf_pairs tf_gone bd_seats bd_slack bd_sawInches bd_quarrelChance bd_people bd_forkBits bd_unsure bd_tried bd_triedFedBits bf_pairs bf_gone nw_pairs nw_gone sc_forkBits sc_canBits sc_bestBits sc_bestSlops sl_count se_bestWorth se_fresh ch_items ch_leastCost ch_leastBits cl_count fi_count ps_next ps_count i0_pairs i0_gone i1_pairs i1_gone i2_pairs i2_gone : Int32} {pa_names : Nat → Int64} {rd_tape to_unsurePair to_unsureYears to_triedPair tf_seatOf tf_one tf_other tf_kind tf_years tf_sawn bd_unsurePair bd_unsureYears bd_triedPair bf_seatOf bf_one bf_other bf_kind bf_years bf_sawn nw_seatOf nw_one nw_other nw_kind nw_years nw_sawn sc_seatOf sc_handle sc_both sc_slopOf sl_bits se_bestRow se_row se_pairAt se_hope se_hopeAt se_slopAt se_farBits se_gain se_worth ch_both ch_cost ch_bit cl_bits fi_sets ps_act ps_whom ps_amount i0_seatOf i0_one i0_other i0_kind i0_years i0_sawn i1_seatOf i1_one i1_other i1_kind i1_years i1_sawn i2_seatOf i2_one i2_other i2_kind i2_years i2_sawn : Nat → Int32} {rd_word : Int64} {l1 : Int32} {o : Int32} (C : xC p s m args meth c cX1_decide 4 RX1 E A none) (J : ∀ (H : Heap) (locs : List Loc) (ls : Array Slot), xG s E A (wX E ad x_imageCount x_lastTrouble x_lastFault x_lastPlace pa_names pa_faultNumber pa_faultPlace rd_tape rd_length rd_end rd_next rd_sort rd_start rd_value rd_word to_unsurePair to_unsureYears to_triedPair to_seats to_slack to_sawInches to_quarrelChance to_people to_forkBits to_unsure to_tried to_triedFedBits tf_seatOf tf_one tf_other tf_kind tf_years tf_sawn tf_pairs tf_gone bd_unsurePair bd_unsureYears bd_triedPair bd_seats bd_slack bd_sawInches bd_quarrelChance bd_people bd_forkBits bd_unsure bd_tried bd_triedFedBits bf_seatOf bf_one bf_other bf_kind bf_years bf_sawn bf_pairs bf_gone nw_seatOf nw_one nw_other nw_kind nw_years nw_sawn nw_pairs nw_gone sc_seatOf sc_handle sc_both sc_slopOf sc_forkBits sc_canBits sc_bestBits sc_bestSlops sl_bits sl_count se_bestRow se_row se_pairAt se_hope se_hopeAt se_slopAt se_farBits se_gain se_worth se_bestWorth se_fresh ch_both ch_cost ch_bit ch_items ch_leastCost ch_leastBits cl_bits cl_count fi_sets fi_count ps_act ps_whom ps_amount ps_next ps_count i0_seatOf i0_one i0_other i0_kind i0_years i0_sawn i0_pairs i0_gone i1_seatOf i1_one i1_other i1_kind i1_years i1_sawn i1_pairs i1_gone i2_seatOf i2_one i2_other i2_kind i2_years i2_sawn i2_pairs i2_gone) H locs → lv_has ls 4 [(0, .ref (ad 52)), (1, .int l1), (2, .int o)] → W p l e (xR 2 46) s m args below meth c H locs 0 0 Q (F0 m 33 ls [])) :
    ∀ (n : Nat) (l2 : Int32) (l3 : Int32) (H : Heap) (locs : List Loc) (ls : Array Slot), xG s E A (wX E ad x_imageCount x_lastTrouble x_lastFault x_lastPlace pa_names pa_faultNumber pa_faultPlace rd_tape rd_length rd_end rd_next rd_sort rd_start rd_value rd_word to_unsurePair to_unsureYears to_triedPair to_seats to_slack to_sawInches to_quarrelChance to_people to_forkBits to_unsure to_tried to_triedFedBits tf_seatOf tf_one tf_other tf_kind tf_years tf_sawn tf_pairs tf_gone bd_unsurePair bd_unsureYears bd_triedPair bd_seats bd_slack bd_sawInches bd_quarrelChance bd_people bd_forkBits bd_unsure bd_tried bd_triedFedBits bf_seatOf bf_one bf_other bf_kind bf_years bf_sawn bf_pairs bf_gone nw_seatOf nw_one nw_other nw_kind nw_years nw_sawn nw_pairs nw_gone sc_seatOf sc_handle sc_both sc_slopOf sc_forkBits sc_canBits sc_bestBits sc_bestSlops sl_bits sl_count se_bestRow se_row se_pairAt se_hope se_hopeAt se_slopAt se_farBits se_gain se_worth se_bestWorth se_fresh ch_both ch_cost ch_bit ch_items ch_leastCost ch_leastBits cl_bits cl_count fi_sets fi_count ps_act ps_whom ps_amount ps_next ps_count i0_seatOf i0_one i0_other i0_kind i0_years i0_sawn i0_pairs i0_gone i1_seatOf i1_one i1_other i1_kind i1_years i1_sawn i1_pairs i1_gone i2_seatOf i2_one i2_other i2_kind i2_years i2_sawn i2_pairs i2_gone) H locs → lv_has ls 4 [(0, .ref (ad 52)), (1, .int l1), (2, .int l2), (3, .int l3)] → f_Choice_decide_L4 ch_cost ch_items n l2 l3 = some o → W p l e (xR 2 46) s m args below meth c H locs 0 0 Q (F0 m 4 ls []) := by
  have hx := C.1
  have hb := C.2.1
  intro n
  induction n with
  | zero =>
    intro l2 l3 H locs ls G hl hf
    exact nomatch (show (none : Option (Int32)) = some o from hf)
  | succ n ih =>
    intro l2 l3 H locs ls G hl hf
    rw [f_Choice_decide_L4] at hf
    refine lv_iload_n hx hb dX1_decide_4 rfl (lv_at hl 3 rfl) ?_
    refine lv_aload_n hx hb dX1_decide_5 rfl (lv_at hl 0 rfl) ?_
    refine x_get C G fX1_28.g (wX_at52) rfl dX1_decide_6 ?_
    refine lv_icmp_ge (tgt := 33) hx hb dX1_decide_9 (by decide) (fun h => ?_) (fun h => ?_)
    · have hf := it_t h hf
      obtain rfl := Option.some.inj hf
      exact J _ _ _ G (lv_sub hl [0, 1, 2] rfl)
    · have hf := it_f h hf
      refine lv_aload_n hx hb dX1_decide_12 rfl (lv_at hl 0 rfl) ?_
      refine x_get C G fX1_15 (wX_at52) rfl dX1_decide_13 ?_
      refine lv_iload_n hx hb dX1_decide_16 rfl (lv_at hl 3 rfl) ?_
      have hi := ck_in hf
      have hf := ck_go hf
      refine x_iald C G (wX_at54) hi dX1_decide_17 ?_
      refine lv_if_lt (tgt := 27) hx hb dX1_decide_18 (by decide) (fun h => ?_) (fun h => ?_)
      · have hf := it_t h hf
        obtain ⟨x1, ex1⟩ : ∃ z : Int32, z = l3 + (1 : Int32) := ⟨_, rfl⟩
        have hf := lt_go ex1 hf
        refine lv_iinc (v := x1) (lv' := [(3, .int x1), (0, .ref (ad 52)), (1, .int l1), (2, .int l2)]) hx hb dX1_decide_27 hl (k := 3) rfl (by rw [ex1]; rfl) (by decide) rfl (fun ls hl => ?_)
        refine lv_goto (tgt := 4) hx hb dX1_decide_30 (by decide) ?_
        exact ih l2 x1 _ _ _ G (lv_sub hl [1, 2, 3, 0] rfl) hf
      · have hf := it_f h hf
        refine lv_iload_n hx hb dX1_decide_21 rfl (lv_at hl 2 rfl) ?_
        refine lv_iconst (v := 1) hx hb dX1_decide_22 (by decide) ?_
        refine lv_iload_n hx hb dX1_decide_23 rfl (lv_at hl 3 rfl) ?_
        refine lv_ishl hx hb dX1_decide_24 ?_
        refine lv_ior hx hb dX1_decide_25 ?_
        refine lv_topi (fun x2 ex2 => ?_)
        have hf := lt_go ex2 hf
        refine lv_istore_n (lv' := [(2, .int x2), (0, .ref (ad 52)), (1, .int l1), (3, .int l3)]) hx hb dX1_decide_26 rfl hl (by decide) rfl (fun ls hl => ?_)
        obtain ⟨x3, ex3⟩ : ∃ z : Int32, z = l3 + (1 : Int32) := ⟨_, rfl⟩
        have hf := lt_go ex3 hf
        refine lv_iinc (v := x3) (lv' := [(3, .int x3), (2, .int x2), (0, .ref (ad 52)), (1, .int l1)]) hx hb dX1_decide_27 hl (k := 3) rfl (by rw [ex3]; rfl) (by decide) rfl (fun ls hl => ?_)
        refine lv_goto (tgt := 4) hx hb dX1_decide_30 (by decide) ?_
        exact ih x2 x3 _ _ _ G (lv_sub hl [2, 3, 1, 0] rfl) hf
set_option maxHeartbeats 4000000 in
set_option maxRecDepth 100000 in
theorem w_Choice_decide_ch_L62 {p : Program} {l : Launch} {e : Env} {s : State} {m : MethodId} {args : Array Value} {below : List Frame} {meth : Method} {c : Code} {A : Nat → Prop} {E : xE} {Q : State → Prop} {ad : Nat → Nat} {x_imageCount x_lastTrouble x_lastFault x_lastPlace pa_faultNumber pa_faultPlace rd_length rd_end rd_next rd_sort rd_start rd_value to_seats to_slack to_sawInches to_quarrelChance to_people to_forkBits to_unsure to_tried to_triedFedBits tf_pairs tf_gone bd_seats bd_slack bd_sawInches bd_quarrelChance bd_people bd_forkBits bd_unsure bd_tried bd_triedFedBits bf_pairs bf_gone nw_pairs nw_gone sc_forkBits sc_canBits sc_bestBits sc_bestSlops sl_count se_bestWorth se_fresh ch_items cl_count fi_count ps_next ps_count i0_pairs i0_gone i1_pairs i1_gone i2_pairs i2_gone : Int32} {pa_names : Nat → Int64} {rd_tape to_unsurePair to_unsureYears to_triedPair tf_seatOf tf_one tf_other tf_kind tf_years tf_sawn bd_unsurePair bd_unsureYears bd_triedPair bf_seatOf bf_one bf_other bf_kind bf_years bf_sawn nw_seatOf nw_one nw_other nw_kind nw_years nw_sawn sc_seatOf sc_handle sc_both sc_slopOf sl_bits se_bestRow se_row se_pairAt se_hope se_hopeAt se_slopAt se_farBits se_gain se_worth ch_both ch_cost ch_bit cl_bits fi_sets ps_act ps_whom ps_amount i0_seatOf i0_one i0_other i0_kind i0_years i0_sawn i1_seatOf i1_one i1_other i1_kind i1_years i1_sawn i2_seatOf i2_one i2_other i2_kind i2_years i2_sawn : Nat → Int32} {rd_word : Int64} {l1 : Int32} {o : Int32 × Int32} (C : xC p s m args meth c cX1_decide 4 RX1 E A none) (J : ∀ (H : Heap) (locs : List Loc) (ls : Array Slot), xG s E A (wX E ad x_imageCount x_lastTrouble x_lastFault x_lastPlace pa_names pa_faultNumber pa_faultPlace rd_tape rd_length rd_end rd_next rd_sort rd_start rd_value rd_word to_unsurePair to_unsureYears to_triedPair to_seats to_slack to_sawInches to_quarrelChance to_people to_forkBits to_unsure to_tried to_triedFedBits tf_seatOf tf_one tf_other tf_kind tf_years tf_sawn tf_pairs tf_gone bd_unsurePair bd_unsureYears bd_triedPair bd_seats bd_slack bd_sawInches bd_quarrelChance bd_people bd_forkBits bd_unsure bd_tried bd_triedFedBits bf_seatOf bf_one bf_other bf_kind bf_years bf_sawn bf_pairs bf_gone nw_seatOf nw_one nw_other nw_kind nw_years nw_sawn nw_pairs nw_gone sc_seatOf sc_handle sc_both sc_slopOf sc_forkBits sc_canBits sc_bestBits sc_bestSlops sl_bits sl_count se_bestRow se_row se_pairAt se_hope se_hopeAt se_slopAt se_farBits se_gain se_worth se_bestWorth se_fresh ch_both ch_cost ch_bit ch_items o.1 o.2 cl_bits cl_count fi_sets fi_count ps_act ps_whom ps_amount ps_next ps_count i0_seatOf i0_one i0_other i0_kind i0_years i0_sawn i0_pairs i0_gone i1_seatOf i1_one i1_other i1_kind i1_years i1_sawn i1_pairs i1_gone i2_seatOf i2_one i2_other i2_kind i2_years i2_sawn i2_pairs i2_gone) H locs → lv_has ls 4 [] → W p l e (xR 2 46) s m args below meth c H locs 0 0 Q (F0 m 131 ls [])) :
    ∀ (n : Nat) (l3 : Int32) (ch_leastCost : Int32) (ch_leastBits : Int32) (H : Heap) (locs : List Loc) (ls : Array Slot), xG s E A (wX E ad x_imageCount x_lastTrouble x_lastFault x_lastPlace pa_names pa_faultNumber pa_faultPlace rd_tape rd_length rd_end rd_next rd_sort rd_start rd_value rd_word to_unsurePair to_unsureYears to_triedPair to_seats to_slack to_sawInches to_quarrelChance to_people to_forkBits to_unsure to_tried to_triedFedBits tf_seatOf tf_one tf_other tf_kind tf_years tf_sawn tf_pairs tf_gone bd_unsurePair bd_unsureYears bd_triedPair bd_seats bd_slack bd_sawInches bd_quarrelChance bd_people bd_forkBits bd_unsure bd_tried bd_triedFedBits bf_seatOf bf_one bf_other bf_kind bf_years bf_sawn bf_pairs bf_gone nw_seatOf nw_one nw_other nw_kind nw_years nw_sawn nw_pairs nw_gone sc_seatOf sc_handle sc_both sc_slopOf sc_forkBits sc_canBits sc_bestBits sc_bestSlops sl_bits sl_count se_bestRow se_row se_pairAt se_hope se_hopeAt se_slopAt se_farBits se_gain se_worth se_bestWorth se_fresh ch_both ch_cost ch_bit ch_items ch_leastCost ch_leastBits cl_bits cl_count fi_sets fi_count ps_act ps_whom ps_amount ps_next ps_count i0_seatOf i0_one i0_other i0_kind i0_years i0_sawn i0_pairs i0_gone i1_seatOf i1_one i1_other i1_kind i1_years i1_sawn i1_pairs i1_gone i2_seatOf i2_one i2_other i2_kind i2_years i2_sawn i2_pairs i2_gone) H locs → lv_has ls 4 [(0, .ref (ad 52)), (1, .int l1), (3, .int l3)] → f_Choice_decide_L62 l1 ch_cost ch_bit cl_bits cl_count n l3 ch_leastCost ch_leastBits = some o → W p l e (xR 2 46) s m args below meth c H locs 0 0 Q (F0 m 62 ls []) := by
  have hx := C.1
  have hb := C.2.1
  intro n
  induction n with
  | zero =>
    intro l3 ch_leastCost ch_leastBits H locs ls G hl hf
    exact nomatch (show (none : Option (Int32 × Int32)) = some o from hf)
  | succ n ih =>
    intro l3 ch_leastCost ch_leastBits H locs ls G hl hf
    rw [f_Choice_decide_L62] at hf
    refine lv_iload_n hx hb dX1_decide_62 rfl (lv_at hl 2 rfl) ?_
    refine lv_aload_n hx hb dX1_decide_63 rfl (lv_at hl 0 rfl) ?_
    refine x_get C G fX1_24 (wX_at52) rfl dX1_decide_64 ?_
    refine x_get C G fX1_42.g (wX_at56) rfl dX1_decide_67 ?_
    refine lv_icmp_ge (tgt := 131) hx hb dX1_decide_70 (by decide) (fun h => ?_) (fun h => ?_)
    · have hf := it_t h hf
      obtain rfl := Option.some.inj hf
      exact J _ _ _ G (lv_sub hl [] rfl)
    · have hf := it_f h hf
      refine lv_aload_n hx hb dX1_decide_73 rfl (lv_at hl 0 rfl) ?_
      refine x_get C G fX1_24 (wX_at52) rfl dX1_decide_74 ?_
      refine x_get C G fX1_45 (wX_at56) rfl dX1_decide_77 ?_
      refine lv_iload_n hx hb dX1_decide_80 rfl (lv_at hl 2 rfl) ?_
      have hi := ck_in hf
      have hf := ck_go hf
      refine x_iald C G (wX_at57) hi dX1_decide_81 ?_
      obtain ⟨x6, hc, hf⟩ := bd_go hf
      refine xI_S C G (c_JInt_bitCount_any hc) mJ6_bitCount_0f7a4 kX1_48 ⟨Nat.le_of_ble_eq_true rfl, Nat.le_of_ble_eq_true rfl⟩ rfl hl.1 rfl (Nat.le_of_ble_eq_true rfl) ⟨Nat.le_refl _, Nat.le_refl _⟩ dX1_decide_82 (fun hz H locs G => ?_)
      refine lv_iload_n hx hb dX1_decide_85 rfl (lv_at hl 1 rfl) ?_
      refine lv_icmp_ne (tgt := 125) hx hb dX1_decide_86 (by decide) (fun h => ?_) (fun h => ?_)
      · have hf := it_f h hf
        obtain ⟨x7, ex7⟩ : ∃ z : Int32, z = l3 + (1 : Int32) := ⟨_, rfl⟩
        have hf := lt_go ex7 hf
        refine lv_iinc (v := x7) (lv' := [(3, .int x7), (0, .ref (ad 52)), (1, .int l1)]) hx hb dX1_decide_125 hl (k := 2) rfl (by rw [ex7]; rfl) (by decide) rfl (fun ls hl => ?_)
        refine lv_goto (tgt := 62) hx hb dX1_decide_128 (by decide) ?_
        exact ih x7 ch_leastCost ch_leastBits _ _ _ G (lv_sub hl [1, 2, 0] rfl) hf
      · have hf := it_t h hf
        refine lv_aload_n hx hb dX1_decide_89 rfl (lv_at hl 0 rfl) ?_
        refine lv_aload_n hx hb dX1_decide_90 rfl (lv_at hl 0 rfl) ?_
        refine x_get C G fX1_24 (wX_at52) rfl dX1_decide_91 ?_
        refine x_get C G fX1_45 (wX_at56) rfl dX1_decide_94 ?_
        refine lv_iload_n hx hb dX1_decide_97 rfl (lv_at hl 2 rfl) ?_
        have hi := ck_in hf
        have hf := ck_go hf
        refine x_iald C G (wX_at57) hi dX1_decide_98 ?_
        refine lv_aload_n hx hb dX1_decide_99 rfl (lv_at hl 0 rfl) ?_
        refine x_get C G fX1_15 (wX_at52) rfl dX1_decide_100 ?_
        obtain ⟨x8, hc, hf⟩ := bd_go hf
        refine xI_S C G (c_X_sumOf_ch_cost hc) mX10_sumOf kX1_54 ⟨Nat.le_of_ble_eq_true rfl, Nat.le_of_ble_eq_true rfl⟩ rfl hl.1 rfl (Nat.le_of_ble_eq_true rfl) ⟨Nat.le_refl _, Nat.le_refl _⟩ dX1_decide_103 (fun hz H locs G => ?_)
        refine lv_aload_n hx hb dX1_decide_106 rfl (lv_at hl 0 rfl) ?_
        refine x_get C G fX1_24 (wX_at52) rfl dX1_decide_107 ?_
        refine x_get C G fX1_45 (wX_at56) rfl dX1_decide_110 ?_
        refine lv_iload_n hx hb dX1_decide_113 rfl (lv_at hl 2 rfl) ?_
        have hi := ck_in hf
        have hf := ck_go hf
        refine x_iald C G (wX_at57) hi dX1_decide_114 ?_
        refine lv_aload_n hx hb dX1_decide_115 rfl (lv_at hl 0 rfl) ?_
        refine x_get C G fX1_18 (wX_at52) rfl dX1_decide_116 ?_
        obtain ⟨x9, hc, hf⟩ := bd_go hf
        refine xI_S C G (c_X_sumOf_ch_bit hc) mX10_sumOf kX1_54 ⟨Nat.le_of_ble_eq_true rfl, Nat.le_of_ble_eq_true rfl⟩ rfl hl.1 rfl (Nat.le_of_ble_eq_true rfl) ⟨Nat.le_refl _, Nat.le_refl _⟩ dX1_decide_119 (fun hz H locs G => ?_)
        obtain ⟨x10, hc, hf⟩ := bd_go hf
        refine xV_V C G (c_Choice_consider_ch hc) mX1_consider kX1_58 (wX_at52) rfl ⟨Nat.le_of_ble_eq_true rfl, Nat.le_of_ble_eq_true rfl⟩ rfl hl.1 rfl (Nat.le_of_ble_eq_true rfl) ⟨Nat.le_refl _, Nat.le_refl _⟩ dX1_decide_122 (fun H locs G => ?_)
        obtain ⟨x11, ex11⟩ : ∃ z : Int32, z = l3 + (1 : Int32) := ⟨_, rfl⟩
        have hf := lt_go ex11 hf
        refine lv_iinc (v := x11) (lv' := [(3, .int x11), (0, .ref (ad 52)), (1, .int l1)]) hx hb dX1_decide_125 hl (k := 2) rfl (by rw [ex11]; rfl) (by decide) rfl (fun ls hl => ?_)
        refine lv_goto (tgt := 62) hx hb dX1_decide_128 (by decide) ?_
        exact ih x11 x10.1 x10.2 _ _ _ G (lv_sub hl [1, 2, 0] rfl) hf
set_option maxHeartbeats 4000000 in
set_option maxRecDepth 100000 in
theorem c_Choice_decide_ch {l : Launch} {E : xE} {ad : Nat → Nat} {x_imageCount x_lastTrouble x_lastFault x_lastPlace pa_faultNumber pa_faultPlace rd_length rd_end rd_next rd_sort rd_start rd_value to_seats to_slack to_sawInches to_quarrelChance to_people to_forkBits to_unsure to_tried to_triedFedBits tf_pairs tf_gone bd_seats bd_slack bd_sawInches bd_quarrelChance bd_people bd_forkBits bd_unsure bd_tried bd_triedFedBits bf_pairs bf_gone nw_pairs nw_gone sc_forkBits sc_canBits sc_bestBits sc_bestSlops sl_count se_bestWorth se_fresh ch_items ch_leastCost ch_leastBits cl_count fi_count ps_next ps_count i0_pairs i0_gone i1_pairs i1_gone i2_pairs i2_gone : Int32} {pa_names : Nat → Int64} {rd_tape to_unsurePair to_unsureYears to_triedPair tf_seatOf tf_one tf_other tf_kind tf_years tf_sawn bd_unsurePair bd_unsureYears bd_triedPair bf_seatOf bf_one bf_other bf_kind bf_years bf_sawn nw_seatOf nw_one nw_other nw_kind nw_years nw_sawn sc_seatOf sc_handle sc_both sc_slopOf sl_bits se_bestRow se_row se_pairAt se_hope se_hopeAt se_slopAt se_farBits se_gain se_worth ch_both ch_cost ch_bit cl_bits fi_sets ps_act ps_whom ps_amount i0_seatOf i0_one i0_other i0_kind i0_years i0_sawn i1_seatOf i1_one i1_other i1_kind i1_years i1_sawn i2_seatOf i2_one i2_other i2_kind i2_years i2_sawn : Nat → Int32} {rd_word : Int64} {l1 : Int32} {R0 : Int32 × Int32 × (Nat → Int32) × Int32} (hf : f_Choice_decide l1 ch_both ch_cost ch_bit ch_items cl_bits = some R0) : xV l E yX1_decide cX1_decide 4 none 2 46 [.ref (ad 52), .int l1] (wX E ad x_imageCount x_lastTrouble x_lastFault x_lastPlace pa_names pa_faultNumber pa_faultPlace rd_tape rd_length rd_end rd_next rd_sort rd_start rd_value rd_word to_unsurePair to_unsureYears to_triedPair to_seats to_slack to_sawInches to_quarrelChance to_people to_forkBits to_unsure to_tried to_triedFedBits tf_seatOf tf_one tf_other tf_kind tf_years tf_sawn tf_pairs tf_gone bd_unsurePair bd_unsureYears bd_triedPair bd_seats bd_slack bd_sawInches bd_quarrelChance bd_people bd_forkBits bd_unsure bd_tried bd_triedFedBits bf_seatOf bf_one bf_other bf_kind bf_years bf_sawn bf_pairs bf_gone nw_seatOf nw_one nw_other nw_kind nw_years nw_sawn nw_pairs nw_gone sc_seatOf sc_handle sc_both sc_slopOf sc_forkBits sc_canBits sc_bestBits sc_bestSlops sl_bits sl_count se_bestRow se_row se_pairAt se_hope se_hopeAt se_slopAt se_farBits se_gain se_worth se_bestWorth se_fresh ch_both ch_cost ch_bit ch_items ch_leastCost ch_leastBits cl_bits cl_count fi_sets fi_count ps_act ps_whom ps_amount ps_next ps_count i0_seatOf i0_one i0_other i0_kind i0_years i0_sawn i0_pairs i0_gone i1_seatOf i1_one i1_other i1_kind i1_years i1_sawn i1_pairs i1_gone i2_seatOf i2_one i2_other i2_kind i2_years i2_sawn i2_pairs i2_gone) (wX E ad x_imageCount x_lastTrouble x_lastFault x_lastPlace pa_names pa_faultNumber pa_faultPlace rd_tape rd_length rd_end rd_next rd_sort rd_start rd_value rd_word to_unsurePair to_unsureYears to_triedPair to_seats to_slack to_sawInches to_quarrelChance to_people to_forkBits to_unsure to_tried to_triedFedBits tf_seatOf tf_one tf_other tf_kind tf_years tf_sawn tf_pairs tf_gone bd_unsurePair bd_unsureYears bd_triedPair bd_seats bd_slack bd_sawInches bd_quarrelChance bd_people bd_forkBits bd_unsure bd_tried bd_triedFedBits bf_seatOf bf_one bf_other bf_kind bf_years bf_sawn bf_pairs bf_gone nw_seatOf nw_one nw_other nw_kind nw_years nw_sawn nw_pairs nw_gone sc_seatOf sc_handle sc_both sc_slopOf sc_forkBits sc_canBits sc_bestBits sc_bestSlops sl_bits sl_count se_bestRow se_row se_pairAt se_hope se_hopeAt se_slopAt se_farBits se_gain se_worth se_bestWorth se_fresh ch_both ch_cost ch_bit ch_items R0.1 R0.2.1 R0.2.2.1 R0.2.2.2 fi_sets fi_count ps_act ps_whom ps_amount ps_next ps_count i0_seatOf i0_one i0_other i0_kind i0_years i0_sawn i0_pairs i0_gone i1_seatOf i1_one i1_other i1_kind i1_years i1_sawn i1_pairs i1_gone i2_seatOf i2_one i2_other i2_kind i2_years i2_sawn i2_pairs i2_gone) := by
  refine xV_of (by decide) (Nat.le_of_ble_eq_true rfl) (fun p e s m args below meth c A C ls hl G => ?_)
  have hx := C.1
  have hb := C.2.1
  have hl : lv_has ls 4 [(0, .ref (ad 52)), (1, .int l1)] := hl
  unfold f_Choice_decide at hf
  refine lv_iconst (v := 0) hx hb dX1_decide_0 (by decide) ?_
  refine lv_istore_n (lv' := [(2, .int (0 : Int32)), (0, .ref (ad 52)), (1, .int l1)]) hx hb dX1_decide_1 rfl hl (by decide) rfl (fun ls hl => ?_)
  refine lv_iconst (v := 0) hx hb dX1_decide_2 (by decide) ?_
  refine lv_istore_n (lv' := [(3, .int (0 : Int32)), (2, .int (0 : Int32)), (0, .ref (ad 52)), (1, .int l1)]) hx hb dX1_decide_3 rfl hl (by decide) rfl (fun ls hl => ?_)
  obtain ⟨x4, hr, hf⟩ := bd_go hf
  have Jx4 : ∀ (H : Heap) (locs : List Loc) (ls : Array Slot), xG s E A (wX E ad x_imageCount x_lastTrouble x_lastFault x_lastPlace pa_names pa_faultNumber pa_faultPlace rd_tape rd_length rd_end rd_next rd_sort rd_start rd_value rd_word to_unsurePair to_unsureYears to_triedPair to_seats to_slack to_sawInches to_quarrelChance to_people to_forkBits to_unsure to_tried to_triedFedBits tf_seatOf tf_one tf_other tf_kind tf_years tf_sawn tf_pairs tf_gone bd_unsurePair bd_unsureYears bd_triedPair bd_seats bd_slack bd_sawInches bd_quarrelChance bd_people bd_forkBits bd_unsure bd_tried bd_triedFedBits bf_seatOf bf_one bf_other bf_kind bf_years bf_sawn bf_pairs bf_gone nw_seatOf nw_one nw_other nw_kind nw_years nw_sawn nw_pairs nw_gone sc_seatOf sc_handle sc_both sc_slopOf sc_forkBits sc_canBits sc_bestBits sc_bestSlops sl_bits sl_count se_bestRow se_row se_pairAt se_hope se_hopeAt se_slopAt se_farBits se_gain se_worth se_bestWorth se_fresh ch_both ch_cost ch_bit ch_items ch_leastCost ch_leastBits cl_bits cl_count fi_sets fi_count ps_act ps_whom ps_amount ps_next ps_count i0_seatOf i0_one i0_other i0_kind i0_years i0_sawn i0_pairs i0_gone i1_seatOf i1_one i1_other i1_kind i1_years i1_sawn i1_pairs i1_gone i2_seatOf i2_one i2_other i2_kind i2_years i2_sawn i2_pairs i2_gone) H locs → lv_has ls 4 [(0, .ref (ad 52)), (1, .int l1), (2, .int x4)] → W p l e (xR 2 46) s m args below meth c H locs 0 0 (MQ below (xqV E A (wX E ad x_imageCount x_lastTrouble x_lastFault x_lastPlace pa_names pa_faultNumber pa_faultPlace rd_tape rd_length rd_end rd_next rd_sort rd_start rd_value rd_word to_unsurePair to_unsureYears to_triedPair to_seats to_slack to_sawInches to_quarrelChance to_people to_forkBits to_unsure to_tried to_triedFedBits tf_seatOf tf_one tf_other tf_kind tf_years tf_sawn tf_pairs tf_gone bd_unsurePair bd_unsureYears bd_triedPair bd_seats bd_slack bd_sawInches bd_quarrelChance bd_people bd_forkBits bd_unsure bd_tried bd_triedFedBits bf_seatOf bf_one bf_other bf_kind bf_years bf_sawn bf_pairs bf_gone nw_seatOf nw_one nw_other nw_kind nw_years nw_sawn nw_pairs nw_gone sc_seatOf sc_handle sc_both sc_slopOf sc_forkBits sc_canBits sc_bestBits sc_bestSlops sl_bits sl_count se_bestRow se_row se_pairAt se_hope se_hopeAt se_slopAt se_farBits se_gain se_worth se_bestWorth se_fresh ch_both ch_cost ch_bit ch_items R0.1 R0.2.1 R0.2.2.1 R0.2.2.2 fi_sets fi_count ps_act ps_whom ps_amount ps_next ps_count i0_seatOf i0_one i0_other i0_kind i0_years i0_sawn i0_pairs i0_gone i1_seatOf i1_one i1_other i1_kind i1_years i1_sawn i1_pairs i1_gone i2_seatOf i2_one i2_other i2_kind i2_years i2_sawn i2_pairs i2_gone)) args s 0 0 A) (F0 m 33 ls []) := by
    intro H locs ls G hl
    refine lv_aload_n hx hb dX1_decide_33 rfl (lv_at hl 0 rfl) ?_
    refine x_get C G fX1_24 (wX_at52) rfl dX1_decide_34 ?_
    refine lv_iload_n hx hb dX1_decide_37 rfl (lv_at hl 2 rfl) ?_
    refine lv_aload_n hx hb dX1_decide_38 rfl (lv_at hl 0 rfl) ?_
    refine x_get C G fX1_9 (wX_at52) rfl dX1_decide_39 ?_
    refine lv_aload_n hx hb dX1_decide_42 rfl (lv_at hl 0 rfl) ?_
    refine x_get C G fX1_28.g (wX_at52) rfl dX1_decide_43 ?_
    obtain ⟨x5, hc, hf⟩ := bd_go hf
    refine xV_V C G (c_MatchList_fill_cl_ch_both hc) mX3_fill kX1_32 (wX_at56) rfl ⟨Nat.le_of_ble_eq_true rfl, Nat.le_of_ble_eq_true rfl⟩ rfl hl.1 rfl (Nat.le_of_ble_eq_true rfl) ⟨Nat.le_refl _, Nat.le_refl _⟩ dX1_decide_46 (fun H locs G => ?_)
    refine lv_aload_n hx hb dX1_decide_49 rfl (lv_at hl 0 rfl) ?_
    refine lv_bipush (v := -2) hx hb dX1_decide_50 (by decide) ?_
    refine x_put (ws' := (wX E ad x_imageCount x_lastTrouble x_lastFault x_lastPlace pa_names pa_faultNumber pa_faultPlace rd_tape rd_length rd_end rd_next rd_sort rd_start rd_value rd_word to_unsurePair to_unsureYears to_triedPair to_seats to_slack to_sawInches to_quarrelChance to_people to_forkBits to_unsure to_tried to_triedFedBits tf_seatOf tf_one tf_other tf_kind tf_years tf_sawn tf_pairs tf_gone bd_unsurePair bd_unsureYears bd_triedPair bd_seats bd_slack bd_sawInches bd_quarrelChance bd_people bd_forkBits bd_unsure bd_tried bd_triedFedBits bf_seatOf bf_one bf_other bf_kind bf_years bf_sawn bf_pairs bf_gone nw_seatOf nw_one nw_other nw_kind nw_years nw_sawn nw_pairs nw_gone sc_seatOf sc_handle sc_both sc_slopOf sc_forkBits sc_canBits sc_bestBits sc_bestSlops sl_bits sl_count se_bestRow se_row se_pairAt se_hope se_hopeAt se_slopAt se_farBits se_gain se_worth se_bestWorth se_fresh ch_both ch_cost ch_bit ch_items (-2 : Int32) ch_leastBits x5.1 x5.2 fi_sets fi_count ps_act ps_whom ps_amount ps_next ps_count i0_seatOf i0_one i0_other i0_kind i0_years i0_sawn i0_pairs i0_gone i1_seatOf i1_one i1_other i1_kind i1_years i1_sawn i1_pairs i1_gone i2_seatOf i2_one i2_other i2_kind i2_years i2_sawn i2_pairs i2_gone)) C G fX1_36 (wX_at52) rfl rfl (Nat.le_of_ble_eq_true rfl) wX_set_ch_leastCost dX1_decide_52 (fun H locs G => ?_)
    refine lv_aload_n hx hb dX1_decide_55 rfl (lv_at hl 0 rfl) ?_
    refine lv_iconst (v := 0) hx hb dX1_decide_56 (by decide) ?_
    refine x_put (ws' := (wX E ad x_imageCount x_lastTrouble x_lastFault x_lastPlace pa_names pa_faultNumber pa_faultPlace rd_tape rd_length rd_end rd_next rd_sort rd_start rd_value rd_word to_unsurePair to_unsureYears to_triedPair to_seats to_slack to_sawInches to_quarrelChance to_people to_forkBits to_unsure to_tried to_triedFedBits tf_seatOf tf_one tf_other tf_kind tf_years tf_sawn tf_pairs tf_gone bd_unsurePair bd_unsureYears bd_triedPair bd_seats bd_slack bd_sawInches bd_quarrelChance bd_people bd_forkBits bd_unsure bd_tried bd_triedFedBits bf_seatOf bf_one bf_other bf_kind bf_years bf_sawn bf_pairs bf_gone nw_seatOf nw_one nw_other nw_kind nw_years nw_sawn nw_pairs nw_gone sc_seatOf sc_handle sc_both sc_slopOf sc_forkBits sc_canBits sc_bestBits sc_bestSlops sl_bits sl_count se_bestRow se_row se_pairAt se_hope se_hopeAt se_slopAt se_farBits se_gain se_worth se_bestWorth se_fresh ch_both ch_cost ch_bit ch_items (-2 : Int32) (0 : Int32) x5.1 x5.2 fi_sets fi_count ps_act ps_whom ps_amount ps_next ps_count i0_seatOf i0_one i0_other i0_kind i0_years i0_sawn i0_pairs i0_gone i1_seatOf i1_one i1_other i1_kind i1_years i1_sawn i1_pairs i1_gone i2_seatOf i2_one i2_other i2_kind i2_years i2_sawn i2_pairs i2_gone)) C G fX1_39 (wX_at52) rfl rfl (Nat.le_of_ble_eq_true rfl) wX_set_ch_leastBits dX1_decide_57 (fun H locs G => ?_)
    refine lv_iconst (v := 0) hx hb dX1_decide_60 (by decide) ?_
    refine lv_istore_n (lv' := [(3, .int (0 : Int32)), (0, .ref (ad 52)), (1, .int l1), (2, .int x4)]) hx hb dX1_decide_61 rfl hl (by decide) rfl (fun ls hl => ?_)
    obtain ⟨x12, hr, hf⟩ := bd_go hf
    have Jx12 : ∀ (H : Heap) (locs : List Loc) (ls : Array Slot), xG s E A (wX E ad x_imageCount x_lastTrouble x_lastFault x_lastPlace pa_names pa_faultNumber pa_faultPlace rd_tape rd_length rd_end rd_next rd_sort rd_start rd_value rd_word to_unsurePair to_unsureYears to_triedPair to_seats to_slack to_sawInches to_quarrelChance to_people to_forkBits to_unsure to_tried to_triedFedBits tf_seatOf tf_one tf_other tf_kind tf_years tf_sawn tf_pairs tf_gone bd_unsurePair bd_unsureYears bd_triedPair bd_seats bd_slack bd_sawInches bd_quarrelChance bd_people bd_forkBits bd_unsure bd_tried bd_triedFedBits bf_seatOf bf_one bf_other bf_kind bf_years bf_sawn bf_pairs bf_gone nw_seatOf nw_one nw_other nw_kind nw_years nw_sawn nw_pairs nw_gone sc_seatOf sc_handle sc_both sc_slopOf sc_forkBits sc_canBits sc_bestBits sc_bestSlops sl_bits sl_count se_bestRow se_row se_pairAt se_hope se_hopeAt se_slopAt se_farBits se_gain se_worth se_bestWorth se_fresh ch_both ch_cost ch_bit ch_items x12.1 x12.2 x5.1 x5.2 fi_sets fi_count ps_act ps_whom ps_amount ps_next ps_count i0_seatOf i0_one i0_other i0_kind i0_years i0_sawn i0_pairs i0_gone i1_seatOf i1_one i1_other i1_kind i1_years i1_sawn i1_pairs i1_gone i2_seatOf i2_one i2_other i2_kind i2_years i2_sawn i2_pairs i2_gone) H locs → lv_has ls 4 [] → W p l e (xR 2 46) s m args below meth c H locs 0 0 (MQ below (xqV E A (wX E ad x_imageCount x_lastTrouble x_lastFault x_lastPlace pa_names pa_faultNumber pa_faultPlace rd_tape rd_length rd_end rd_next rd_sort rd_start rd_value rd_word to_unsurePair to_unsureYears to_triedPair to_seats to_slack to_sawInches to_quarrelChance to_people to_forkBits to_unsure to_tried to_triedFedBits tf_seatOf tf_one tf_other tf_kind tf_years tf_sawn tf_pairs tf_gone bd_unsurePair bd_unsureYears bd_triedPair bd_seats bd_slack bd_sawInches bd_quarrelChance bd_people bd_forkBits bd_unsure bd_tried bd_triedFedBits bf_seatOf bf_one bf_other bf_kind bf_years bf_sawn bf_pairs bf_gone nw_seatOf nw_one nw_other nw_kind nw_years nw_sawn nw_pairs nw_gone sc_seatOf sc_handle sc_both sc_slopOf sc_forkBits sc_canBits sc_bestBits sc_bestSlops sl_bits sl_count se_bestRow se_row se_pairAt se_hope se_hopeAt se_slopAt se_farBits se_gain se_worth se_bestWorth se_fresh ch_both ch_cost ch_bit ch_items R0.1 R0.2.1 R0.2.2.1 R0.2.2.2 fi_sets fi_count ps_act ps_whom ps_amount ps_next ps_count i0_seatOf i0_one i0_other i0_kind i0_years i0_sawn i0_pairs i0_gone i1_seatOf i1_one i1_other i1_kind i1_years i1_sawn i1_pairs i1_gone i2_seatOf i2_one i2_other i2_kind i2_years i2_sawn i2_pairs i2_gone)) args s 0 0 A) (F0 m 131 ls []) := by
      intro H locs ls G hl
      obtain rfl := Option.some.inj hf
      exact xV_ret C G dX1_decide_131
    exact w_Choice_decide_ch_L62 C Jx12 fu _ _ _ _ _ _ G (lv_sub hl [1, 2, 0] rfl) hr
  exact w_Choice_decide_ch_L4 C Jx4 fu _ _ _ _ _ G (lv_sub hl [2, 3, 1, 0] rfl) hr
set_option maxHeartbeats 4000000 in
set_option maxRecDepth 100000 in
theorem w_X_chooseSaws_x_L10 {p : Program} {l : Launch} {e : Env} {s : State} {m : MethodId} {args : Array Value} {below : List Frame} {meth : Method} {c : Code} {A : Nat → Prop} {E : xE} {Q : State → Prop} {ad : Nat → Nat} {x_imageCount x_lastTrouble x_lastFault x_lastPlace pa_faultNumber pa_faultPlace rd_length rd_end rd_next rd_sort rd_start rd_value to_seats to_slack to_sawInches to_quarrelChance to_people to_forkBits to_unsure to_tried to_triedFedBits tf_pairs tf_gone bd_seats bd_slack bd_sawInches bd_quarrelChance bd_people bd_forkBits bd_unsure bd_tried bd_triedFedBits bf_pairs bf_gone nw_pairs nw_gone sc_forkBits sc_canBits sc_bestBits sc_bestSlops sl_count se_bestWorth se_fresh ch_leastCost ch_leastBits cl_count fi_count ps_next ps_count i0_pairs i0_gone i1_pairs i1_gone i2_pairs i2_gone : Int32} {pa_names : Nat → Int64} {rd_tape to_unsurePair to_unsureYears to_triedPair tf_seatOf tf_one tf_other tf_kind tf_years tf_sawn bd_unsurePair bd_unsureYears bd_triedPair bf_seatOf bf_one bf_other bf_kind bf_years bf_sawn nw_seatOf nw_one nw_other nw_kind nw_years nw_sawn sc_seatOf sc_handle sc_both sc_slopOf sl_bits se_bestRow se_row se_pairAt se_hope se_hopeAt se_slopAt se_farBits se_gain se_worth cl_bits fi_sets ps_act ps_whom ps_amount i0_seatOf i0_one i0_other i0_kind i0_years i0_sawn i1_seatOf i1_one i1_other i1_kind i1_years i1_sawn i2_seatOf i2_one i2_other i2_kind i2_years i2_sawn : Nat → Int32} {rd_word : Int64} {o : (Nat → Int32) × (Nat → Int32) × (Nat → Int32) × Int32} (C : xC p s m args meth c cX10_chooseSaws 2 RX10 E A none) (J : ∀ (H : Heap) (locs : List Loc) (ls : Array Slot), xG s E A (wX E ad x_imageCount x_lastTrouble x_lastFault x_lastPlace pa_names pa_faultNumber pa_faultPlace rd_tape rd_length rd_end rd_next rd_sort rd_start rd_value rd_word to_unsurePair to_unsureYears to_triedPair to_seats to_slack to_sawInches to_quarrelChance to_people to_forkBits to_unsure to_tried to_triedFedBits tf_seatOf tf_one tf_other tf_kind tf_years tf_sawn tf_pairs tf_gone bd_unsurePair bd_unsureYears bd_triedPair bd_seats bd_slack bd_sawInches bd_quarrelChance bd_people bd_forkBits bd_unsure bd_tried bd_triedFedBits bf_seatOf bf_one bf_other bf_kind bf_years bf_sawn bf_pairs bf_gone nw_seatOf nw_one nw_other nw_kind nw_years nw_sawn nw_pairs nw_gone sc_seatOf sc_handle sc_both sc_slopOf sc_forkBits sc_canBits sc_bestBits sc_bestSlops sl_bits sl_count se_bestRow se_row se_pairAt se_hope se_hopeAt se_slopAt se_farBits se_gain se_worth se_bestWorth se_fresh o.1 o.2.1 o.2.2.1 o.2.2.2 ch_leastCost ch_leastBits cl_bits cl_count fi_sets fi_count ps_act ps_whom ps_amount ps_next ps_count i0_seatOf i0_one i0_other i0_kind i0_years i0_sawn i0_pairs i0_gone i1_seatOf i1_one i1_other i1_kind i1_years i1_sawn i1_pairs i1_gone i2_seatOf i2_one i2_other i2_kind i2_years i2_sawn i2_pairs i2_gone) H locs → lv_has ls 2 [(0, .ref (ad 0))] → W p l e (xR 4 91) s m args below meth c H locs 0 0 Q (F0 m 50 ls [])) :
    ∀ (n : Nat) (l1 : Int32) (ch_both : Nat → Int32) (ch_cost : Nat → Int32) (ch_bit : Nat → Int32) (ch_items : Int32) (H : Heap) (locs : List Loc) (ls : Array Slot), xG s E A (wX E ad x_imageCount x_lastTrouble x_lastFault x_lastPlace pa_names pa_faultNumber pa_faultPlace rd_tape rd_length rd_end rd_next rd_sort rd_start rd_value rd_word to_unsurePair to_unsureYears to_triedPair to_seats to_slack to_sawInches to_quarrelChance to_people to_forkBits to_unsure to_tried to_triedFedBits tf_seatOf tf_one tf_other tf_kind tf_years tf_sawn tf_pairs tf_gone bd_unsurePair bd_unsureYears bd_triedPair bd_seats bd_slack bd_sawInches bd_quarrelChance bd_people bd_forkBits bd_unsure bd_tried bd_triedFedBits bf_seatOf bf_one bf_other bf_kind bf_years bf_sawn bf_pairs bf_gone nw_seatOf nw_one nw_other nw_kind nw_years nw_sawn nw_pairs nw_gone sc_seatOf sc_handle sc_both sc_slopOf sc_forkBits sc_canBits sc_bestBits sc_bestSlops sl_bits sl_count se_bestRow se_row se_pairAt se_hope se_hopeAt se_slopAt se_farBits se_gain se_worth se_bestWorth se_fresh ch_both ch_cost ch_bit ch_items ch_leastCost ch_leastBits cl_bits cl_count fi_sets fi_count ps_act ps_whom ps_amount ps_next ps_count i0_seatOf i0_one i0_other i0_kind i0_years i0_sawn i0_pairs i0_gone i1_seatOf i1_one i1_other i1_kind i1_years i1_sawn i1_pairs i1_gone i2_seatOf i2_one i2_other i2_kind i2_years i2_sawn i2_pairs i2_gone) H locs → lv_has ls 2 [(0, .ref (ad 0)), (1, .int l1)] → f_X_chooseSaws_L10 bd_slack nw_seatOf nw_one nw_other nw_kind nw_years nw_sawn nw_pairs n l1 ch_both ch_cost ch_bit ch_items = some o → W p l e (xR 4 91) s m args below meth c H locs 0 0 Q (F0 m 10 ls []) := by
  have hx := C.1
  have hb := C.2.1
  intro n
  induction n with
  | zero =>
    intro l1 ch_both ch_cost ch_bit ch_items H locs ls G hl hf
    exact nomatch (show (none : Option ((Nat → Int32) × (Nat → Int32) × (Nat → Int32) × Int32)) = some o from hf)
  | succ n ih =>
    intro l1 ch_both ch_cost ch_bit ch_items H locs ls G hl hf
    rw [f_X_chooseSaws_L10] at hf
    refine lv_iload_n hx hb dX10_chooseSaws_10 rfl (lv_at hl 1 rfl) ?_
    refine lv_aload_n hx hb dX10_chooseSaws_11 rfl (lv_at hl 0 rfl) ?_
    refine x_get C G fX10_26 (wX_at0) rfl dX10_chooseSaws_12 ?_
    refine x_get C G fX10_282.g (wX_at28) rfl dX10_chooseSaws_15 ?_
    refine lv_icmp_ge (tgt := 50) hx hb dX10_chooseSaws_18 (by decide) (fun h => ?_) (fun h => ?_)
    · have hf := it_t h hf
      obtain rfl := Option.some.inj hf
      exact J _ _ _ G (lv_sub hl [0] rfl)
    · have hf := it_f h hf
      refine lv_aload_n hx hb dX10_chooseSaws_21 rfl (lv_at hl 0 rfl) ?_
      refine x_get C G fX10_49 (wX_at0) rfl dX10_chooseSaws_22 ?_
      refine lv_aload_n hx hb dX10_chooseSaws_25 rfl (lv_at hl 0 rfl) ?_
      refine x_get C G fX10_26 (wX_at0) rfl dX10_chooseSaws_26 ?_
      refine lv_iload_n hx hb dX10_chooseSaws_29 rfl (lv_at hl 1 rfl) ?_
      obtain ⟨x1, hc, hf⟩ := bd_go hf
      refine xI_V C G (c_Now_both_nw hc) mX4_both kX10_404 (wX_at28) rfl ⟨Nat.le_of_ble_eq_true rfl, Nat.le_of_ble_eq_true rfl⟩ rfl hl.1 rfl (Nat.le_of_ble_eq_true rfl) ⟨Nat.le_refl _, Nat.le_refl _⟩ dX10_chooseSaws_30 (fun hz H locs G => ?_)
      refine lv_aload_n hx hb dX10_chooseSaws_33 rfl (lv_at hl 0 rfl) ?_
      refine lv_iload_n hx hb dX10_chooseSaws_34 rfl (lv_at hl 1 rfl) ?_
      obtain ⟨x2, hc, hf⟩ := bd_go hf
      refine xI_V C G (c_X_fewestInches_x hc) mX10_fewestInches kX10_407 (wX_at0) rfl ⟨Nat.le_of_ble_eq_true rfl, Nat.le_of_ble_eq_true rfl⟩ rfl hl.1 rfl (Nat.le_of_ble_eq_true rfl) ⟨Nat.le_refl _, Nat.le_refl _⟩ dX10_chooseSaws_35 (fun hz H locs G => ?_)
      refine lv_iconst (v := 1) hx hb dX10_chooseSaws_38 (by decide) ?_
      refine lv_iload_n hx hb dX10_chooseSaws_39 rfl (lv_at hl 1 rfl) ?_
      refine lv_ishl hx hb dX10_chooseSaws_40 ?_
      obtain ⟨x3, hc, hf⟩ := bd_go hf
      refine xV_V C G (c_Choice_add_ch hc) mX1_add kX10_410 (wX_at52) rfl ⟨Nat.le_of_ble_eq_true rfl, Nat.le_of_ble_eq_true rfl⟩ rfl hl.1 rfl (Nat.le_of_ble_eq_true rfl) ⟨Nat.le_refl _, Nat.le_refl _⟩ dX10_chooseSaws_41 (fun H locs G => ?_)
      obtain ⟨x4, ex4⟩ : ∃ z : Int32, z = l1 + (1 : Int32) := ⟨_, rfl⟩
      have hf := lt_go ex4 hf
      refine lv_iinc (v := x4) (lv' := [(1, .int x4), (0, .ref (ad 0))]) hx hb dX10_chooseSaws_44 hl (k := 1) rfl (by rw [ex4]; rfl) (by decide) rfl (fun ls hl => ?_)
      refine lv_goto (tgt := 10) hx hb dX10_chooseSaws_47 (by decide) ?_
      exact ih x4 x3.1 x3.2.1 x3.2.2.1 x3.2.2.2 _ _ _ G (lv_sub hl [1, 0] rfl) hf
set_option maxHeartbeats 4000000 in
set_option maxRecDepth 100000 in
theorem c_X_chooseSaws_x {l : Launch} {E : xE} {ad : Nat → Nat} {x_imageCount x_lastTrouble x_lastFault x_lastPlace pa_faultNumber pa_faultPlace rd_length rd_end rd_next rd_sort rd_start rd_value to_seats to_slack to_sawInches to_quarrelChance to_people to_forkBits to_unsure to_tried to_triedFedBits tf_pairs tf_gone bd_seats bd_slack bd_sawInches bd_quarrelChance bd_people bd_forkBits bd_unsure bd_tried bd_triedFedBits bf_pairs bf_gone nw_pairs nw_gone sc_forkBits sc_canBits sc_bestBits sc_bestSlops sl_count se_bestWorth se_fresh ch_items ch_leastCost ch_leastBits cl_count fi_count ps_next ps_count i0_pairs i0_gone i1_pairs i1_gone i2_pairs i2_gone : Int32} {pa_names : Nat → Int64} {rd_tape to_unsurePair to_unsureYears to_triedPair tf_seatOf tf_one tf_other tf_kind tf_years tf_sawn bd_unsurePair bd_unsureYears bd_triedPair bf_seatOf bf_one bf_other bf_kind bf_years bf_sawn nw_seatOf nw_one nw_other nw_kind nw_years nw_sawn sc_seatOf sc_handle sc_both sc_slopOf sl_bits se_bestRow se_row se_pairAt se_hope se_hopeAt se_slopAt se_farBits se_gain se_worth ch_both ch_cost ch_bit cl_bits fi_sets ps_act ps_whom ps_amount i0_seatOf i0_one i0_other i0_kind i0_years i0_sawn i1_seatOf i1_one i1_other i1_kind i1_years i1_sawn i2_seatOf i2_one i2_other i2_kind i2_years i2_sawn : Nat → Int32} {rd_word : Int64} {R0 : (Nat → Int32) × (Nat → Int32) × (Nat → Int32) × Int32 × Int32 × Int32 × (Nat → Int32) × Int32} (hf : f_X_chooseSaws bd_slack bd_people nw_seatOf nw_one nw_other nw_kind nw_years nw_sawn nw_pairs ch_both ch_cost ch_bit cl_bits = some R0) : xV l E yX10_chooseSaws cX10_chooseSaws 2 none 4 91 [.ref (ad 0)] (wX E ad x_imageCount x_lastTrouble x_lastFault x_lastPlace pa_names pa_faultNumber pa_faultPlace rd_tape rd_length rd_end rd_next rd_sort rd_start rd_value rd_word to_unsurePair to_unsureYears to_triedPair to_seats to_slack to_sawInches to_quarrelChance to_people to_forkBits to_unsure to_tried to_triedFedBits tf_seatOf tf_one tf_other tf_kind tf_years tf_sawn tf_pairs tf_gone bd_unsurePair bd_unsureYears bd_triedPair bd_seats bd_slack bd_sawInches bd_quarrelChance bd_people bd_forkBits bd_unsure bd_tried bd_triedFedBits bf_seatOf bf_one bf_other bf_kind bf_years bf_sawn bf_pairs bf_gone nw_seatOf nw_one nw_other nw_kind nw_years nw_sawn nw_pairs nw_gone sc_seatOf sc_handle sc_both sc_slopOf sc_forkBits sc_canBits sc_bestBits sc_bestSlops sl_bits sl_count se_bestRow se_row se_pairAt se_hope se_hopeAt se_slopAt se_farBits se_gain se_worth se_bestWorth se_fresh ch_both ch_cost ch_bit ch_items ch_leastCost ch_leastBits cl_bits cl_count fi_sets fi_count ps_act ps_whom ps_amount ps_next ps_count i0_seatOf i0_one i0_other i0_kind i0_years i0_sawn i0_pairs i0_gone i1_seatOf i1_one i1_other i1_kind i1_years i1_sawn i1_pairs i1_gone i2_seatOf i2_one i2_other i2_kind i2_years i2_sawn i2_pairs i2_gone) (wX E ad x_imageCount x_lastTrouble x_lastFault x_lastPlace pa_names pa_faultNumber pa_faultPlace rd_tape rd_length rd_end rd_next rd_sort rd_start rd_value rd_word to_unsurePair to_unsureYears to_triedPair to_seats to_slack to_sawInches to_quarrelChance to_people to_forkBits to_unsure to_tried to_triedFedBits tf_seatOf tf_one tf_other tf_kind tf_years tf_sawn tf_pairs tf_gone bd_unsurePair bd_unsureYears bd_triedPair bd_seats bd_slack bd_sawInches bd_quarrelChance bd_people bd_forkBits bd_unsure bd_tried bd_triedFedBits bf_seatOf bf_one bf_other bf_kind bf_years bf_sawn bf_pairs bf_gone nw_seatOf nw_one nw_other nw_kind nw_years nw_sawn nw_pairs nw_gone sc_seatOf sc_handle sc_both sc_slopOf sc_forkBits sc_canBits sc_bestBits sc_bestSlops sl_bits sl_count se_bestRow se_row se_pairAt se_hope se_hopeAt se_slopAt se_farBits se_gain se_worth se_bestWorth se_fresh R0.1 R0.2.1 R0.2.2.1 R0.2.2.2.1 R0.2.2.2.2.1 R0.2.2.2.2.2.1 R0.2.2.2.2.2.2.1 R0.2.2.2.2.2.2.2 fi_sets fi_count ps_act ps_whom ps_amount ps_next ps_count i0_seatOf i0_one i0_other i0_kind i0_years i0_sawn i0_pairs i0_gone i1_seatOf i1_one i1_other i1_kind i1_years i1_sawn i1_pairs i1_gone i2_seatOf i2_one i2_other i2_kind i2_years i2_sawn i2_pairs i2_gone) := by
  refine xV_of (by decide) (Nat.le_of_ble_eq_true rfl) (fun p e s m args below meth c A C ls hl G => ?_)
  have hx := C.1
  have hb := C.2.1
  have hl : lv_has ls 2 [(0, .ref (ad 0))] := hl
  unfold f_X_chooseSaws at hf
  refine lv_aload_n hx hb dX10_chooseSaws_0 rfl (lv_at hl 0 rfl) ?_
  refine x_get C G fX10_49 (wX_at0) rfl dX10_chooseSaws_1 ?_
  refine lv_iconst (v := 0) hx hb dX10_chooseSaws_4 (by decide) ?_
  refine x_put (ws' := (wX E ad x_imageCount x_lastTrouble x_lastFault x_lastPlace pa_names pa_faultNumber pa_faultPlace rd_tape rd_length rd_end rd_next rd_sort rd_start rd_value rd_word to_unsurePair to_unsureYears to_triedPair to_seats to_slack to_sawInches to_quarrelChance to_people to_forkBits to_unsure to_tried to_triedFedBits tf_seatOf tf_one tf_other tf_kind tf_years tf_sawn tf_pairs tf_gone bd_unsurePair bd_unsureYears bd_triedPair bd_seats bd_slack bd_sawInches bd_quarrelChance bd_people bd_forkBits bd_unsure bd_tried bd_triedFedBits bf_seatOf bf_one bf_other bf_kind bf_years bf_sawn bf_pairs bf_gone nw_seatOf nw_one nw_other nw_kind nw_years nw_sawn nw_pairs nw_gone sc_seatOf sc_handle sc_both sc_slopOf sc_forkBits sc_canBits sc_bestBits sc_bestSlops sl_bits sl_count se_bestRow se_row se_pairAt se_hope se_hopeAt se_slopAt se_farBits se_gain se_worth se_bestWorth se_fresh ch_both ch_cost ch_bit (0 : Int32) ch_leastCost ch_leastBits cl_bits cl_count fi_sets fi_count ps_act ps_whom ps_amount ps_next ps_count i0_seatOf i0_one i0_other i0_kind i0_years i0_sawn i0_pairs i0_gone i1_seatOf i1_one i1_other i1_kind i1_years i1_sawn i1_pairs i1_gone i2_seatOf i2_one i2_other i2_kind i2_years i2_sawn i2_pairs i2_gone)) C G fX10_401 (wX_at52) rfl rfl (Nat.le_of_ble_eq_true rfl) wX_set_ch_items dX10_chooseSaws_5 (fun H locs G => ?_)
  refine lv_iconst (v := 0) hx hb dX10_chooseSaws_8 (by decide) ?_
  refine lv_istore_n (lv' := [(1, .int (0 : Int32)), (0, .ref (ad 0))]) hx hb dX10_chooseSaws_9 rfl hl (by decide) rfl (fun ls hl => ?_)
  obtain ⟨x5, hr, hf⟩ := bd_go hf
  have Jx5 : ∀ (H : Heap) (locs : List Loc) (ls : Array Slot), xG s E A (wX E ad x_imageCount x_lastTrouble x_lastFault x_lastPlace pa_names pa_faultNumber pa_faultPlace rd_tape rd_length rd_end rd_next rd_sort rd_start rd_value rd_word to_unsurePair to_unsureYears to_triedPair to_seats to_slack to_sawInches to_quarrelChance to_people to_forkBits to_unsure to_tried to_triedFedBits tf_seatOf tf_one tf_other tf_kind tf_years tf_sawn tf_pairs tf_gone bd_unsurePair bd_unsureYears bd_triedPair bd_seats bd_slack bd_sawInches bd_quarrelChance bd_people bd_forkBits bd_unsure bd_tried bd_triedFedBits bf_seatOf bf_one bf_other bf_kind bf_years bf_sawn bf_pairs bf_gone nw_seatOf nw_one nw_other nw_kind nw_years nw_sawn nw_pairs nw_gone sc_seatOf sc_handle sc_both sc_slopOf sc_forkBits sc_canBits sc_bestBits sc_bestSlops sl_bits sl_count se_bestRow se_row se_pairAt se_hope se_hopeAt se_slopAt se_farBits se_gain se_worth se_bestWorth se_fresh x5.1 x5.2.1 x5.2.2.1 x5.2.2.2 ch_leastCost ch_leastBits cl_bits cl_count fi_sets fi_count ps_act ps_whom ps_amount ps_next ps_count i0_seatOf i0_one i0_other i0_kind i0_years i0_sawn i0_pairs i0_gone i1_seatOf i1_one i1_other i1_kind i1_years i1_sawn i1_pairs i1_gone i2_seatOf i2_one i2_other i2_kind i2_years i2_sawn i2_pairs i2_gone) H locs → lv_has ls 2 [(0, .ref (ad 0))] → W p l e (xR 4 91) s m args below meth c H locs 0 0 (MQ below (xqV E A (wX E ad x_imageCount x_lastTrouble x_lastFault x_lastPlace pa_names pa_faultNumber pa_faultPlace rd_tape rd_length rd_end rd_next rd_sort rd_start rd_value rd_word to_unsurePair to_unsureYears to_triedPair to_seats to_slack to_sawInches to_quarrelChance to_people to_forkBits to_unsure to_tried to_triedFedBits tf_seatOf tf_one tf_other tf_kind tf_years tf_sawn tf_pairs tf_gone bd_unsurePair bd_unsureYears bd_triedPair bd_seats bd_slack bd_sawInches bd_quarrelChance bd_people bd_forkBits bd_unsure bd_tried bd_triedFedBits bf_seatOf bf_one bf_other bf_kind bf_years bf_sawn bf_pairs bf_gone nw_seatOf nw_one nw_other nw_kind nw_years nw_sawn nw_pairs nw_gone sc_seatOf sc_handle sc_both sc_slopOf sc_forkBits sc_canBits sc_bestBits sc_bestSlops sl_bits sl_count se_bestRow se_row se_pairAt se_hope se_hopeAt se_slopAt se_farBits se_gain se_worth se_bestWorth se_fresh R0.1 R0.2.1 R0.2.2.1 R0.2.2.2.1 R0.2.2.2.2.1 R0.2.2.2.2.2.1 R0.2.2.2.2.2.2.1 R0.2.2.2.2.2.2.2 fi_sets fi_count ps_act ps_whom ps_amount ps_next ps_count i0_seatOf i0_one i0_other i0_kind i0_years i0_sawn i0_pairs i0_gone i1_seatOf i1_one i1_other i1_kind i1_years i1_sawn i1_pairs i1_gone i2_seatOf i2_one i2_other i2_kind i2_years i2_sawn i2_pairs i2_gone)) args s 0 0 A) (F0 m 50 ls []) := by
    intro H locs ls G hl
    refine lv_aload_n hx hb dX10_chooseSaws_50 rfl (lv_at hl 0 rfl) ?_
    refine x_get C G fX10_49 (wX_at0) rfl dX10_chooseSaws_51 ?_
    refine lv_aload_n hx hb dX10_chooseSaws_54 rfl (lv_at hl 0 rfl) ?_
    refine x_get C G fX10_22 (wX_at0) rfl dX10_chooseSaws_55 ?_
    refine x_get C G fX10_132.g (wX_at17) rfl dX10_chooseSaws_58 ?_
    refine lv_iconst (v := 2) hx hb dX10_chooseSaws_61 (by decide) ?_
    refine lv_idiv hx hb dX10_chooseSaws_62 (by decide) ?_
    obtain ⟨x6, hc, hf⟩ := bd_go hf
    refine xV_V C G (c_Choice_decide_ch hc) mX1_decide kX10_413 (wX_at52) rfl ⟨Nat.le_of_ble_eq_true rfl, Nat.le_of_ble_eq_true rfl⟩ rfl hl.1 rfl (Nat.le_of_ble_eq_true rfl) ⟨Nat.le_refl _, Nat.le_refl _⟩ dX10_chooseSaws_63 (fun H locs G => ?_)
    obtain rfl := Option.some.inj hf
    exact xV_ret C G dX10_chooseSaws_66
  exact w_X_chooseSaws_x_L10 C Jx5 fu _ _ _ _ _ _ _ _ G (lv_sub hl [1, 0] rfl) hr
set_option maxHeartbeats 4000000 in
set_option maxRecDepth 100000 in
theorem c_X_saws_x {l : Launch} {E : xE} {ad : Nat → Nat} {x_imageCount x_lastTrouble x_lastFault x_lastPlace pa_faultNumber pa_faultPlace rd_length rd_end rd_next rd_sort rd_start rd_value to_seats to_slack to_sawInches to_quarrelChance to_people to_forkBits to_unsure to_tried to_triedFedBits tf_pairs tf_gone bd_seats bd_slack bd_sawInches bd_quarrelChance bd_people bd_forkBits bd_unsure bd_tried bd_triedFedBits bf_pairs bf_gone nw_pairs nw_gone sc_forkBits sc_canBits sc_bestBits sc_bestSlops sl_count se_bestWorth se_fresh ch_items ch_leastCost ch_leastBits cl_count fi_count ps_next ps_count i0_pairs i0_gone i1_pairs i1_gone i2_pairs i2_gone : Int32} {pa_names : Nat → Int64} {rd_tape to_unsurePair to_unsureYears to_triedPair tf_seatOf tf_one tf_other tf_kind tf_years tf_sawn bd_unsurePair bd_unsureYears bd_triedPair bf_seatOf bf_one bf_other bf_kind bf_years bf_sawn nw_seatOf nw_one nw_other nw_kind nw_years nw_sawn sc_seatOf sc_handle sc_both sc_slopOf sl_bits se_bestRow se_row se_pairAt se_hope se_hopeAt se_slopAt se_farBits se_gain se_worth ch_both ch_cost ch_bit cl_bits fi_sets ps_act ps_whom ps_amount i0_seatOf i0_one i0_other i0_kind i0_years i0_sawn i1_seatOf i1_one i1_other i1_kind i1_years i1_sawn i2_seatOf i2_one i2_other i2_kind i2_years i2_sawn : Nat → Int32} {rd_word : Int64} {R0 : Int32 × Int32 × (Nat → Int32) × (Nat → Int32) × (Nat → Int32) × Int32 × Int32 × Int32 × (Nat → Int32) × Int32} (hf : f_X_saws bd_slack bd_people nw_seatOf nw_one nw_other nw_kind nw_years nw_sawn nw_pairs ch_both ch_cost ch_bit ch_items ch_leastCost ch_leastBits cl_bits cl_count = some R0) : xI l E yX10_saws cX10_saws 1 (some .int) 5 112 [.ref (ad 0)] (wX E ad x_imageCount x_lastTrouble x_lastFault x_lastPlace pa_names pa_faultNumber pa_faultPlace rd_tape rd_length rd_end rd_next rd_sort rd_start rd_value rd_word to_unsurePair to_unsureYears to_triedPair to_seats to_slack to_sawInches to_quarrelChance to_people to_forkBits to_unsure to_tried to_triedFedBits tf_seatOf tf_one tf_other tf_kind tf_years tf_sawn tf_pairs tf_gone bd_unsurePair bd_unsureYears bd_triedPair bd_seats bd_slack bd_sawInches bd_quarrelChance bd_people bd_forkBits bd_unsure bd_tried bd_triedFedBits bf_seatOf bf_one bf_other bf_kind bf_years bf_sawn bf_pairs bf_gone nw_seatOf nw_one nw_other nw_kind nw_years nw_sawn nw_pairs nw_gone sc_seatOf sc_handle sc_both sc_slopOf sc_forkBits sc_canBits sc_bestBits sc_bestSlops sl_bits sl_count se_bestRow se_row se_pairAt se_hope se_hopeAt se_slopAt se_farBits se_gain se_worth se_bestWorth se_fresh ch_both ch_cost ch_bit ch_items ch_leastCost ch_leastBits cl_bits cl_count fi_sets fi_count ps_act ps_whom ps_amount ps_next ps_count i0_seatOf i0_one i0_other i0_kind i0_years i0_sawn i0_pairs i0_gone i1_seatOf i1_one i1_other i1_kind i1_years i1_sawn i1_pairs i1_gone i2_seatOf i2_one i2_other i2_kind i2_years i2_sawn i2_pairs i2_gone) (wX E ad x_imageCount R0.2.1 x_lastFault x_lastPlace pa_names pa_faultNumber pa_faultPlace rd_tape rd_length rd_end rd_next rd_sort rd_start rd_value rd_word to_unsurePair to_unsureYears to_triedPair to_seats to_slack to_sawInches to_quarrelChance to_people to_forkBits to_unsure to_tried to_triedFedBits tf_seatOf tf_one tf_other tf_kind tf_years tf_sawn tf_pairs tf_gone bd_unsurePair bd_unsureYears bd_triedPair bd_seats bd_slack bd_sawInches bd_quarrelChance bd_people bd_forkBits bd_unsure bd_tried bd_triedFedBits bf_seatOf bf_one bf_other bf_kind bf_years bf_sawn bf_pairs bf_gone nw_seatOf nw_one nw_other nw_kind nw_years nw_sawn nw_pairs nw_gone sc_seatOf sc_handle sc_both sc_slopOf sc_forkBits sc_canBits sc_bestBits sc_bestSlops sl_bits sl_count se_bestRow se_row se_pairAt se_hope se_hopeAt se_slopAt se_farBits se_gain se_worth se_bestWorth se_fresh R0.2.2.1 R0.2.2.2.1 R0.2.2.2.2.1 R0.2.2.2.2.2.1 R0.2.2.2.2.2.2.1 R0.2.2.2.2.2.2.2.1 R0.2.2.2.2.2.2.2.2.1 R0.2.2.2.2.2.2.2.2.2 fi_sets fi_count ps_act ps_whom ps_amount ps_next ps_count i0_seatOf i0_one i0_other i0_kind i0_years i0_sawn i0_pairs i0_gone i1_seatOf i1_one i1_other i1_kind i1_years i1_sawn i1_pairs i1_gone i2_seatOf i2_one i2_other i2_kind i2_years i2_sawn i2_pairs i2_gone) R0.1 := by
  refine xI_of (by decide) (Nat.le_of_ble_eq_true rfl) (fun p e s m args below meth c A C ls hl G => ?_)
  have hx := C.1
  have hb := C.2.1
  have hl : lv_has ls 1 [(0, .ref (ad 0))] := hl
  unfold f_X_saws at hf
  refine lv_aload_n hx hb dX10_saws_0 rfl (lv_at hl 0 rfl) ?_
  obtain ⟨x1, hc, hf⟩ := bd_go hf
  refine xI_V C G (c_X_noTable_x hc) mX10_noTable kX10_187 (wX_at0) rfl ⟨Nat.le_of_ble_eq_true rfl, Nat.le_of_ble_eq_true rfl⟩ rfl hl.1 rfl (Nat.le_of_ble_eq_true rfl) ⟨Nat.le_refl _, Nat.le_refl _⟩ dX10_saws_1 (fun hz1 H locs G => ?_)
  refine lv_if_eq (tgt := 9) hx hb dX10_saws_4 (by decide) (fun h => ?_) (fun h => ?_)
  · have hf := it_t h hf
    refine lv_aload_n hx hb dX10_saws_9 rfl (lv_at hl 0 rfl) ?_
    obtain ⟨x2, hc, hf⟩ := bd_go hf
    refine xV_V C G (c_X_chooseSaws_x hc) mX10_chooseSaws kX10_261 (wX_at0) rfl ⟨Nat.le_of_ble_eq_true rfl, Nat.le_of_ble_eq_true rfl⟩ rfl hl.1 rfl (Nat.le_of_ble_eq_true rfl) ⟨Nat.le_refl _, Nat.le_refl _⟩ dX10_saws_10 (fun H locs G => ?_)
    refine lv_aload_n hx hb dX10_saws_13 rfl (lv_at hl 0 rfl) ?_
    refine x_get C G fX10_49 (wX_at0) rfl dX10_saws_14 ?_
    refine x_get C G fX10_264.g (wX_at52) rfl dX10_saws_17 ?_
    obtain rfl := Option.some.inj hf
    exact xI_ret C G rfl dX10_saws_20
  · have hf := it_f h hf
    refine lv_iconst (v := -1) hx hb dX10_saws_7 (by decide) ?_
    obtain rfl := Option.some.inj hf
    exact xI_ret C G rfl dX10_saws_8
set_option maxHeartbeats 4000000 in
set_option maxRecDepth 100000 in
theorem c_X_sawsOf_x {l : Launch} {E : xE} {ad : Nat → Nat} {x_imageCount x_lastTrouble x_lastFault x_lastPlace pa_faultNumber pa_faultPlace rd_length rd_end rd_next rd_sort rd_start rd_value to_seats to_slack to_sawInches to_quarrelChance to_people to_forkBits to_unsure to_tried to_triedFedBits tf_pairs tf_gone bd_seats bd_slack bd_sawInches bd_quarrelChance bd_people bd_forkBits bd_unsure bd_tried bd_triedFedBits bf_pairs bf_gone nw_pairs nw_gone sc_forkBits sc_canBits sc_bestBits sc_bestSlops sl_count se_bestWorth se_fresh ch_items ch_leastCost ch_leastBits cl_count fi_count ps_next ps_count i0_pairs i0_gone i1_pairs i1_gone i2_pairs i2_gone : Int32} {pa_names : Nat → Int64} {rd_tape to_unsurePair to_unsureYears to_triedPair tf_seatOf tf_one tf_other tf_kind tf_years tf_sawn bd_unsurePair bd_unsureYears bd_triedPair bf_seatOf bf_one bf_other bf_kind bf_years bf_sawn nw_seatOf nw_one nw_other nw_kind nw_years nw_sawn sc_seatOf sc_handle sc_both sc_slopOf sl_bits se_bestRow se_row se_pairAt se_hope se_hopeAt se_slopAt se_farBits se_gain se_worth ch_both ch_cost ch_bit cl_bits fi_sets ps_act ps_whom ps_amount i0_seatOf i0_one i0_other i0_kind i0_years i0_sawn i1_seatOf i1_one i1_other i1_kind i1_years i1_sawn i2_seatOf i2_one i2_other i2_kind i2_years i2_sawn : Nat → Int32} {rd_word : Int64} {l1 : Int32} {R0 : Int32 × Int32 × (Nat → Int32) × (Nat → Int32) × (Nat → Int32) × Int32 × Int32 × Int32 × (Nat → Int32) × Int32} (hf : f_X_sawsOf l1 bd_slack bd_people nw_seatOf nw_one nw_other nw_kind nw_years nw_sawn nw_pairs ch_both ch_cost ch_bit ch_items ch_leastCost ch_leastBits cl_bits cl_count = some R0) : xI l E yX10_sawsOf cX10_sawsOf 2 (some .int) 5 112 [.ref (ad 0), .int l1] (wX E ad x_imageCount x_lastTrouble x_lastFault x_lastPlace pa_names pa_faultNumber pa_faultPlace rd_tape rd_length rd_end rd_next rd_sort rd_start rd_value rd_word to_unsurePair to_unsureYears to_triedPair to_seats to_slack to_sawInches to_quarrelChance to_people to_forkBits to_unsure to_tried to_triedFedBits tf_seatOf tf_one tf_other tf_kind tf_years tf_sawn tf_pairs tf_gone bd_unsurePair bd_unsureYears bd_triedPair bd_seats bd_slack bd_sawInches bd_quarrelChance bd_people bd_forkBits bd_unsure bd_tried bd_triedFedBits bf_seatOf bf_one bf_other bf_kind bf_years bf_sawn bf_pairs bf_gone nw_seatOf nw_one nw_other nw_kind nw_years nw_sawn nw_pairs nw_gone sc_seatOf sc_handle sc_both sc_slopOf sc_forkBits sc_canBits sc_bestBits sc_bestSlops sl_bits sl_count se_bestRow se_row se_pairAt se_hope se_hopeAt se_slopAt se_farBits se_gain se_worth se_bestWorth se_fresh ch_both ch_cost ch_bit ch_items ch_leastCost ch_leastBits cl_bits cl_count fi_sets fi_count ps_act ps_whom ps_amount ps_next ps_count i0_seatOf i0_one i0_other i0_kind i0_years i0_sawn i0_pairs i0_gone i1_seatOf i1_one i1_other i1_kind i1_years i1_sawn i1_pairs i1_gone i2_seatOf i2_one i2_other i2_kind i2_years i2_sawn i2_pairs i2_gone) (wX E ad x_imageCount R0.2.1 x_lastFault x_lastPlace pa_names pa_faultNumber pa_faultPlace rd_tape rd_length rd_end rd_next rd_sort rd_start rd_value rd_word to_unsurePair to_unsureYears to_triedPair to_seats to_slack to_sawInches to_quarrelChance to_people to_forkBits to_unsure to_tried to_triedFedBits tf_seatOf tf_one tf_other tf_kind tf_years tf_sawn tf_pairs tf_gone bd_unsurePair bd_unsureYears bd_triedPair bd_seats bd_slack bd_sawInches bd_quarrelChance bd_people bd_forkBits bd_unsure bd_tried bd_triedFedBits bf_seatOf bf_one bf_other bf_kind bf_years bf_sawn bf_pairs bf_gone nw_seatOf nw_one nw_other nw_kind nw_years nw_sawn nw_pairs nw_gone sc_seatOf sc_handle sc_both sc_slopOf sc_forkBits sc_canBits sc_bestBits sc_bestSlops sl_bits sl_count se_bestRow se_row se_pairAt se_hope se_hopeAt se_slopAt se_farBits se_gain se_worth se_bestWorth se_fresh R0.2.2.1 R0.2.2.2.1 R0.2.2.2.2.1 R0.2.2.2.2.2.1 R0.2.2.2.2.2.2.1 R0.2.2.2.2.2.2.2.1 R0.2.2.2.2.2.2.2.2.1 R0.2.2.2.2.2.2.2.2.2 fi_sets fi_count ps_act ps_whom ps_amount ps_next ps_count i0_seatOf i0_one i0_other i0_kind i0_years i0_sawn i0_pairs i0_gone i1_seatOf i1_one i1_other i1_kind i1_years i1_sawn i1_pairs i1_gone i2_seatOf i2_one i2_other i2_kind i2_years i2_sawn i2_pairs i2_gone) R0.1 := by
  refine xI_of (by decide) (Nat.le_of_ble_eq_true rfl) (fun p e s m args below meth c A C ls hl G => ?_)
  have hx := C.1
  have hb := C.2.1
  have hl : lv_has ls 2 [(0, .ref (ad 0)), (1, .int l1)] := hl
  unfold f_X_sawsOf at hf
  refine lv_aload_n hx hb dX10_sawsOf_0 rfl (lv_at hl 0 rfl) ?_
  refine lv_iload_n hx hb dX10_sawsOf_1 rfl (lv_at hl 1 rfl) ?_
  obtain ⟨x1, hc, hf⟩ := bd_go hf
  refine xI_V C G (c_X_noPair_x hc) mX10_noPair kX10_142 (wX_at0) rfl ⟨Nat.le_of_ble_eq_true rfl, Nat.le_of_ble_eq_true rfl⟩ rfl hl.1 rfl (Nat.le_of_ble_eq_true rfl) ⟨Nat.le_refl _, Nat.le_refl _⟩ dX10_sawsOf_2 (fun hz1 H locs G => ?_)
  refine lv_if_eq (tgt := 10) hx hb dX10_sawsOf_5 (by decide) (fun h => ?_) (fun h => ?_)
  · have hf := it_t h hf
    refine lv_aload_n hx hb dX10_sawsOf_10 rfl (lv_at hl 0 rfl) ?_
    obtain ⟨x2, hc, hf⟩ := bd_go hf
    refine xV_V C G (c_X_chooseSaws_x hc) mX10_chooseSaws kX10_261 (wX_at0) rfl ⟨Nat.le_of_ble_eq_true rfl, Nat.le_of_ble_eq_true rfl⟩ rfl hl.1 rfl (Nat.le_of_ble_eq_true rfl) ⟨Nat.le_refl _, Nat.le_refl _⟩ dX10_sawsOf_11 (fun H locs G => ?_)
    refine lv_aload_n hx hb dX10_sawsOf_14 rfl (lv_at hl 0 rfl) ?_
    refine x_get C G fX10_49 (wX_at0) rfl dX10_sawsOf_15 ?_
    refine x_get C G fX10_264.g (wX_at52) rfl dX10_sawsOf_18 ?_
    refine lv_if_ge (tgt := 27) hx hb dX10_sawsOf_21 (by decide) (fun h => ?_) (fun h => ?_)
    · have hf := it_t h hf
      refine lv_aload_n hx hb dX10_sawsOf_27 rfl (lv_at hl 0 rfl) ?_
      refine x_get C G fX10_49 (wX_at0) rfl dX10_sawsOf_28 ?_
      refine x_get C G fX10_267.g (wX_at52) rfl dX10_sawsOf_31 ?_
      refine lv_iload_n hx hb dX10_sawsOf_34 rfl (lv_at hl 1 rfl) ?_
      obtain ⟨x3, hc, hf⟩ := bd_go hf
      refine xI_S C G (c_X_has_any hc) mX10_has kX10_257 ⟨Nat.le_of_ble_eq_true rfl, Nat.le_of_ble_eq_true rfl⟩ rfl hl.1 rfl (Nat.le_of_ble_eq_true rfl) ⟨Nat.le_refl _, Nat.le_refl _⟩ dX10_sawsOf_35 (fun hz3 H locs G => ?_)
      refine lv_if_eq (tgt := 53) hx hb dX10_sawsOf_38 (by decide) (fun h => ?_) (fun h => ?_)
      · have hf := it_t h hf
        refine lv_iconst (v := 0) hx hb dX10_sawsOf_53 (by decide) ?_
        obtain rfl := Option.some.inj hf
        exact xI_ret C G rfl dX10_sawsOf_54
      · have hf := it_f h hf
        refine lv_aload_n hx hb dX10_sawsOf_41 rfl (lv_at hl 0 rfl) ?_
        refine x_get C G fX10_49 (wX_at0) rfl dX10_sawsOf_42 ?_
        refine x_get C G fX10_270 (wX_at52) rfl dX10_sawsOf_45 ?_
        refine lv_iload_n hx hb dX10_sawsOf_48 rfl (lv_at hl 1 rfl) ?_
        have hi := ck_in hf
        have hf := ck_go hf
        refine x_iald C G (wX_at54) hi dX10_sawsOf_49 ?_
        refine lv_goto (tgt := 54) hx hb dX10_sawsOf_50 (by decide) ?_
        obtain rfl := Option.some.inj hf
        exact xI_ret C G rfl dX10_sawsOf_54
    · have hf := it_f h hf
      refine lv_bipush (v := -2) hx hb dX10_sawsOf_24 (by decide) ?_
      obtain rfl := Option.some.inj hf
      exact xI_ret C G rfl dX10_sawsOf_26
  · have hf := it_f h hf
    refine lv_iconst (v := -1) hx hb dX10_sawsOf_8 (by decide) ?_
    obtain rfl := Option.some.inj hf
    exact xI_ret C G rfl dX10_sawsOf_9
set_option maxHeartbeats 4000000 in
set_option maxRecDepth 100000 in
theorem c_X_addTwo_x {l : Launch} {E : xE} {ad : Nat → Nat} {x_imageCount x_lastTrouble x_lastFault x_lastPlace pa_faultNumber pa_faultPlace rd_length rd_end rd_next rd_sort rd_start rd_value to_seats to_slack to_sawInches to_quarrelChance to_people to_forkBits to_unsure to_tried to_triedFedBits tf_pairs tf_gone bd_seats bd_slack bd_sawInches bd_quarrelChance bd_people bd_forkBits bd_unsure bd_tried bd_triedFedBits bf_pairs bf_gone nw_pairs nw_gone sc_forkBits sc_canBits sc_bestBits sc_bestSlops sl_count se_bestWorth se_fresh ch_items ch_leastCost ch_leastBits cl_count fi_count ps_next ps_count i0_pairs i0_gone i1_pairs i1_gone i2_pairs i2_gone : Int32} {pa_names : Nat → Int64} {rd_tape to_unsurePair to_unsureYears to_triedPair tf_seatOf tf_one tf_other tf_kind tf_years tf_sawn bd_unsurePair bd_unsureYears bd_triedPair bf_seatOf bf_one bf_other bf_kind bf_years bf_sawn nw_seatOf nw_one nw_other nw_kind nw_years nw_sawn sc_seatOf sc_handle sc_both sc_slopOf sl_bits se_bestRow se_row se_pairAt se_hope se_hopeAt se_slopAt se_farBits se_gain se_worth ch_both ch_cost ch_bit cl_bits fi_sets ps_act ps_whom ps_amount i0_seatOf i0_one i0_other i0_kind i0_years i0_sawn i1_seatOf i1_one i1_other i1_kind i1_years i1_sawn i2_seatOf i2_one i2_other i2_kind i2_years i2_sawn : Nat → Int32} {rd_word : Int64} {l1 : Int32} {l2 : Int32} {l3 : Int32} {R0 : (Nat → Int32) × (Nat → Int32) × (Nat → Int32) × Int32} (hf : f_X_addTwo l1 l2 l3 bd_slack nw_seatOf nw_one nw_other nw_kind nw_years nw_sawn nw_pairs ch_both ch_cost ch_bit ch_items = some R0) : xV l E yX10_addTwo cX10_addTwo 7 none 3 66 [.ref (ad 0), .int l1, .int l2, .int l3] (wX E ad x_imageCount x_lastTrouble x_lastFault x_lastPlace pa_names pa_faultNumber pa_faultPlace rd_tape rd_length rd_end rd_next rd_sort rd_start rd_value rd_word to_unsurePair to_unsureYears to_triedPair to_seats to_slack to_sawInches to_quarrelChance to_people to_forkBits to_unsure to_tried to_triedFedBits tf_seatOf tf_one tf_other tf_kind tf_years tf_sawn tf_pairs tf_gone bd_unsurePair bd_unsureYears bd_triedPair bd_seats bd_slack bd_sawInches bd_quarrelChance bd_people bd_forkBits bd_unsure bd_tried bd_triedFedBits bf_seatOf bf_one bf_other bf_kind bf_years bf_sawn bf_pairs bf_gone nw_seatOf nw_one nw_other nw_kind nw_years nw_sawn nw_pairs nw_gone sc_seatOf sc_handle sc_both sc_slopOf sc_forkBits sc_canBits sc_bestBits sc_bestSlops sl_bits sl_count se_bestRow se_row se_pairAt se_hope se_hopeAt se_slopAt se_farBits se_gain se_worth se_bestWorth se_fresh ch_both ch_cost ch_bit ch_items ch_leastCost ch_leastBits cl_bits cl_count fi_sets fi_count ps_act ps_whom ps_amount ps_next ps_count i0_seatOf i0_one i0_other i0_kind i0_years i0_sawn i0_pairs i0_gone i1_seatOf i1_one i1_other i1_kind i1_years i1_sawn i1_pairs i1_gone i2_seatOf i2_one i2_other i2_kind i2_years i2_sawn i2_pairs i2_gone) (wX E ad x_imageCount x_lastTrouble x_lastFault x_lastPlace pa_names pa_faultNumber pa_faultPlace rd_tape rd_length rd_end rd_next rd_sort rd_start rd_value rd_word to_unsurePair to_unsureYears to_triedPair to_seats to_slack to_sawInches to_quarrelChance to_people to_forkBits to_unsure to_tried to_triedFedBits tf_seatOf tf_one tf_other tf_kind tf_years tf_sawn tf_pairs tf_gone bd_unsurePair bd_unsureYears bd_triedPair bd_seats bd_slack bd_sawInches bd_quarrelChance bd_people bd_forkBits bd_unsure bd_tried bd_triedFedBits bf_seatOf bf_one bf_other bf_kind bf_years bf_sawn bf_pairs bf_gone nw_seatOf nw_one nw_other nw_kind nw_years nw_sawn nw_pairs nw_gone sc_seatOf sc_handle sc_both sc_slopOf sc_forkBits sc_canBits sc_bestBits sc_bestSlops sl_bits sl_count se_bestRow se_row se_pairAt se_hope se_hopeAt se_slopAt se_farBits se_gain se_worth se_bestWorth se_fresh R0.1 R0.2.1 R0.2.2.1 R0.2.2.2 ch_leastCost ch_leastBits cl_bits cl_count fi_sets fi_count ps_act ps_whom ps_amount ps_next ps_count i0_seatOf i0_one i0_other i0_kind i0_years i0_sawn i0_pairs i0_gone i1_seatOf i1_one i1_other i1_kind i1_years i1_sawn i1_pairs i1_gone i2_seatOf i2_one i2_other i2_kind i2_years i2_sawn i2_pairs i2_gone) := by
  refine xV_of (by decide) (Nat.le_of_ble_eq_true rfl) (fun p e s m args below meth c A C ls hl G => ?_)
  have hx := C.1
  have hb := C.2.1
  have hl : lv_has ls 7 [(0, .ref (ad 0)), (1, .int l1), (2, .int l2), (3, .int l3)] := hl
  unfold f_X_addTwo at hf
  refine lv_iconst (v := 1) hx hb dX10_addTwo_0 (by decide) ?_
  refine lv_iload_n hx hb dX10_addTwo_1 rfl (lv_at hl 1 rfl) ?_
  refine lv_ishl hx hb dX10_addTwo_2 ?_
  refine lv_iconst (v := 1) hx hb dX10_addTwo_3 (by decide) ?_
  refine lv_iload_n hx hb dX10_addTwo_4 rfl (lv_at hl 2 rfl) ?_
  refine lv_ishl hx hb dX10_addTwo_5 ?_
  refine lv_ior hx hb dX10_addTwo_6 ?_
  refine lv_topi (fun x1 ex1 => ?_)
  have hf := lt_go ex1 hf
  refine lv_istore (lv' := [(4, .int x1), (0, .ref (ad 0)), (1, .int l1), (2, .int l2), (3, .int l3)]) hx hb dX10_addTwo_7 hl (by decide) rfl (fun ls hl => ?_)
  refine lv_aload_n hx hb dX10_addTwo_9 rfl (lv_at hl 1 rfl) ?_
  refine x_get C G fX10_26 (wX_at0) rfl dX10_addTwo_10 ?_
  refine lv_iload_n hx hb dX10_addTwo_13 rfl (lv_at hl 2 rfl) ?_
  refine lv_iload_n hx hb dX10_addTwo_14 rfl (lv_at hl 3 rfl) ?_
  obtain ⟨x2, hc, hf⟩ := bd_go hf
  refine xI_V C G (c_Now_find_nw hc) mX4_find kX10_177 (wX_at28) rfl ⟨Nat.le_of_ble_eq_true rfl, Nat.le_of_ble_eq_true rfl⟩ rfl hl.1 rfl (Nat.le_of_ble_eq_true rfl) ⟨Nat.le_refl _, Nat.le_refl _⟩ dX10_addTwo_15 (fun hz H locs G => ?_)
  refine lv_istore (lv' := [(5, .int x2), (4, .int x1), (0, .ref (ad 0)), (1, .int l1), (2, .int l2), (3, .int l3)]) hx hb dX10_addTwo_18 hl (by decide) rfl (fun ls hl => ?_)
  refine lv_iload hx hb dX10_addTwo_20 (lv_at hl 0 rfl) ?_
  refine lv_if_lt (tgt := 53) hx hb dX10_addTwo_22 (by decide) (fun h => ?_) (fun h => ?_)
  · have hf := it_t h hf
    refine lv_aload_n hx hb dX10_addTwo_53 rfl (lv_at hl 2 rfl) ?_
    refine x_get C G fX10_26 (wX_at0) rfl dX10_addTwo_54 ?_
    refine x_get C G fX10_138 (wX_at28) rfl dX10_addTwo_57 ?_
    refine lv_iload_n hx hb dX10_addTwo_60 rfl (lv_at hl 3 rfl) ?_
    have hi := ck_in hf
    have hf := ck_go hf
    refine x_iald C G (wX_at29) hi dX10_addTwo_61 ?_
    refine lv_aload_n hx hb dX10_addTwo_62 rfl (lv_at hl 2 rfl) ?_
    refine x_get C G fX10_26 (wX_at0) rfl dX10_addTwo_63 ?_
    refine x_get C G fX10_138 (wX_at28) rfl dX10_addTwo_66 ?_
    refine lv_iload_n hx hb dX10_addTwo_69 rfl (lv_at hl 4 rfl) ?_
    have hi := ck_in hf
    have hf := ck_go hf
    refine x_iald C G (wX_at29) hi dX10_addTwo_70 ?_
    refine lv_isub hx hb dX10_addTwo_71 ?_
    refine x_abs C mMath_abs kX10_385 hl.1 (Nat.le_of_ble_eq_true rfl) (Nat.le_of_ble_eq_true rfl) ⟨Nat.le_refl _, Nat.le_refl _⟩ dX10_addTwo_72 ?_
    refine lv_topi (fun x3 ex3 => ?_)
    have hf := lt_go ex3 hf
    refine lv_istore (lv' := [(6, .int x3), (5, .int x2), (4, .int x1), (0, .ref (ad 0)), (1, .int l1), (2, .int l2), (3, .int l3)]) hx hb dX10_addTwo_75 hl (by decide) rfl (fun ls hl => ?_)
    refine lv_aload_n hx hb dX10_addTwo_77 rfl (lv_at hl 3 rfl) ?_
    refine x_get C G fX10_49 (wX_at0) rfl dX10_addTwo_78 ?_
    refine lv_iload hx hb dX10_addTwo_81 (lv_at hl 2 rfl) ?_
    refine lv_iconst (v := 0) hx hb dX10_addTwo_83 (by decide) ?_
    refine lv_iload_n hx hb dX10_addTwo_84 rfl (lv_at hl 6 rfl) ?_
    refine lv_iload hx hb dX10_addTwo_85 (lv_at hl 0 rfl) ?_
    refine lv_aload_n hx hb dX10_addTwo_87 rfl (lv_at hl 3 rfl) ?_
    refine x_get C G fX10_22 (wX_at0) rfl dX10_addTwo_88 ?_
    refine x_get C G fX10_370.g (wX_at17) rfl dX10_addTwo_91 ?_
    obtain ⟨x4, hc, hf⟩ := bd_go hf
    refine xI_S C G (c_X_reaches_any hc) mX10_reaches kX10_394 ⟨Nat.le_of_ble_eq_true rfl, Nat.le_of_ble_eq_true rfl⟩ rfl hl.1 rfl (Nat.le_of_ble_eq_true rfl) ⟨Nat.le_refl _, Nat.le_refl _⟩ dX10_addTwo_94 (fun hz4 H locs G => ?_)
    obtain ⟨x5, hrx5, hf⟩ := bd_go hf
    have Jx5 : ∀ (H : Heap) (locs : List Loc) (ls : Array Slot), xG s E A (wX E ad x_imageCount x_lastTrouble x_lastFault x_lastPlace pa_names pa_faultNumber pa_faultPlace rd_tape rd_length rd_end rd_next rd_sort rd_start rd_value rd_word to_unsurePair to_unsureYears to_triedPair to_seats to_slack to_sawInches to_quarrelChance to_people to_forkBits to_unsure to_tried to_triedFedBits tf_seatOf tf_one tf_other tf_kind tf_years tf_sawn tf_pairs tf_gone bd_unsurePair bd_unsureYears bd_triedPair bd_seats bd_slack bd_sawInches bd_quarrelChance bd_people bd_forkBits bd_unsure bd_tried bd_triedFedBits bf_seatOf bf_one bf_other bf_kind bf_years bf_sawn bf_pairs bf_gone nw_seatOf nw_one nw_other nw_kind nw_years nw_sawn nw_pairs nw_gone sc_seatOf sc_handle sc_both sc_slopOf sc_forkBits sc_canBits sc_bestBits sc_bestSlops sl_bits sl_count se_bestRow se_row se_pairAt se_hope se_hopeAt se_slopAt se_farBits se_gain se_worth se_bestWorth se_fresh ch_both ch_cost ch_bit ch_items ch_leastCost ch_leastBits cl_bits cl_count fi_sets fi_count ps_act ps_whom ps_amount ps_next ps_count i0_seatOf i0_one i0_other i0_kind i0_years i0_sawn i0_pairs i0_gone i1_seatOf i1_one i1_other i1_kind i1_years i1_sawn i1_pairs i1_gone i2_seatOf i2_one i2_other i2_kind i2_years i2_sawn i2_pairs i2_gone) H locs → lv_has ls 7 [(0, .ref (ad 0))] → W p l e (xR 3 66) s m args below meth c H locs 0 0 (MQ below (xqV E A (wX E ad x_imageCount x_lastTrouble x_lastFault x_lastPlace pa_names pa_faultNumber pa_faultPlace rd_tape rd_length rd_end rd_next rd_sort rd_start rd_value rd_word to_unsurePair to_unsureYears to_triedPair to_seats to_slack to_sawInches to_quarrelChance to_people to_forkBits to_unsure to_tried to_triedFedBits tf_seatOf tf_one tf_other tf_kind tf_years tf_sawn tf_pairs tf_gone bd_unsurePair bd_unsureYears bd_triedPair bd_seats bd_slack bd_sawInches bd_quarrelChance bd_people bd_forkBits bd_unsure bd_tried bd_triedFedBits bf_seatOf bf_one bf_other bf_kind bf_years bf_sawn bf_pairs bf_gone nw_seatOf nw_one nw_other nw_kind nw_years nw_sawn nw_pairs nw_gone sc_seatOf sc_handle sc_both sc_slopOf sc_forkBits sc_canBits sc_bestBits sc_bestSlops sl_bits sl_count se_bestRow se_row se_pairAt se_hope se_hopeAt se_slopAt se_farBits se_gain se_worth se_bestWorth se_fresh R0.1 R0.2.1 R0.2.2.1 R0.2.2.2 ch_leastCost ch_leastBits cl_bits cl_count fi_sets fi_count ps_act ps_whom ps_amount ps_next ps_count i0_seatOf i0_one i0_other i0_kind i0_years i0_sawn i0_pairs i0_gone i1_seatOf i1_one i1_other i1_kind i1_years i1_sawn i1_pairs i1_gone i2_seatOf i2_one i2_other i2_kind i2_years i2_sawn i2_pairs i2_gone)) args s 0 0 A) (F0 m 105 ls [.int x5, .int x1, .ref (ad 52)]) := by
      intro H locs ls G hl
      refine lv_iconst (v := 1) hx hb dX10_addTwo_105 (by decide) ?_
      refine lv_aload_n hx hb dX10_addTwo_106 rfl (lv_at hl 0 rfl) ?_
      refine x_get C G fX10_49 (wX_at0) rfl dX10_addTwo_107 ?_
      refine x_get C G fX10_401.g (wX_at52) rfl dX10_addTwo_110 ?_
      refine lv_ishl hx hb dX10_addTwo_113 ?_
      obtain ⟨x6, hc, hf⟩ := bd_go hf
      refine xV_V C G (c_Choice_add_ch hc) mX1_add kX10_410 (wX_at52) rfl ⟨Nat.le_of_ble_eq_true rfl, Nat.le_of_ble_eq_true rfl⟩ rfl hl.1 rfl (Nat.le_of_ble_eq_true rfl) ⟨Nat.le_refl _, Nat.le_refl _⟩ dX10_addTwo_114 (fun H locs G => ?_)
      obtain rfl := Option.some.inj hf
      exact xV_ret C G dX10_addTwo_117
    have hf := hrx5
    refine lv_if_eq (tgt := 104) hx hb dX10_addTwo_97 (by decide) (fun h => ?_) (fun h => ?_)
    · have hf := it_t h hf
      refine lv_iconst (v := -1) hx hb dX10_addTwo_104 (by decide) ?_
      obtain rfl := Option.some.inj hf
      exact Jx5 _ _ _ G (lv_sub hl [3] rfl)
    · have hf := it_f h hf
      refine lv_iconst (v := 1) hx hb dX10_addTwo_100 (by decide) ?_
      refine lv_goto (tgt := 105) hx hb dX10_addTwo_101 (by decide) ?_
      obtain rfl := Option.some.inj hf
      exact Jx5 _ _ _ G (lv_sub hl [3] rfl)
  · have hf := it_f h hf
    refine lv_aload_n hx hb dX10_addTwo_25 rfl (lv_at hl 2 rfl) ?_
    refine x_get C G fX10_49 (wX_at0) rfl dX10_addTwo_26 ?_
    refine lv_iload hx hb dX10_addTwo_29 (lv_at hl 1 rfl) ?_
    refine lv_aload_n hx hb dX10_addTwo_31 rfl (lv_at hl 2 rfl) ?_
    refine lv_iload hx hb dX10_addTwo_32 (lv_at hl 0 rfl) ?_
    refine lv_iload_n hx hb dX10_addTwo_34 rfl (lv_at hl 5 rfl) ?_
    obtain ⟨x7, hc, hf⟩ := bd_go hf
    refine xI_V C G (c_X_canFeedBehind_x hc) mX10_canFeedBehind kX10_222 (wX_at0) rfl ⟨Nat.le_of_ble_eq_true rfl, Nat.le_of_ble_eq_true rfl⟩ rfl hl.1 rfl (Nat.le_of_ble_eq_true rfl) ⟨Nat.le_refl _, Nat.le_refl _⟩ dX10_addTwo_35 (fun hz7 H locs G => ?_)
    obtain ⟨x8, hrx8, hf⟩ := bd_go hf
    have Jx8 : ∀ (H : Heap) (locs : List Loc) (ls : Array Slot), xG s E A (wX E ad x_imageCount x_lastTrouble x_lastFault x_lastPlace pa_names pa_faultNumber pa_faultPlace rd_tape rd_length rd_end rd_next rd_sort rd_start rd_value rd_word to_unsurePair to_unsureYears to_triedPair to_seats to_slack to_sawInches to_quarrelChance to_people to_forkBits to_unsure to_tried to_triedFedBits tf_seatOf tf_one tf_other tf_kind tf_years tf_sawn tf_pairs tf_gone bd_unsurePair bd_unsureYears bd_triedPair bd_seats bd_slack bd_sawInches bd_quarrelChance bd_people bd_forkBits bd_unsure bd_tried bd_triedFedBits bf_seatOf bf_one bf_other bf_kind bf_years bf_sawn bf_pairs bf_gone nw_seatOf nw_one nw_other nw_kind nw_years nw_sawn nw_pairs nw_gone sc_seatOf sc_handle sc_both sc_slopOf sc_forkBits sc_canBits sc_bestBits sc_bestSlops sl_bits sl_count se_bestRow se_row se_pairAt se_hope se_hopeAt se_slopAt se_farBits se_gain se_worth se_bestWorth se_fresh ch_both ch_cost ch_bit ch_items ch_leastCost ch_leastBits cl_bits cl_count fi_sets fi_count ps_act ps_whom ps_amount ps_next ps_count i0_seatOf i0_one i0_other i0_kind i0_years i0_sawn i0_pairs i0_gone i1_seatOf i1_one i1_other i1_kind i1_years i1_sawn i1_pairs i1_gone i2_seatOf i2_one i2_other i2_kind i2_years i2_sawn i2_pairs i2_gone) H locs → lv_has ls 7 [] → W p l e (xR 3 66) s m args below meth c H locs 0 0 (MQ below (xqV E A (wX E ad x_imageCount x_lastTrouble x_lastFault x_lastPlace pa_names pa_faultNumber pa_faultPlace rd_tape rd_length rd_end rd_next rd_sort rd_start rd_value rd_word to_unsurePair to_unsureYears to_triedPair to_seats to_slack to_sawInches to_quarrelChance to_people to_forkBits to_unsure to_tried to_triedFedBits tf_seatOf tf_one tf_other tf_kind tf_years tf_sawn tf_pairs tf_gone bd_unsurePair bd_unsureYears bd_triedPair bd_seats bd_slack bd_sawInches bd_quarrelChance bd_people bd_forkBits bd_unsure bd_tried bd_triedFedBits bf_seatOf bf_one bf_other bf_kind bf_years bf_sawn bf_pairs bf_gone nw_seatOf nw_one nw_other nw_kind nw_years nw_sawn nw_pairs nw_gone sc_seatOf sc_handle sc_both sc_slopOf sc_forkBits sc_canBits sc_bestBits sc_bestSlops sl_bits sl_count se_bestRow se_row se_pairAt se_hope se_hopeAt se_slopAt se_farBits se_gain se_worth se_bestWorth se_fresh R0.1 R0.2.1 R0.2.2.1 R0.2.2.2 ch_leastCost ch_leastBits cl_bits cl_count fi_sets fi_count ps_act ps_whom ps_amount ps_next ps_count i0_seatOf i0_one i0_other i0_kind i0_years i0_sawn i0_pairs i0_gone i1_seatOf i1_one i1_other i1_kind i1_years i1_sawn i1_pairs i1_gone i2_seatOf i2_one i2_other i2_kind i2_years i2_sawn i2_pairs i2_gone)) args s 0 0 A) (F0 m 46 ls [.int x8, .int x1, .ref (ad 52)]) := by
      intro H locs ls G hl
      refine lv_iconst (v := 0) hx hb dX10_addTwo_46 (by decide) ?_
      obtain ⟨x9, hc, hf⟩ := bd_go hf
      refine xV_V C G (c_Choice_add_ch hc) mX1_add kX10_410 (wX_at52) rfl ⟨Nat.le_of_ble_eq_true rfl, Nat.le_of_ble_eq_true rfl⟩ rfl hl.1 rfl (Nat.le_of_ble_eq_true rfl) ⟨Nat.le_refl _, Nat.le_refl _⟩ dX10_addTwo_47 (fun H locs G => ?_)
      refine lv_goto (tgt := 117) hx hb dX10_addTwo_50 (by decide) ?_
      obtain rfl := Option.some.inj hf
      exact xV_ret C G dX10_addTwo_117
    have hf := hrx8
    refine lv_if_eq (tgt := 45) hx hb dX10_addTwo_38 (by decide) (fun h => ?_) (fun h => ?_)
    · have hf := it_t h hf
      refine lv_iconst (v := -1) hx hb dX10_addTwo_45 (by decide) ?_
      obtain rfl := Option.some.inj hf
      exact Jx8 _ _ _ G (lv_sub hl [] rfl)
    · have hf := it_f h hf
      refine lv_iconst (v := 0) hx hb dX10_addTwo_41 (by decide) ?_
      refine lv_goto (tgt := 46) hx hb dX10_addTwo_42 (by decide) ?_
      obtain rfl := Option.some.inj hf
      exact Jx8 _ _ _ G (lv_sub hl [] rfl)
set_option maxHeartbeats 4000000 in
set_option maxRecDepth 100000 in
theorem w_X_chooseMeet_x_L25 {p : Program} {l : Launch} {e : Env} {s : State} {m : MethodId} {args : Array Value} {below : List Frame} {meth : Method} {c : Code} {A : Nat → Prop} {E : xE} {Q : State → Prop} {ad : Nat → Nat} {x_imageCount x_lastTrouble x_lastFault x_lastPlace pa_faultNumber pa_faultPlace rd_length rd_end rd_next rd_sort rd_start rd_value to_seats to_slack to_sawInches to_quarrelChance to_people to_forkBits to_unsure to_tried to_triedFedBits tf_pairs tf_gone bd_seats bd_slack bd_sawInches bd_quarrelChance bd_people bd_forkBits bd_unsure bd_tried bd_triedFedBits bf_pairs bf_gone nw_pairs nw_gone sc_forkBits sc_canBits sc_bestBits sc_bestSlops sl_count se_bestWorth se_fresh ch_leastCost ch_leastBits cl_count fi_count ps_next ps_count i0_pairs i0_gone i1_pairs i1_gone i2_pairs i2_gone : Int32} {pa_names : Nat → Int64} {rd_tape to_unsurePair to_unsureYears to_triedPair tf_seatOf tf_one tf_other tf_kind tf_years tf_sawn bd_unsurePair bd_unsureYears bd_triedPair bf_seatOf bf_one bf_other bf_kind bf_years bf_sawn nw_seatOf nw_one nw_other nw_kind nw_years nw_sawn sc_seatOf sc_handle sc_both sc_slopOf sl_bits se_bestRow se_row se_pairAt se_hope se_hopeAt se_slopAt se_farBits se_gain se_worth cl_bits fi_sets ps_act ps_whom ps_amount i0_seatOf i0_one i0_other i0_kind i0_years i0_sawn i1_seatOf i1_one i1_other i1_kind i1_years i1_sawn i2_seatOf i2_one i2_other i2_kind i2_years i2_sawn : Nat → Int32} {rd_word : Int64} {l1 : Int32} {l2 : Int32} {o : (Nat → Int32) × (Nat → Int32) × (Nat → Int32) × Int32} (C : xC p s m args meth c cX10_chooseMeet 4 RX10 E A none) (J : ∀ (H : Heap) (locs : List Loc) (ls : Array Slot), xG s E A (wX E ad x_imageCount x_lastTrouble x_lastFault x_lastPlace pa_names pa_faultNumber pa_faultPlace rd_tape rd_length rd_end rd_next rd_sort rd_start rd_value rd_word to_unsurePair to_unsureYears to_triedPair to_seats to_slack to_sawInches to_quarrelChance to_people to_forkBits to_unsure to_tried to_triedFedBits tf_seatOf tf_one tf_other tf_kind tf_years tf_sawn tf_pairs tf_gone bd_unsurePair bd_unsureYears bd_triedPair bd_seats bd_slack bd_sawInches bd_quarrelChance bd_people bd_forkBits bd_unsure bd_tried bd_triedFedBits bf_seatOf bf_one bf_other bf_kind bf_years bf_sawn bf_pairs bf_gone nw_seatOf nw_one nw_other nw_kind nw_years nw_sawn nw_pairs nw_gone sc_seatOf sc_handle sc_both sc_slopOf sc_forkBits sc_canBits sc_bestBits sc_bestSlops sl_bits sl_count se_bestRow se_row se_pairAt se_hope se_hopeAt se_slopAt se_farBits se_gain se_worth se_bestWorth se_fresh o.1 o.2.1 o.2.2.1 o.2.2.2 ch_leastCost ch_leastBits cl_bits cl_count fi_sets fi_count ps_act ps_whom ps_amount ps_next ps_count i0_seatOf i0_one i0_other i0_kind i0_years i0_sawn i0_pairs i0_gone i1_seatOf i1_one i1_other i1_kind i1_years i1_sawn i1_pairs i1_gone i2_seatOf i2_one i2_other i2_kind i2_years i2_sawn i2_pairs i2_gone) H locs → lv_has ls 4 [(0, .ref (ad 0)), (1, .int l1), (2, .int l2)] → W p l e (xR 4 92) s m args below meth c H locs 0 0 Q (F0 m 49 ls [])) :
    ∀ (n : Nat) (l3 : Int32) (ch_both : Nat → Int32) (ch_cost : Nat → Int32) (ch_bit : Nat → Int32) (ch_items : Int32) (H : Heap) (locs : List Loc) (ls : Array Slot), xG s E A (wX E ad x_imageCount x_lastTrouble x_lastFault x_lastPlace pa_names pa_faultNumber pa_faultPlace rd_tape rd_length rd_end rd_next rd_sort rd_start rd_value rd_word to_unsurePair to_unsureYears to_triedPair to_seats to_slack to_sawInches to_quarrelChance to_people to_forkBits to_unsure to_tried to_triedFedBits tf_seatOf tf_one tf_other tf_kind tf_years tf_sawn tf_pairs tf_gone bd_unsurePair bd_unsureYears bd_triedPair bd_seats bd_slack bd_sawInches bd_quarrelChance bd_people bd_forkBits bd_unsure bd_tried bd_triedFedBits bf_seatOf bf_one bf_other bf_kind bf_years bf_sawn bf_pairs bf_gone nw_seatOf nw_one nw_other nw_kind nw_years nw_sawn nw_pairs nw_gone sc_seatOf sc_handle sc_both sc_slopOf sc_forkBits sc_canBits sc_bestBits sc_bestSlops sl_bits sl_count se_bestRow se_row se_pairAt se_hope se_hopeAt se_slopAt se_farBits se_gain se_worth se_bestWorth se_fresh ch_both ch_cost ch_bit ch_items ch_leastCost ch_leastBits cl_bits cl_count fi_sets fi_count ps_act ps_whom ps_amount ps_next ps_count i0_seatOf i0_one i0_other i0_kind i0_years i0_sawn i0_pairs i0_gone i1_seatOf i1_one i1_other i1_kind i1_years i1_sawn i1_pairs i1_gone i2_seatOf i2_one i2_other i2_kind i2_years i2_sawn i2_pairs i2_gone) H locs → lv_has ls 4 [(0, .ref (ad 0)), (1, .int l1), (2, .int l2), (3, .int l3)] → f_X_chooseMeet_L25 l1 l2 bd_slack bd_people nw_seatOf nw_one nw_other nw_kind nw_years nw_sawn nw_pairs n l3 ch_both ch_cost ch_bit ch_items = some o → W p l e (xR 4 92) s m args below meth c H locs 0 0 Q (F0 m 25 ls []) := by
  have hx := C.1
  have hb := C.2.1
  intro n
  induction n with
  | zero =>
    intro l3 ch_both ch_cost ch_bit ch_items H locs ls G hl hf
    exact nomatch (show (none : Option ((Nat → Int32) × (Nat → Int32) × (Nat → Int32) × Int32)) = some o from hf)
  | succ n ih =>
    intro l3 ch_both ch_cost ch_bit ch_items H locs ls G hl hf
    rw [f_X_chooseMeet_L25] at hf
    refine lv_iload_n hx hb dX10_chooseMeet_25 rfl (lv_at hl 3 rfl) ?_
    refine lv_aload_n hx hb dX10_chooseMeet_26 rfl (lv_at hl 0 rfl) ?_
    refine x_get C G fX10_22 (wX_at0) rfl dX10_chooseMeet_27 ?_
    refine x_get C G fX10_132.g (wX_at17) rfl dX10_chooseMeet_30 ?_
    refine lv_icmp_ge (tgt := 49) hx hb dX10_chooseMeet_33 (by decide) (fun h => ?_) (fun h => ?_)
    · have hf := it_t h hf
      obtain rfl := Option.some.inj hf
      exact J _ _ _ G (lv_sub hl [0, 1, 2] rfl)
    · have hf := it_f h hf
      refine lv_aload_n hx hb dX10_chooseMeet_36 rfl (lv_at hl 0 rfl) ?_
      refine lv_iload_n hx hb dX10_chooseMeet_37 rfl (lv_at hl 2 rfl) ?_
      refine lv_iload_n hx hb dX10_chooseMeet_38 rfl (lv_at hl 3 rfl) ?_
      refine lv_iload_n hx hb dX10_chooseMeet_39 rfl (lv_at hl 1 rfl) ?_
      obtain ⟨x2, hc, hf⟩ := bd_go hf
      refine xV_V C G (c_X_addTwo_x hc) mX10_addTwo kX10_416 (wX_at0) rfl ⟨Nat.le_of_ble_eq_true rfl, Nat.le_of_ble_eq_true rfl⟩ rfl hl.1 rfl (Nat.le_of_ble_eq_true rfl) ⟨Nat.le_refl _, Nat.le_refl _⟩ dX10_chooseMeet_40 (fun H locs G => ?_)
      obtain ⟨x3, ex3⟩ : ∃ z : Int32, z = l3 + (1 : Int32) := ⟨_, rfl⟩
      have hf := lt_go ex3 hf
      refine lv_iinc (v := x3) (lv' := [(3, .int x3), (0, .ref (ad 0)), (1, .int l1), (2, .int l2)]) hx hb dX10_chooseMeet_43 hl (k := 3) rfl (by rw [ex3]; rfl) (by decide) rfl (fun ls hl => ?_)
      refine lv_goto (tgt := 25) hx hb dX10_chooseMeet_46 (by decide) ?_
      exact ih x3 x2.1 x2.2.1 x2.2.2.1 x2.2.2.2 _ _ _ G (lv_sub hl [1, 2, 3, 0] rfl) hf
set_option maxHeartbeats 4000000 in
set_option maxRecDepth 100000 in
theorem w_X_chooseMeet_x_L10 {p : Program} {l : Launch} {e : Env} {s : State} {m : MethodId} {args : Array Value} {below : List Frame} {meth : Method} {c : Code} {A : Nat → Prop} {E : xE} {Q : State → Prop} {ad : Nat → Nat} {x_imageCount x_lastTrouble x_lastFault x_lastPlace pa_faultNumber pa_faultPlace rd_length rd_end rd_next rd_sort rd_start rd_value to_seats to_slack to_sawInches to_quarrelChance to_people to_forkBits to_unsure to_tried to_triedFedBits tf_pairs tf_gone bd_seats bd_slack bd_sawInches bd_quarrelChance bd_people bd_forkBits bd_unsure bd_tried bd_triedFedBits bf_pairs bf_gone nw_pairs nw_gone sc_forkBits sc_canBits sc_bestBits sc_bestSlops sl_count se_bestWorth se_fresh ch_leastCost ch_leastBits cl_count fi_count ps_next ps_count i0_pairs i0_gone i1_pairs i1_gone i2_pairs i2_gone : Int32} {pa_names : Nat → Int64} {rd_tape to_unsurePair to_unsureYears to_triedPair tf_seatOf tf_one tf_other tf_kind tf_years tf_sawn bd_unsurePair bd_unsureYears bd_triedPair bf_seatOf bf_one bf_other bf_kind bf_years bf_sawn nw_seatOf nw_one nw_other nw_kind nw_years nw_sawn sc_seatOf sc_handle sc_both sc_slopOf sl_bits se_bestRow se_row se_pairAt se_hope se_hopeAt se_slopAt se_farBits se_gain se_worth cl_bits fi_sets ps_act ps_whom ps_amount i0_seatOf i0_one i0_other i0_kind i0_years i0_sawn i1_seatOf i1_one i1_other i1_kind i1_years i1_sawn i2_seatOf i2_one i2_other i2_kind i2_years i2_sawn : Nat → Int32} {rd_word : Int64} {l1 : Int32} {o : (Nat → Int32) × (Nat → Int32) × (Nat → Int32) × Int32} (C : xC p s m args meth c cX10_chooseMeet 4 RX10 E A none) (J : ∀ (H : Heap) (locs : List Loc) (ls : Array Slot), xG s E A (wX E ad x_imageCount x_lastTrouble x_lastFault x_lastPlace pa_names pa_faultNumber pa_faultPlace rd_tape rd_length rd_end rd_next rd_sort rd_start rd_value rd_word to_unsurePair to_unsureYears to_triedPair to_seats to_slack to_sawInches to_quarrelChance to_people to_forkBits to_unsure to_tried to_triedFedBits tf_seatOf tf_one tf_other tf_kind tf_years tf_sawn tf_pairs tf_gone bd_unsurePair bd_unsureYears bd_triedPair bd_seats bd_slack bd_sawInches bd_quarrelChance bd_people bd_forkBits bd_unsure bd_tried bd_triedFedBits bf_seatOf bf_one bf_other bf_kind bf_years bf_sawn bf_pairs bf_gone nw_seatOf nw_one nw_other nw_kind nw_years nw_sawn nw_pairs nw_gone sc_seatOf sc_handle sc_both sc_slopOf sc_forkBits sc_canBits sc_bestBits sc_bestSlops sl_bits sl_count se_bestRow se_row se_pairAt se_hope se_hopeAt se_slopAt se_farBits se_gain se_worth se_bestWorth se_fresh o.1 o.2.1 o.2.2.1 o.2.2.2 ch_leastCost ch_leastBits cl_bits cl_count fi_sets fi_count ps_act ps_whom ps_amount ps_next ps_count i0_seatOf i0_one i0_other i0_kind i0_years i0_sawn i0_pairs i0_gone i1_seatOf i1_one i1_other i1_kind i1_years i1_sawn i1_pairs i1_gone i2_seatOf i2_one i2_other i2_kind i2_years i2_sawn i2_pairs i2_gone) H locs → lv_has ls 4 [(0, .ref (ad 0))] → W p l e (xR 4 92) s m args below meth c H locs 0 0 Q (F0 m 55 ls [])) :
    ∀ (n : Nat) (l2 : Int32) (ch_both : Nat → Int32) (ch_cost : Nat → Int32) (ch_bit : Nat → Int32) (ch_items : Int32) (H : Heap) (locs : List Loc) (ls : Array Slot), xG s E A (wX E ad x_imageCount x_lastTrouble x_lastFault x_lastPlace pa_names pa_faultNumber pa_faultPlace rd_tape rd_length rd_end rd_next rd_sort rd_start rd_value rd_word to_unsurePair to_unsureYears to_triedPair to_seats to_slack to_sawInches to_quarrelChance to_people to_forkBits to_unsure to_tried to_triedFedBits tf_seatOf tf_one tf_other tf_kind tf_years tf_sawn tf_pairs tf_gone bd_unsurePair bd_unsureYears bd_triedPair bd_seats bd_slack bd_sawInches bd_quarrelChance bd_people bd_forkBits bd_unsure bd_tried bd_triedFedBits bf_seatOf bf_one bf_other bf_kind bf_years bf_sawn bf_pairs bf_gone nw_seatOf nw_one nw_other nw_kind nw_years nw_sawn nw_pairs nw_gone sc_seatOf sc_handle sc_both sc_slopOf sc_forkBits sc_canBits sc_bestBits sc_bestSlops sl_bits sl_count se_bestRow se_row se_pairAt se_hope se_hopeAt se_slopAt se_farBits se_gain se_worth se_bestWorth se_fresh ch_both ch_cost ch_bit ch_items ch_leastCost ch_leastBits cl_bits cl_count fi_sets fi_count ps_act ps_whom ps_amount ps_next ps_count i0_seatOf i0_one i0_other i0_kind i0_years i0_sawn i0_pairs i0_gone i1_seatOf i1_one i1_other i1_kind i1_years i1_sawn i1_pairs i1_gone i2_seatOf i2_one i2_other i2_kind i2_years i2_sawn i2_pairs i2_gone) H locs → lv_has ls 4 [(0, .ref (ad 0)), (1, .int l1), (2, .int l2)] → f_X_chooseMeet_L10 l1 bd_slack bd_people nw_seatOf nw_one nw_other nw_kind nw_years nw_sawn nw_pairs n l2 ch_both ch_cost ch_bit ch_items = some o → W p l e (xR 4 92) s m args below meth c H locs 0 0 Q (F0 m 10 ls []) := by
  have hx := C.1
  have hb := C.2.1
  intro n
  induction n with
  | zero =>
    intro l2 ch_both ch_cost ch_bit ch_items H locs ls G hl hf
    exact nomatch (show (none : Option ((Nat → Int32) × (Nat → Int32) × (Nat → Int32) × Int32)) = some o from hf)
  | succ n ih =>
    intro l2 ch_both ch_cost ch_bit ch_items H locs ls G hl hf
    rw [f_X_chooseMeet_L10] at hf
    refine lv_iload_n hx hb dX10_chooseMeet_10 rfl (lv_at hl 2 rfl) ?_
    refine lv_aload_n hx hb dX10_chooseMeet_11 rfl (lv_at hl 0 rfl) ?_
    refine x_get C G fX10_22 (wX_at0) rfl dX10_chooseMeet_12 ?_
    refine x_get C G fX10_132.g (wX_at17) rfl dX10_chooseMeet_15 ?_
    refine lv_icmp_ge (tgt := 55) hx hb dX10_chooseMeet_18 (by decide) (fun h => ?_) (fun h => ?_)
    · have hf := it_t h hf
      obtain rfl := Option.some.inj hf
      exact J _ _ _ G (lv_sub hl [0] rfl)
    · have hf := it_f h hf
      refine lv_iload_n hx hb dX10_chooseMeet_21 rfl (lv_at hl 2 rfl) ?_
      refine lv_iconst (v := 1) hx hb dX10_chooseMeet_22 (by decide) ?_
      refine lv_iadd hx hb dX10_chooseMeet_23 ?_
      refine lv_topi (fun x1 ex1 => ?_)
      have hf := lt_go ex1 hf
      refine lv_istore_n (lv' := [(3, .int x1), (0, .ref (ad 0)), (1, .int l1), (2, .int l2)]) hx hb dX10_chooseMeet_24 rfl hl (by decide) rfl (fun ls hl => ?_)
      obtain ⟨x4, hr, hf⟩ := bd_go hf
      have Jx4 : ∀ (H : Heap) (locs : List Loc) (ls : Array Slot), xG s E A (wX E ad x_imageCount x_lastTrouble x_lastFault x_lastPlace pa_names pa_faultNumber pa_faultPlace rd_tape rd_length rd_end rd_next rd_sort rd_start rd_value rd_word to_unsurePair to_unsureYears to_triedPair to_seats to_slack to_sawInches to_quarrelChance to_people to_forkBits to_unsure to_tried to_triedFedBits tf_seatOf tf_one tf_other tf_kind tf_years tf_sawn tf_pairs tf_gone bd_unsurePair bd_unsureYears bd_triedPair bd_seats bd_slack bd_sawInches bd_quarrelChance bd_people bd_forkBits bd_unsure bd_tried bd_triedFedBits bf_seatOf bf_one bf_other bf_kind bf_years bf_sawn bf_pairs bf_gone nw_seatOf nw_one nw_other nw_kind nw_years nw_sawn nw_pairs nw_gone sc_seatOf sc_handle sc_both sc_slopOf sc_forkBits sc_canBits sc_bestBits sc_bestSlops sl_bits sl_count se_bestRow se_row se_pairAt se_hope se_hopeAt se_slopAt se_farBits se_gain se_worth se_bestWorth se_fresh x4.1 x4.2.1 x4.2.2.1 x4.2.2.2 ch_leastCost ch_leastBits cl_bits cl_count fi_sets fi_count ps_act ps_whom ps_amount ps_next ps_count i0_seatOf i0_one i0_other i0_kind i0_years i0_sawn i0_pairs i0_gone i1_seatOf i1_one i1_other i1_kind i1_years i1_sawn i1_pairs i1_gone i2_seatOf i2_one i2_other i2_kind i2_years i2_sawn i2_pairs i2_gone) H locs → lv_has ls 4 [(0, .ref (ad 0)), (1, .int l1), (2, .int l2)] → W p l e (xR 4 92) s m args below meth c H locs 0 0 Q (F0 m 49 ls []) := by
        intro H locs ls G hl
        obtain ⟨x5, ex5⟩ : ∃ z : Int32, z = l2 + (1 : Int32) := ⟨_, rfl⟩
        have hf := lt_go ex5 hf
        refine lv_iinc (v := x5) (lv' := [(2, .int x5), (0, .ref (ad 0)), (1, .int l1)]) hx hb dX10_chooseMeet_49 hl (k := 2) rfl (by rw [ex5]; rfl) (by decide) rfl (fun ls hl => ?_)
        refine lv_goto (tgt := 10) hx hb dX10_chooseMeet_52 (by decide) ?_
        exact ih x5 x4.1 x4.2.1 x4.2.2.1 x4.2.2.2 _ _ _ G (lv_sub hl [1, 2, 0] rfl) hf
      exact w_X_chooseMeet_x_L25 C Jx4 fu _ _ _ _ _ _ _ _ G (lv_sub hl [1, 2, 3, 0] rfl) hr
set_option maxHeartbeats 4000000 in
set_option maxRecDepth 100000 in
theorem c_X_chooseMeet_x {l : Launch} {E : xE} {ad : Nat → Nat} {x_imageCount x_lastTrouble x_lastFault x_lastPlace pa_faultNumber pa_faultPlace rd_length rd_end rd_next rd_sort rd_start rd_value to_seats to_slack to_sawInches to_quarrelChance to_people to_forkBits to_unsure to_tried to_triedFedBits tf_pairs tf_gone bd_seats bd_slack bd_sawInches bd_quarrelChance bd_people bd_forkBits bd_unsure bd_tried bd_triedFedBits bf_pairs bf_gone nw_pairs nw_gone sc_forkBits sc_canBits sc_bestBits sc_bestSlops sl_count se_bestWorth se_fresh ch_items ch_leastCost ch_leastBits cl_count fi_count ps_next ps_count i0_pairs i0_gone i1_pairs i1_gone i2_pairs i2_gone : Int32} {pa_names : Nat → Int64} {rd_tape to_unsurePair to_unsureYears to_triedPair tf_seatOf tf_one tf_other tf_kind tf_years tf_sawn bd_unsurePair bd_unsureYears bd_triedPair bf_seatOf bf_one bf_other bf_kind bf_years bf_sawn nw_seatOf nw_one nw_other nw_kind nw_years nw_sawn sc_seatOf sc_handle sc_both sc_slopOf sl_bits se_bestRow se_row se_pairAt se_hope se_hopeAt se_slopAt se_farBits se_gain se_worth ch_both ch_cost ch_bit cl_bits fi_sets ps_act ps_whom ps_amount i0_seatOf i0_one i0_other i0_kind i0_years i0_sawn i1_seatOf i1_one i1_other i1_kind i1_years i1_sawn i2_seatOf i2_one i2_other i2_kind i2_years i2_sawn : Nat → Int32} {rd_word : Int64} {l1 : Int32} {R0 : (Nat → Int32) × (Nat → Int32) × (Nat → Int32) × Int32 × Int32 × Int32 × (Nat → Int32) × Int32} (hf : f_X_chooseMeet l1 bd_slack bd_people nw_seatOf nw_one nw_other nw_kind nw_years nw_sawn nw_pairs ch_both ch_cost ch_bit cl_bits = some R0) : xV l E yX10_chooseMeet cX10_chooseMeet 4 none 4 92 [.ref (ad 0), .int l1] (wX E ad x_imageCount x_lastTrouble x_lastFault x_lastPlace pa_names pa_faultNumber pa_faultPlace rd_tape rd_length rd_end rd_next rd_sort rd_start rd_value rd_word to_unsurePair to_unsureYears to_triedPair to_seats to_slack to_sawInches to_quarrelChance to_people to_forkBits to_unsure to_tried to_triedFedBits tf_seatOf tf_one tf_other tf_kind tf_years tf_sawn tf_pairs tf_gone bd_unsurePair bd_unsureYears bd_triedPair bd_seats bd_slack bd_sawInches bd_quarrelChance bd_people bd_forkBits bd_unsure bd_tried bd_triedFedBits bf_seatOf bf_one bf_other bf_kind bf_years bf_sawn bf_pairs bf_gone nw_seatOf nw_one nw_other nw_kind nw_years nw_sawn nw_pairs nw_gone sc_seatOf sc_handle sc_both sc_slopOf sc_forkBits sc_canBits sc_bestBits sc_bestSlops sl_bits sl_count se_bestRow se_row se_pairAt se_hope se_hopeAt se_slopAt se_farBits se_gain se_worth se_bestWorth se_fresh ch_both ch_cost ch_bit ch_items ch_leastCost ch_leastBits cl_bits cl_count fi_sets fi_count ps_act ps_whom ps_amount ps_next ps_count i0_seatOf i0_one i0_other i0_kind i0_years i0_sawn i0_pairs i0_gone i1_seatOf i1_one i1_other i1_kind i1_years i1_sawn i1_pairs i1_gone i2_seatOf i2_one i2_other i2_kind i2_years i2_sawn i2_pairs i2_gone) (wX E ad x_imageCount x_lastTrouble x_lastFault x_lastPlace pa_names pa_faultNumber pa_faultPlace rd_tape rd_length rd_end rd_next rd_sort rd_start rd_value rd_word to_unsurePair to_unsureYears to_triedPair to_seats to_slack to_sawInches to_quarrelChance to_people to_forkBits to_unsure to_tried to_triedFedBits tf_seatOf tf_one tf_other tf_kind tf_years tf_sawn tf_pairs tf_gone bd_unsurePair bd_unsureYears bd_triedPair bd_seats bd_slack bd_sawInches bd_quarrelChance bd_people bd_forkBits bd_unsure bd_tried bd_triedFedBits bf_seatOf bf_one bf_other bf_kind bf_years bf_sawn bf_pairs bf_gone nw_seatOf nw_one nw_other nw_kind nw_years nw_sawn nw_pairs nw_gone sc_seatOf sc_handle sc_both sc_slopOf sc_forkBits sc_canBits sc_bestBits sc_bestSlops sl_bits sl_count se_bestRow se_row se_pairAt se_hope se_hopeAt se_slopAt se_farBits se_gain se_worth se_bestWorth se_fresh R0.1 R0.2.1 R0.2.2.1 R0.2.2.2.1 R0.2.2.2.2.1 R0.2.2.2.2.2.1 R0.2.2.2.2.2.2.1 R0.2.2.2.2.2.2.2 fi_sets fi_count ps_act ps_whom ps_amount ps_next ps_count i0_seatOf i0_one i0_other i0_kind i0_years i0_sawn i0_pairs i0_gone i1_seatOf i1_one i1_other i1_kind i1_years i1_sawn i1_pairs i1_gone i2_seatOf i2_one i2_other i2_kind i2_years i2_sawn i2_pairs i2_gone) := by
  refine xV_of (by decide) (Nat.le_of_ble_eq_true rfl) (fun p e s m args below meth c A C ls hl G => ?_)
  have hx := C.1
  have hb := C.2.1
  have hl : lv_has ls 4 [(0, .ref (ad 0)), (1, .int l1)] := hl
  unfold f_X_chooseMeet at hf
  refine lv_aload_n hx hb dX10_chooseMeet_0 rfl (lv_at hl 0 rfl) ?_
  refine x_get C G fX10_49 (wX_at0) rfl dX10_chooseMeet_1 ?_
  refine lv_iconst (v := 0) hx hb dX10_chooseMeet_4 (by decide) ?_
  refine x_put (ws' := (wX E ad x_imageCount x_lastTrouble x_lastFault x_lastPlace pa_names pa_faultNumber pa_faultPlace rd_tape rd_length rd_end rd_next rd_sort rd_start rd_value rd_word to_unsurePair to_unsureYears to_triedPair to_seats to_slack to_sawInches to_quarrelChance to_people to_forkBits to_unsure to_tried to_triedFedBits tf_seatOf tf_one tf_other tf_kind tf_years tf_sawn tf_pairs tf_gone bd_unsurePair bd_unsureYears bd_triedPair bd_seats bd_slack bd_sawInches bd_quarrelChance bd_people bd_forkBits bd_unsure bd_tried bd_triedFedBits bf_seatOf bf_one bf_other bf_kind bf_years bf_sawn bf_pairs bf_gone nw_seatOf nw_one nw_other nw_kind nw_years nw_sawn nw_pairs nw_gone sc_seatOf sc_handle sc_both sc_slopOf sc_forkBits sc_canBits sc_bestBits sc_bestSlops sl_bits sl_count se_bestRow se_row se_pairAt se_hope se_hopeAt se_slopAt se_farBits se_gain se_worth se_bestWorth se_fresh ch_both ch_cost ch_bit (0 : Int32) ch_leastCost ch_leastBits cl_bits cl_count fi_sets fi_count ps_act ps_whom ps_amount ps_next ps_count i0_seatOf i0_one i0_other i0_kind i0_years i0_sawn i0_pairs i0_gone i1_seatOf i1_one i1_other i1_kind i1_years i1_sawn i1_pairs i1_gone i2_seatOf i2_one i2_other i2_kind i2_years i2_sawn i2_pairs i2_gone)) C G fX10_401 (wX_at52) rfl rfl (Nat.le_of_ble_eq_true rfl) wX_set_ch_items dX10_chooseMeet_5 (fun H locs G => ?_)
  refine lv_iconst (v := 0) hx hb dX10_chooseMeet_8 (by decide) ?_
  refine lv_istore_n (lv' := [(2, .int (0 : Int32)), (0, .ref (ad 0)), (1, .int l1)]) hx hb dX10_chooseMeet_9 rfl hl (by decide) rfl (fun ls hl => ?_)
  obtain ⟨x6, hr, hf⟩ := bd_go hf
  have Jx6 : ∀ (H : Heap) (locs : List Loc) (ls : Array Slot), xG s E A (wX E ad x_imageCount x_lastTrouble x_lastFault x_lastPlace pa_names pa_faultNumber pa_faultPlace rd_tape rd_length rd_end rd_next rd_sort rd_start rd_value rd_word to_unsurePair to_unsureYears to_triedPair to_seats to_slack to_sawInches to_quarrelChance to_people to_forkBits to_unsure to_tried to_triedFedBits tf_seatOf tf_one tf_other tf_kind tf_years tf_sawn tf_pairs tf_gone bd_unsurePair bd_unsureYears bd_triedPair bd_seats bd_slack bd_sawInches bd_quarrelChance bd_people bd_forkBits bd_unsure bd_tried bd_triedFedBits bf_seatOf bf_one bf_other bf_kind bf_years bf_sawn bf_pairs bf_gone nw_seatOf nw_one nw_other nw_kind nw_years nw_sawn nw_pairs nw_gone sc_seatOf sc_handle sc_both sc_slopOf sc_forkBits sc_canBits sc_bestBits sc_bestSlops sl_bits sl_count se_bestRow se_row se_pairAt se_hope se_hopeAt se_slopAt se_farBits se_gain se_worth se_bestWorth se_fresh x6.1 x6.2.1 x6.2.2.1 x6.2.2.2 ch_leastCost ch_leastBits cl_bits cl_count fi_sets fi_count ps_act ps_whom ps_amount ps_next ps_count i0_seatOf i0_one i0_other i0_kind i0_years i0_sawn i0_pairs i0_gone i1_seatOf i1_one i1_other i1_kind i1_years i1_sawn i1_pairs i1_gone i2_seatOf i2_one i2_other i2_kind i2_years i2_sawn i2_pairs i2_gone) H locs → lv_has ls 4 [(0, .ref (ad 0))] → W p l e (xR 4 92) s m args below meth c H locs 0 0 (MQ below (xqV E A (wX E ad x_imageCount x_lastTrouble x_lastFault x_lastPlace pa_names pa_faultNumber pa_faultPlace rd_tape rd_length rd_end rd_next rd_sort rd_start rd_value rd_word to_unsurePair to_unsureYears to_triedPair to_seats to_slack to_sawInches to_quarrelChance to_people to_forkBits to_unsure to_tried to_triedFedBits tf_seatOf tf_one tf_other tf_kind tf_years tf_sawn tf_pairs tf_gone bd_unsurePair bd_unsureYears bd_triedPair bd_seats bd_slack bd_sawInches bd_quarrelChance bd_people bd_forkBits bd_unsure bd_tried bd_triedFedBits bf_seatOf bf_one bf_other bf_kind bf_years bf_sawn bf_pairs bf_gone nw_seatOf nw_one nw_other nw_kind nw_years nw_sawn nw_pairs nw_gone sc_seatOf sc_handle sc_both sc_slopOf sc_forkBits sc_canBits sc_bestBits sc_bestSlops sl_bits sl_count se_bestRow se_row se_pairAt se_hope se_hopeAt se_slopAt se_farBits se_gain se_worth se_bestWorth se_fresh R0.1 R0.2.1 R0.2.2.1 R0.2.2.2.1 R0.2.2.2.2.1 R0.2.2.2.2.2.1 R0.2.2.2.2.2.2.1 R0.2.2.2.2.2.2.2 fi_sets fi_count ps_act ps_whom ps_amount ps_next ps_count i0_seatOf i0_one i0_other i0_kind i0_years i0_sawn i0_pairs i0_gone i1_seatOf i1_one i1_other i1_kind i1_years i1_sawn i1_pairs i1_gone i2_seatOf i2_one i2_other i2_kind i2_years i2_sawn i2_pairs i2_gone)) args s 0 0 A) (F0 m 55 ls []) := by
    intro H locs ls G hl
    refine lv_aload_n hx hb dX10_chooseMeet_55 rfl (lv_at hl 0 rfl) ?_
    refine x_get C G fX10_49 (wX_at0) rfl dX10_chooseMeet_56 ?_
    refine lv_aload_n hx hb dX10_chooseMeet_59 rfl (lv_at hl 0 rfl) ?_
    refine x_get C G fX10_22 (wX_at0) rfl dX10_chooseMeet_60 ?_
    refine x_get C G fX10_132.g (wX_at17) rfl dX10_chooseMeet_63 ?_
    refine lv_iconst (v := 2) hx hb dX10_chooseMeet_66 (by decide) ?_
    refine lv_idiv hx hb dX10_chooseMeet_67 (by decide) ?_
    obtain ⟨x7, hc, hf⟩ := bd_go hf
    refine xV_V C G (c_Choice_decide_ch hc) mX1_decide kX10_413 (wX_at52) rfl ⟨Nat.le_of_ble_eq_true rfl, Nat.le_of_ble_eq_true rfl⟩ rfl hl.1 rfl (Nat.le_of_ble_eq_true rfl) ⟨Nat.le_refl _, Nat.le_refl _⟩ dX10_chooseMeet_68 (fun H locs G => ?_)
    obtain rfl := Option.some.inj hf
    exact xV_ret C G dX10_chooseMeet_71
  exact w_X_chooseMeet_x_L10 C Jx6 fu _ _ _ _ _ _ _ _ G (lv_sub hl [1, 2, 0] rfl) hr
set_option maxHeartbeats 4000000 in
set_option maxRecDepth 100000 in
theorem c_X_meet_x {l : Launch} {E : xE} {ad : Nat → Nat} {x_imageCount x_lastTrouble x_lastFault x_lastPlace pa_faultNumber pa_faultPlace rd_length rd_end rd_next rd_sort rd_start rd_value to_seats to_slack to_sawInches to_quarrelChance to_people to_forkBits to_unsure to_tried to_triedFedBits tf_pairs tf_gone bd_seats bd_slack bd_sawInches bd_quarrelChance bd_people bd_forkBits bd_unsure bd_tried bd_triedFedBits bf_pairs bf_gone nw_pairs nw_gone sc_forkBits sc_canBits sc_bestBits sc_bestSlops sl_count se_bestWorth se_fresh ch_items ch_leastCost ch_leastBits cl_count fi_count ps_next ps_count i0_pairs i0_gone i1_pairs i1_gone i2_pairs i2_gone : Int32} {pa_names : Nat → Int64} {rd_tape to_unsurePair to_unsureYears to_triedPair tf_seatOf tf_one tf_other tf_kind tf_years tf_sawn bd_unsurePair bd_unsureYears bd_triedPair bf_seatOf bf_one bf_other bf_kind bf_years bf_sawn nw_seatOf nw_one nw_other nw_kind nw_years nw_sawn sc_seatOf sc_handle sc_both sc_slopOf sl_bits se_bestRow se_row se_pairAt se_hope se_hopeAt se_slopAt se_farBits se_gain se_worth ch_both ch_cost ch_bit cl_bits fi_sets ps_act ps_whom ps_amount i0_seatOf i0_one i0_other i0_kind i0_years i0_sawn i1_seatOf i1_one i1_other i1_kind i1_years i1_sawn i2_seatOf i2_one i2_other i2_kind i2_years i2_sawn : Nat → Int32} {rd_word : Int64} {l1 : Int32} {R0 : Int32 × Int32 × (Nat → Int32) × (Nat → Int32) × (Nat → Int32) × Int32 × Int32 × Int32 × (Nat → Int32) × Int32} (hf : f_X_meet l1 bd_slack bd_people nw_seatOf nw_one nw_other nw_kind nw_years nw_sawn nw_pairs ch_both ch_cost ch_bit ch_items ch_leastCost ch_leastBits cl_bits cl_count = some R0) : xI l E yX10_meet cX10_meet 2 (some .int) 5 115 [.ref (ad 0), .int l1] (wX E ad x_imageCount x_lastTrouble x_lastFault x_lastPlace pa_names pa_faultNumber pa_faultPlace rd_tape rd_length rd_end rd_next rd_sort rd_start rd_value rd_word to_unsurePair to_unsureYears to_triedPair to_seats to_slack to_sawInches to_quarrelChance to_people to_forkBits to_unsure to_tried to_triedFedBits tf_seatOf tf_one tf_other tf_kind tf_years tf_sawn tf_pairs tf_gone bd_unsurePair bd_unsureYears bd_triedPair bd_seats bd_slack bd_sawInches bd_quarrelChance bd_people bd_forkBits bd_unsure bd_tried bd_triedFedBits bf_seatOf bf_one bf_other bf_kind bf_years bf_sawn bf_pairs bf_gone nw_seatOf nw_one nw_other nw_kind nw_years nw_sawn nw_pairs nw_gone sc_seatOf sc_handle sc_both sc_slopOf sc_forkBits sc_canBits sc_bestBits sc_bestSlops sl_bits sl_count se_bestRow se_row se_pairAt se_hope se_hopeAt se_slopAt se_farBits se_gain se_worth se_bestWorth se_fresh ch_both ch_cost ch_bit ch_items ch_leastCost ch_leastBits cl_bits cl_count fi_sets fi_count ps_act ps_whom ps_amount ps_next ps_count i0_seatOf i0_one i0_other i0_kind i0_years i0_sawn i0_pairs i0_gone i1_seatOf i1_one i1_other i1_kind i1_years i1_sawn i1_pairs i1_gone i2_seatOf i2_one i2_other i2_kind i2_years i2_sawn i2_pairs i2_gone) (wX E ad x_imageCount R0.2.1 x_lastFault x_lastPlace pa_names pa_faultNumber pa_faultPlace rd_tape rd_length rd_end rd_next rd_sort rd_start rd_value rd_word to_unsurePair to_unsureYears to_triedPair to_seats to_slack to_sawInches to_quarrelChance to_people to_forkBits to_unsure to_tried to_triedFedBits tf_seatOf tf_one tf_other tf_kind tf_years tf_sawn tf_pairs tf_gone bd_unsurePair bd_unsureYears bd_triedPair bd_seats bd_slack bd_sawInches bd_quarrelChance bd_people bd_forkBits bd_unsure bd_tried bd_triedFedBits bf_seatOf bf_one bf_other bf_kind bf_years bf_sawn bf_pairs bf_gone nw_seatOf nw_one nw_other nw_kind nw_years nw_sawn nw_pairs nw_gone sc_seatOf sc_handle sc_both sc_slopOf sc_forkBits sc_canBits sc_bestBits sc_bestSlops sl_bits sl_count se_bestRow se_row se_pairAt se_hope se_hopeAt se_slopAt se_farBits se_gain se_worth se_bestWorth se_fresh R0.2.2.1 R0.2.2.2.1 R0.2.2.2.2.1 R0.2.2.2.2.2.1 R0.2.2.2.2.2.2.1 R0.2.2.2.2.2.2.2.1 R0.2.2.2.2.2.2.2.2.1 R0.2.2.2.2.2.2.2.2.2 fi_sets fi_count ps_act ps_whom ps_amount ps_next ps_count i0_seatOf i0_one i0_other i0_kind i0_years i0_sawn i0_pairs i0_gone i1_seatOf i1_one i1_other i1_kind i1_years i1_sawn i1_pairs i1_gone i2_seatOf i2_one i2_other i2_kind i2_years i2_sawn i2_pairs i2_gone) R0.1 := by
  refine xI_of (by decide) (Nat.le_of_ble_eq_true rfl) (fun p e s m args below meth c A C ls hl G => ?_)
  have hx := C.1
  have hb := C.2.1
  have hl : lv_has ls 2 [(0, .ref (ad 0)), (1, .int l1)] := hl
  unfold f_X_meet at hf
  refine lv_aload_n hx hb dX10_meet_0 rfl (lv_at hl 0 rfl) ?_
  obtain ⟨x1, hc, hf⟩ := bd_go hf
  refine xI_V C G (c_X_noTable_x hc) mX10_noTable kX10_187 (wX_at0) rfl ⟨Nat.le_of_ble_eq_true rfl, Nat.le_of_ble_eq_true rfl⟩ rfl hl.1 rfl (Nat.le_of_ble_eq_true rfl) ⟨Nat.le_refl _, Nat.le_refl _⟩ dX10_meet_1 (fun hz1 H locs G => ?_)
  refine lv_if_eq (tgt := 9) hx hb dX10_meet_4 (by decide) (fun h => ?_) (fun h => ?_)
  · have hf := it_t h hf
    refine lv_iload_n hx hb dX10_meet_9 rfl (lv_at hl 1 rfl) ?_
    refine lv_bipush (v := 60) hx hb dX10_meet_10 (by decide) ?_
    obtain ⟨x2, hc, hf⟩ := bd_go hf
    refine xI_S C G (c_X_within_any hc) mX10_within kX10_216 ⟨Nat.le_of_ble_eq_true rfl, Nat.le_of_ble_eq_true rfl⟩ rfl hl.1 rfl (Nat.le_of_ble_eq_true rfl) ⟨Nat.le_refl _, Nat.le_refl _⟩ dX10_meet_12 (fun hz2 H locs G => ?_)
    refine lv_if_ne (tgt := 24) hx hb dX10_meet_15 (by decide) (fun h => ?_) (fun h => ?_)
    · have hf := it_f h hf
      refine lv_aload_n hx hb dX10_meet_24 rfl (lv_at hl 0 rfl) ?_
      refine lv_iload_n hx hb dX10_meet_25 rfl (lv_at hl 1 rfl) ?_
      obtain ⟨x3, hc, hf⟩ := bd_go hf
      refine xV_V C G (c_X_chooseMeet_x hc) mX10_chooseMeet kX10_273 (wX_at0) rfl ⟨Nat.le_of_ble_eq_true rfl, Nat.le_of_ble_eq_true rfl⟩ rfl hl.1 rfl (Nat.le_of_ble_eq_true rfl) ⟨Nat.le_refl _, Nat.le_refl _⟩ dX10_meet_26 (fun H locs G => ?_)
      refine lv_aload_n hx hb dX10_meet_29 rfl (lv_at hl 0 rfl) ?_
      refine x_get C G fX10_49 (wX_at0) rfl dX10_meet_30 ?_
      refine x_get C G fX10_264.g (wX_at52) rfl dX10_meet_33 ?_
      obtain rfl := Option.some.inj hf
      exact xI_ret C G rfl dX10_meet_36
    · have hf := it_t h hf
      refine lv_aload_n hx hb dX10_meet_18 rfl (lv_at hl 0 rfl) ?_
      refine lv_iconst (v := 2) hx hb dX10_meet_19 (by decide) ?_
      obtain ⟨x4, hc, hf⟩ := bd_go hf
      refine xI_V C G (c_X_refused_x hc) mX10_refused kX10_87 (wX_at0) rfl ⟨Nat.le_of_ble_eq_true rfl, Nat.le_of_ble_eq_true rfl⟩ rfl hl.1 rfl (Nat.le_of_ble_eq_true rfl) ⟨Nat.le_refl _, Nat.le_refl _⟩ dX10_meet_20 (fun hz H locs G => ?_)
      obtain rfl := Option.some.inj hf
      exact xI_ret C G rfl dX10_meet_23
  · have hf := it_f h hf
    refine lv_iconst (v := -1) hx hb dX10_meet_7 (by decide) ?_
    obtain rfl := Option.some.inj hf
    exact xI_ret C G rfl dX10_meet_8
set_option maxHeartbeats 4000000 in
set_option maxRecDepth 100000 in
theorem c_X_meetAt_x {l : Launch} {E : xE} {ad : Nat → Nat} {x_imageCount x_lastTrouble x_lastFault x_lastPlace pa_faultNumber pa_faultPlace rd_length rd_end rd_next rd_sort rd_start rd_value to_seats to_slack to_sawInches to_quarrelChance to_people to_forkBits to_unsure to_tried to_triedFedBits tf_pairs tf_gone bd_seats bd_slack bd_sawInches bd_quarrelChance bd_people bd_forkBits bd_unsure bd_tried bd_triedFedBits bf_pairs bf_gone nw_pairs nw_gone sc_forkBits sc_canBits sc_bestBits sc_bestSlops sl_count se_bestWorth se_fresh ch_items ch_leastCost ch_leastBits cl_count fi_count ps_next ps_count i0_pairs i0_gone i1_pairs i1_gone i2_pairs i2_gone : Int32} {pa_names : Nat → Int64} {rd_tape to_unsurePair to_unsureYears to_triedPair tf_seatOf tf_one tf_other tf_kind tf_years tf_sawn bd_unsurePair bd_unsureYears bd_triedPair bf_seatOf bf_one bf_other bf_kind bf_years bf_sawn nw_seatOf nw_one nw_other nw_kind nw_years nw_sawn sc_seatOf sc_handle sc_both sc_slopOf sl_bits se_bestRow se_row se_pairAt se_hope se_hopeAt se_slopAt se_farBits se_gain se_worth ch_both ch_cost ch_bit cl_bits fi_sets ps_act ps_whom ps_amount i0_seatOf i0_one i0_other i0_kind i0_years i0_sawn i1_seatOf i1_one i1_other i1_kind i1_years i1_sawn i2_seatOf i2_one i2_other i2_kind i2_years i2_sawn : Nat → Int32} {rd_word : Int64} {l1 : Int32} {R0 : Int32 × Int32 × (Nat → Int32) × (Nat → Int32) × (Nat → Int32) × Int32 × Int32 × Int32 × (Nat → Int32) × Int32} (hf : f_X_meetAt l1 bd_slack bd_people nw_seatOf nw_one nw_other nw_kind nw_years nw_sawn nw_pairs ch_both ch_cost ch_bit ch_items ch_leastCost ch_leastBits cl_bits cl_count = some R0) : xI l E yX10_meetAt cX10_meetAt 2 (some .int) 5 115 [.ref (ad 0), .int l1] (wX E ad x_imageCount x_lastTrouble x_lastFault x_lastPlace pa_names pa_faultNumber pa_faultPlace rd_tape rd_length rd_end rd_next rd_sort rd_start rd_value rd_word to_unsurePair to_unsureYears to_triedPair to_seats to_slack to_sawInches to_quarrelChance to_people to_forkBits to_unsure to_tried to_triedFedBits tf_seatOf tf_one tf_other tf_kind tf_years tf_sawn tf_pairs tf_gone bd_unsurePair bd_unsureYears bd_triedPair bd_seats bd_slack bd_sawInches bd_quarrelChance bd_people bd_forkBits bd_unsure bd_tried bd_triedFedBits bf_seatOf bf_one bf_other bf_kind bf_years bf_sawn bf_pairs bf_gone nw_seatOf nw_one nw_other nw_kind nw_years nw_sawn nw_pairs nw_gone sc_seatOf sc_handle sc_both sc_slopOf sc_forkBits sc_canBits sc_bestBits sc_bestSlops sl_bits sl_count se_bestRow se_row se_pairAt se_hope se_hopeAt se_slopAt se_farBits se_gain se_worth se_bestWorth se_fresh ch_both ch_cost ch_bit ch_items ch_leastCost ch_leastBits cl_bits cl_count fi_sets fi_count ps_act ps_whom ps_amount ps_next ps_count i0_seatOf i0_one i0_other i0_kind i0_years i0_sawn i0_pairs i0_gone i1_seatOf i1_one i1_other i1_kind i1_years i1_sawn i1_pairs i1_gone i2_seatOf i2_one i2_other i2_kind i2_years i2_sawn i2_pairs i2_gone) (wX E ad x_imageCount R0.2.1 x_lastFault x_lastPlace pa_names pa_faultNumber pa_faultPlace rd_tape rd_length rd_end rd_next rd_sort rd_start rd_value rd_word to_unsurePair to_unsureYears to_triedPair to_seats to_slack to_sawInches to_quarrelChance to_people to_forkBits to_unsure to_tried to_triedFedBits tf_seatOf tf_one tf_other tf_kind tf_years tf_sawn tf_pairs tf_gone bd_unsurePair bd_unsureYears bd_triedPair bd_seats bd_slack bd_sawInches bd_quarrelChance bd_people bd_forkBits bd_unsure bd_tried bd_triedFedBits bf_seatOf bf_one bf_other bf_kind bf_years bf_sawn bf_pairs bf_gone nw_seatOf nw_one nw_other nw_kind nw_years nw_sawn nw_pairs nw_gone sc_seatOf sc_handle sc_both sc_slopOf sc_forkBits sc_canBits sc_bestBits sc_bestSlops sl_bits sl_count se_bestRow se_row se_pairAt se_hope se_hopeAt se_slopAt se_farBits se_gain se_worth se_bestWorth se_fresh R0.2.2.1 R0.2.2.2.1 R0.2.2.2.2.1 R0.2.2.2.2.2.1 R0.2.2.2.2.2.2.1 R0.2.2.2.2.2.2.2.1 R0.2.2.2.2.2.2.2.2.1 R0.2.2.2.2.2.2.2.2.2 fi_sets fi_count ps_act ps_whom ps_amount ps_next ps_count i0_seatOf i0_one i0_other i0_kind i0_years i0_sawn i0_pairs i0_gone i1_seatOf i1_one i1_other i1_kind i1_years i1_sawn i1_pairs i1_gone i2_seatOf i2_one i2_other i2_kind i2_years i2_sawn i2_pairs i2_gone) R0.1 := by
  refine xI_of (by decide) (Nat.le_of_ble_eq_true rfl) (fun p e s m args below meth c A C ls hl G => ?_)
  have hx := C.1
  have hb := C.2.1
  have hl : lv_has ls 2 [(0, .ref (ad 0)), (1, .int l1)] := hl
  unfold f_X_meetAt at hf
  refine lv_aload_n hx hb dX10_meetAt_0 rfl (lv_at hl 0 rfl) ?_
  obtain ⟨x1, hc, hf⟩ := bd_go hf
  refine xI_V C G (c_X_noTable_x hc) mX10_noTable kX10_187 (wX_at0) rfl ⟨Nat.le_of_ble_eq_true rfl, Nat.le_of_ble_eq_true rfl⟩ rfl hl.1 rfl (Nat.le_of_ble_eq_true rfl) ⟨Nat.le_refl _, Nat.le_refl _⟩ dX10_meetAt_1 (fun hz1 H locs G => ?_)
  refine lv_if_eq (tgt := 9) hx hb dX10_meetAt_4 (by decide) (fun h => ?_) (fun h => ?_)
  · have hf := it_t h hf
    refine lv_iload_n hx hb dX10_meetAt_9 rfl (lv_at hl 1 rfl) ?_
    refine lv_bipush (v := 60) hx hb dX10_meetAt_10 (by decide) ?_
    obtain ⟨x2, hc, hf⟩ := bd_go hf
    refine xI_S C G (c_X_within_any hc) mX10_within kX10_216 ⟨Nat.le_of_ble_eq_true rfl, Nat.le_of_ble_eq_true rfl⟩ rfl hl.1 rfl (Nat.le_of_ble_eq_true rfl) ⟨Nat.le_refl _, Nat.le_refl _⟩ dX10_meetAt_12 (fun hz2 H locs G => ?_)
    refine lv_if_ne (tgt := 24) hx hb dX10_meetAt_15 (by decide) (fun h => ?_) (fun h => ?_)
    · have hf := it_f h hf
      refine lv_aload_n hx hb dX10_meetAt_24 rfl (lv_at hl 0 rfl) ?_
      refine lv_iload_n hx hb dX10_meetAt_25 rfl (lv_at hl 1 rfl) ?_
      obtain ⟨x3, hc, hf⟩ := bd_go hf
      refine xV_V C G (c_X_chooseMeet_x hc) mX10_chooseMeet kX10_273 (wX_at0) rfl ⟨Nat.le_of_ble_eq_true rfl, Nat.le_of_ble_eq_true rfl⟩ rfl hl.1 rfl (Nat.le_of_ble_eq_true rfl) ⟨Nat.le_refl _, Nat.le_refl _⟩ dX10_meetAt_26 (fun H locs G => ?_)
      refine lv_aload_n hx hb dX10_meetAt_29 rfl (lv_at hl 0 rfl) ?_
      refine x_get C G fX10_49 (wX_at0) rfl dX10_meetAt_30 ?_
      refine x_get C G fX10_264.g (wX_at52) rfl dX10_meetAt_33 ?_
      refine lv_if_ge (tgt := 44) hx hb dX10_meetAt_36 (by decide) (fun h => ?_) (fun h => ?_)
      · have hf := it_t h hf
        refine lv_aload_n hx hb dX10_meetAt_44 rfl (lv_at hl 0 rfl) ?_
        refine x_get C G fX10_49 (wX_at0) rfl dX10_meetAt_45 ?_
        refine x_get C G fX10_267.g (wX_at52) rfl dX10_meetAt_48 ?_
        obtain rfl := Option.some.inj hf
        exact xI_ret C G rfl dX10_meetAt_51
      · have hf := it_f h hf
        refine lv_bipush (v := -2) hx hb dX10_meetAt_39 (by decide) ?_
        refine lv_goto (tgt := 51) hx hb dX10_meetAt_41 (by decide) ?_
        obtain rfl := Option.some.inj hf
        exact xI_ret C G rfl dX10_meetAt_51
    · have hf := it_t h hf
      refine lv_aload_n hx hb dX10_meetAt_18 rfl (lv_at hl 0 rfl) ?_
      refine lv_iconst (v := 2) hx hb dX10_meetAt_19 (by decide) ?_
      obtain ⟨x4, hc, hf⟩ := bd_go hf
      refine xI_V C G (c_X_refused_x hc) mX10_refused kX10_87 (wX_at0) rfl ⟨Nat.le_of_ble_eq_true rfl, Nat.le_of_ble_eq_true rfl⟩ rfl hl.1 rfl (Nat.le_of_ble_eq_true rfl) ⟨Nat.le_refl _, Nat.le_refl _⟩ dX10_meetAt_20 (fun hz H locs G => ?_)
      obtain rfl := Option.some.inj hf
      exact xI_ret C G rfl dX10_meetAt_23
  · have hf := it_f h hf
    refine lv_iconst (v := -1) hx hb dX10_meetAt_7 (by decide) ?_
    obtain rfl := Option.some.inj hf
    exact xI_ret C G rfl dX10_meetAt_8
set_option maxHeartbeats 4000000 in
set_option maxRecDepth 100000 in
theorem c_Scene_wouldRather_sc {l : Launch} {E : xE} {ad : Nat → Nat} {x_imageCount x_lastTrouble x_lastFault x_lastPlace pa_faultNumber pa_faultPlace rd_length rd_end rd_next rd_sort rd_start rd_value to_seats to_slack to_sawInches to_quarrelChance to_people to_forkBits to_unsure to_tried to_triedFedBits tf_pairs tf_gone bd_seats bd_slack bd_sawInches bd_quarrelChance bd_people bd_forkBits bd_unsure bd_tried bd_triedFedBits bf_pairs bf_gone nw_pairs nw_gone sc_forkBits sc_canBits sc_bestBits sc_bestSlops sl_count se_bestWorth se_fresh ch_items ch_leastCost ch_leastBits cl_count fi_count ps_next ps_count i0_pairs i0_gone i1_pairs i1_gone i2_pairs i2_gone : Int32} {pa_names : Nat → Int64} {rd_tape to_unsurePair to_unsureYears to_triedPair tf_seatOf tf_one tf_other tf_kind tf_years tf_sawn bd_unsurePair bd_unsureYears bd_triedPair bf_seatOf bf_one bf_other bf_kind bf_years bf_sawn nw_seatOf nw_one nw_other nw_kind nw_years nw_sawn sc_seatOf sc_handle sc_both sc_slopOf sl_bits se_bestRow se_row se_pairAt se_hope se_hopeAt se_slopAt se_farBits se_gain se_worth ch_both ch_cost ch_bit cl_bits fi_sets ps_act ps_whom ps_amount i0_seatOf i0_one i0_other i0_kind i0_years i0_sawn i1_seatOf i1_one i1_other i1_kind i1_years i1_sawn i2_seatOf i2_one i2_other i2_kind i2_years i2_sawn : Nat → Int32} {rd_word : Int64} {l1 : Int32} {l2 : Int32} {l3 : Int32} {R0 : Int32} (hf : f_Scene_wouldRather l1 l2 l3 nw_one nw_other nw_pairs sc_handle = some R0) : xI l E yX8_wouldRather cX8_wouldRather 5 (some .boolean) 2 45 [.ref (ad 35), .int l1, .int l2, .int l3] (wX E ad x_imageCount x_lastTrouble x_lastFault x_lastPlace pa_names pa_faultNumber pa_faultPlace rd_tape rd_length rd_end rd_next rd_sort rd_start rd_value rd_word to_unsurePair to_unsureYears to_triedPair to_seats to_slack to_sawInches to_quarrelChance to_people to_forkBits to_unsure to_tried to_triedFedBits tf_seatOf tf_one tf_other tf_kind tf_years tf_sawn tf_pairs tf_gone bd_unsurePair bd_unsureYears bd_triedPair bd_seats bd_slack bd_sawInches bd_quarrelChance bd_people bd_forkBits bd_unsure bd_tried bd_triedFedBits bf_seatOf bf_one bf_other bf_kind bf_years bf_sawn bf_pairs bf_gone nw_seatOf nw_one nw_other nw_kind nw_years nw_sawn nw_pairs nw_gone sc_seatOf sc_handle sc_both sc_slopOf sc_forkBits sc_canBits sc_bestBits sc_bestSlops sl_bits sl_count se_bestRow se_row se_pairAt se_hope se_hopeAt se_slopAt se_farBits se_gain se_worth se_bestWorth se_fresh ch_both ch_cost ch_bit ch_items ch_leastCost ch_leastBits cl_bits cl_count fi_sets fi_count ps_act ps_whom ps_amount ps_next ps_count i0_seatOf i0_one i0_other i0_kind i0_years i0_sawn i0_pairs i0_gone i1_seatOf i1_one i1_other i1_kind i1_years i1_sawn i1_pairs i1_gone i2_seatOf i2_one i2_other i2_kind i2_years i2_sawn i2_pairs i2_gone) (wX E ad x_imageCount x_lastTrouble x_lastFault x_lastPlace pa_names pa_faultNumber pa_faultPlace rd_tape rd_length rd_end rd_next rd_sort rd_start rd_value rd_word to_unsurePair to_unsureYears to_triedPair to_seats to_slack to_sawInches to_quarrelChance to_people to_forkBits to_unsure to_tried to_triedFedBits tf_seatOf tf_one tf_other tf_kind tf_years tf_sawn tf_pairs tf_gone bd_unsurePair bd_unsureYears bd_triedPair bd_seats bd_slack bd_sawInches bd_quarrelChance bd_people bd_forkBits bd_unsure bd_tried bd_triedFedBits bf_seatOf bf_one bf_other bf_kind bf_years bf_sawn bf_pairs bf_gone nw_seatOf nw_one nw_other nw_kind nw_years nw_sawn nw_pairs nw_gone sc_seatOf sc_handle sc_both sc_slopOf sc_forkBits sc_canBits sc_bestBits sc_bestSlops sl_bits sl_count se_bestRow se_row se_pairAt se_hope se_hopeAt se_slopAt se_farBits se_gain se_worth se_bestWorth se_fresh ch_both ch_cost ch_bit ch_items ch_leastCost ch_leastBits cl_bits cl_count fi_sets fi_count ps_act ps_whom ps_amount ps_next ps_count i0_seatOf i0_one i0_other i0_kind i0_years i0_sawn i0_pairs i0_gone i1_seatOf i1_one i1_other i1_kind i1_years i1_sawn i1_pairs i1_gone i2_seatOf i2_one i2_other i2_kind i2_years i2_sawn i2_pairs i2_gone) R0 := by
  refine xI_of (by decide) (Nat.le_of_ble_eq_true rfl) (fun p e s m args below meth c A C ls hl G => ?_)
  have hx := C.1
  have hb := C.2.1
  have hl : lv_has ls 5 [(0, .ref (ad 35)), (1, .int l1), (2, .int l2), (3, .int l3)] := hl
  unfold f_Scene_wouldRather at hf
  refine lv_aload_n hx hb dX8_wouldRather_0 rfl (lv_at hl 0 rfl) ?_
  refine lv_iload_n hx hb dX8_wouldRather_1 rfl (lv_at hl 1 rfl) ?_
  refine lv_iload_n hx hb dX8_wouldRather_2 rfl (lv_at hl 3 rfl) ?_
  obtain ⟨x1, hc, hf⟩ := bd_go hf
  refine xI_V C G (c_Scene_held_sc hc) mX8_held kX8_137 (wX_at35) rfl ⟨Nat.le_of_ble_eq_true rfl, Nat.le_of_ble_eq_true rfl⟩ rfl hl.1 rfl (Nat.le_of_ble_eq_true rfl) ⟨Nat.le_refl _, Nat.le_refl _⟩ dX8_wouldRather_3 (fun hz H locs G => ?_)
  refine lv_istore (lv' := [(4, .int x1), (0, .ref (ad 35)), (1, .int l1), (2, .int l2), (3, .int l3)]) hx hb dX8_wouldRather_6 hl (by decide) rfl (fun ls hl => ?_)
  refine lv_iload hx hb dX8_wouldRather_8 (lv_at hl 0 rfl) ?_
  refine lv_if_ge (tgt := 15) hx hb dX8_wouldRather_10 (by decide) (fun h => ?_) (fun h => ?_)
  · have hf := it_t h hf
    refine lv_aload_n hx hb dX8_wouldRather_15 rfl (lv_at hl 1 rfl) ?_
    refine x_get C G fX8_15 (wX_at35) rfl dX8_wouldRather_16 ?_
    refine lv_iload_n hx hb dX8_wouldRather_19 rfl (lv_at hl 3 rfl) ?_
    have hi := ck_in hf
    have hf := ck_go hf
    refine x_iald C G (wX_at37) hi dX8_wouldRather_20 ?_
    refine lv_aload_n hx hb dX8_wouldRather_21 rfl (lv_at hl 1 rfl) ?_
    refine x_get C G fX8_15 (wX_at35) rfl dX8_wouldRather_22 ?_
    refine lv_iload hx hb dX8_wouldRather_25 (lv_at hl 0 rfl) ?_
    have hi := ck_in hf
    have hf := ck_go hf
    refine x_iald C G (wX_at37) hi dX8_wouldRather_27 ?_
    refine lv_icmp_eq (tgt := 53) hx hb dX8_wouldRather_28 (by decide) (fun h => ?_) (fun h => ?_)
    · have hf := it_t h hf
      refine lv_aload_n hx hb dX8_wouldRather_53 rfl (lv_at hl 1 rfl) ?_
      refine x_get C G fX8_35 (wX_at35) rfl dX8_wouldRather_54 ?_
      refine lv_iload_n hx hb dX8_wouldRather_57 rfl (lv_at hl 3 rfl) ?_
      refine lv_iload_n hx hb dX8_wouldRather_58 rfl (lv_at hl 2 rfl) ?_
      obtain ⟨x2, hc, hf⟩ := bd_go hf
      refine xI_V C G (c_Now_partner_nw hc) mX4_partner kX8_127 (wX_at28) rfl ⟨Nat.le_of_ble_eq_true rfl, Nat.le_of_ble_eq_true rfl⟩ rfl hl.1 rfl (Nat.le_of_ble_eq_true rfl) ⟨Nat.le_refl _, Nat.le_refl _⟩ dX8_wouldRather_59 (fun hz H locs G => ?_)
      refine lv_aload_n hx hb dX8_wouldRather_62 rfl (lv_at hl 1 rfl) ?_
      refine x_get C G fX8_35 (wX_at35) rfl dX8_wouldRather_63 ?_
      refine lv_iload hx hb dX8_wouldRather_66 (lv_at hl 0 rfl) ?_
      refine lv_iload_n hx hb dX8_wouldRather_68 rfl (lv_at hl 2 rfl) ?_
      obtain ⟨x3, hc, hf⟩ := bd_go hf
      refine xI_V C G (c_Now_partner_nw hc) mX4_partner kX8_127 (wX_at28) rfl ⟨Nat.le_of_ble_eq_true rfl, Nat.le_of_ble_eq_true rfl⟩ rfl hl.1 rfl (Nat.le_of_ble_eq_true rfl) ⟨Nat.le_refl _, Nat.le_refl _⟩ dX8_wouldRather_69 (fun hz H locs G => ?_)
      refine lv_icmp_ge (tgt := 79) hx hb dX8_wouldRather_72 (by decide) (fun h => ?_) (fun h => ?_)
      · have hf := it_t h hf
        refine lv_iconst (v := 0) hx hb dX8_wouldRather_79 (by decide) ?_
        obtain rfl := Option.some.inj hf
        exact xI_ret (r := (0 : Int32)) C G rfl dX8_wouldRather_80
      · have hf := it_f h hf
        refine lv_iconst (v := 1) hx hb dX8_wouldRather_75 (by decide) ?_
        refine lv_goto (tgt := 80) hx hb dX8_wouldRather_76 (by decide) ?_
        obtain rfl := Option.some.inj hf
        exact xI_ret (r := (1 : Int32)) C G rfl dX8_wouldRather_80
    · have hf := it_f h hf
      refine lv_aload_n hx hb dX8_wouldRather_31 rfl (lv_at hl 1 rfl) ?_
      refine x_get C G fX8_15 (wX_at35) rfl dX8_wouldRather_32 ?_
      refine lv_iload_n hx hb dX8_wouldRather_35 rfl (lv_at hl 3 rfl) ?_
      have hi := ck_in hf
      have hf := ck_go hf
      refine x_iald C G (wX_at37) hi dX8_wouldRather_36 ?_
      refine lv_aload_n hx hb dX8_wouldRather_37 rfl (lv_at hl 1 rfl) ?_
      refine x_get C G fX8_15 (wX_at35) rfl dX8_wouldRather_38 ?_
      refine lv_iload hx hb dX8_wouldRather_41 (lv_at hl 0 rfl) ?_
      have hi := ck_in hf
      have hf := ck_go hf
      refine x_iald C G (wX_at37) hi dX8_wouldRather_43 ?_
      refine lv_icmp_le (tgt := 51) hx hb dX8_wouldRather_44 (by decide) (fun h => ?_) (fun h => ?_)
      · have hf := it_t h hf
        refine lv_iconst (v := 0) hx hb dX8_wouldRather_51 (by decide) ?_
        obtain rfl := Option.some.inj hf
        exact xI_ret (r := (0 : Int32)) C G rfl dX8_wouldRather_52
      · have hf := it_f h hf
        refine lv_iconst (v := 1) hx hb dX8_wouldRather_47 (by decide) ?_
        refine lv_goto (tgt := 52) hx hb dX8_wouldRather_48 (by decide) ?_
        obtain rfl := Option.some.inj hf
        exact xI_ret (r := (1 : Int32)) C G rfl dX8_wouldRather_52
  · have hf := it_f h hf
    refine lv_iconst (v := 1) hx hb dX8_wouldRather_13 (by decide) ?_
    obtain rfl := Option.some.inj hf
    exact xI_ret (r := (1 : Int32)) C G rfl dX8_wouldRather_14
set_option maxHeartbeats 4000000 in
set_option maxRecDepth 100000 in
theorem c_Scene_wouldLeave_sc {l : Launch} {E : xE} {ad : Nat → Nat} {x_imageCount x_lastTrouble x_lastFault x_lastPlace pa_faultNumber pa_faultPlace rd_length rd_end rd_next rd_sort rd_start rd_value to_seats to_slack to_sawInches to_quarrelChance to_people to_forkBits to_unsure to_tried to_triedFedBits tf_pairs tf_gone bd_seats bd_slack bd_sawInches bd_quarrelChance bd_people bd_forkBits bd_unsure bd_tried bd_triedFedBits bf_pairs bf_gone nw_pairs nw_gone sc_forkBits sc_canBits sc_bestBits sc_bestSlops sl_count se_bestWorth se_fresh ch_items ch_leastCost ch_leastBits cl_count fi_count ps_next ps_count i0_pairs i0_gone i1_pairs i1_gone i2_pairs i2_gone : Int32} {pa_names : Nat → Int64} {rd_tape to_unsurePair to_unsureYears to_triedPair tf_seatOf tf_one tf_other tf_kind tf_years tf_sawn bd_unsurePair bd_unsureYears bd_triedPair bf_seatOf bf_one bf_other bf_kind bf_years bf_sawn nw_seatOf nw_one nw_other nw_kind nw_years nw_sawn sc_seatOf sc_handle sc_both sc_slopOf sl_bits se_bestRow se_row se_pairAt se_hope se_hopeAt se_slopAt se_farBits se_gain se_worth ch_both ch_cost ch_bit cl_bits fi_sets ps_act ps_whom ps_amount i0_seatOf i0_one i0_other i0_kind i0_years i0_sawn i1_seatOf i1_one i1_other i1_kind i1_years i1_sawn i2_seatOf i2_one i2_other i2_kind i2_years i2_sawn : Nat → Int32} {rd_word : Int64} {l1 : Int32} {l2 : Int32} {R0 : Int32} (hf : f_Scene_wouldLeave l1 l2 nw_one nw_other nw_pairs sc_handle sc_canBits = some R0) : xI l E yX8_wouldLeave cX8_wouldLeave 3 (some .boolean) 3 69 [.ref (ad 35), .int l1, .int l2] (wX E ad x_imageCount x_lastTrouble x_lastFault x_lastPlace pa_names pa_faultNumber pa_faultPlace rd_tape rd_length rd_end rd_next rd_sort rd_start rd_value rd_word to_unsurePair to_unsureYears to_triedPair to_seats to_slack to_sawInches to_quarrelChance to_people to_forkBits to_unsure to_tried to_triedFedBits tf_seatOf tf_one tf_other tf_kind tf_years tf_sawn tf_pairs tf_gone bd_unsurePair bd_unsureYears bd_triedPair bd_seats bd_slack bd_sawInches bd_quarrelChance bd_people bd_forkBits bd_unsure bd_tried bd_triedFedBits bf_seatOf bf_one bf_other bf_kind bf_years bf_sawn bf_pairs bf_gone nw_seatOf nw_one nw_other nw_kind nw_years nw_sawn nw_pairs nw_gone sc_seatOf sc_handle sc_both sc_slopOf sc_forkBits sc_canBits sc_bestBits sc_bestSlops sl_bits sl_count se_bestRow se_row se_pairAt se_hope se_hopeAt se_slopAt se_farBits se_gain se_worth se_bestWorth se_fresh ch_both ch_cost ch_bit ch_items ch_leastCost ch_leastBits cl_bits cl_count fi_sets fi_count ps_act ps_whom ps_amount ps_next ps_count i0_seatOf i0_one i0_other i0_kind i0_years i0_sawn i0_pairs i0_gone i1_seatOf i1_one i1_other i1_kind i1_years i1_sawn i1_pairs i1_gone i2_seatOf i2_one i2_other i2_kind i2_years i2_sawn i2_pairs i2_gone) (wX E ad x_imageCount x_lastTrouble x_lastFault x_lastPlace pa_names pa_faultNumber pa_faultPlace rd_tape rd_length rd_end rd_next rd_sort rd_start rd_value rd_word to_unsurePair to_unsureYears to_triedPair to_seats to_slack to_sawInches to_quarrelChance to_people to_forkBits to_unsure to_tried to_triedFedBits tf_seatOf tf_one tf_other tf_kind tf_years tf_sawn tf_pairs tf_gone bd_unsurePair bd_unsureYears bd_triedPair bd_seats bd_slack bd_sawInches bd_quarrelChance bd_people bd_forkBits bd_unsure bd_tried bd_triedFedBits bf_seatOf bf_one bf_other bf_kind bf_years bf_sawn bf_pairs bf_gone nw_seatOf nw_one nw_other nw_kind nw_years nw_sawn nw_pairs nw_gone sc_seatOf sc_handle sc_both sc_slopOf sc_forkBits sc_canBits sc_bestBits sc_bestSlops sl_bits sl_count se_bestRow se_row se_pairAt se_hope se_hopeAt se_slopAt se_farBits se_gain se_worth se_bestWorth se_fresh ch_both ch_cost ch_bit ch_items ch_leastCost ch_leastBits cl_bits cl_count fi_sets fi_count ps_act ps_whom ps_amount ps_next ps_count i0_seatOf i0_one i0_other i0_kind i0_years i0_sawn i0_pairs i0_gone i1_seatOf i1_one i1_other i1_kind i1_years i1_sawn i1_pairs i1_gone i2_seatOf i2_one i2_other i2_kind i2_years i2_sawn i2_pairs i2_gone) R0 := by
  refine xI_of (by decide) (Nat.le_of_ble_eq_true rfl) (fun p e s m args below meth c A C ls hl G => ?_)
  have hx := C.1
  have hb := C.2.1
  have hl : lv_has ls 3 [(0, .ref (ad 35)), (1, .int l1), (2, .int l2)] := hl
  unfold f_Scene_wouldLeave at hf
  refine lv_aload_n hx hb dX8_wouldLeave_0 rfl (lv_at hl 0 rfl) ?_
  refine x_get C G fX8_68.g (wX_at35) rfl dX8_wouldLeave_1 ?_
  refine lv_iload_n hx hb dX8_wouldLeave_4 rfl (lv_at hl 1 rfl) ?_
  obtain ⟨x1, hc, hf⟩ := bd_go hf
  refine xI_S C G (c_X_has_any hc) mX10_has kX8_123 ⟨Nat.le_of_ble_eq_true rfl, Nat.le_of_ble_eq_true rfl⟩ rfl hl.1 rfl (Nat.le_of_ble_eq_true rfl) ⟨Nat.le_refl _, Nat.le_refl _⟩ dX8_wouldLeave_5 (fun hz1 H locs G => ?_)
  obtain ⟨b2, hr, hf⟩ := bd_go hf
  cases b2 with
  | true =>
    have hf := it_t rfl hf
    have J : ∀ (H : Heap) (locs : List Loc), xG s E A (wX E ad x_imageCount x_lastTrouble x_lastFault x_lastPlace pa_names pa_faultNumber pa_faultPlace rd_tape rd_length rd_end rd_next rd_sort rd_start rd_value rd_word to_unsurePair to_unsureYears to_triedPair to_seats to_slack to_sawInches to_quarrelChance to_people to_forkBits to_unsure to_tried to_triedFedBits tf_seatOf tf_one tf_other tf_kind tf_years tf_sawn tf_pairs tf_gone bd_unsurePair bd_unsureYears bd_triedPair bd_seats bd_slack bd_sawInches bd_quarrelChance bd_people bd_forkBits bd_unsure bd_tried bd_triedFedBits bf_seatOf bf_one bf_other bf_kind bf_years bf_sawn bf_pairs bf_gone nw_seatOf nw_one nw_other nw_kind nw_years nw_sawn nw_pairs nw_gone sc_seatOf sc_handle sc_both sc_slopOf sc_forkBits sc_canBits sc_bestBits sc_bestSlops sl_bits sl_count se_bestRow se_row se_pairAt se_hope se_hopeAt se_slopAt se_farBits se_gain se_worth se_bestWorth se_fresh ch_both ch_cost ch_bit ch_items ch_leastCost ch_leastBits cl_bits cl_count fi_sets fi_count ps_act ps_whom ps_amount ps_next ps_count i0_seatOf i0_one i0_other i0_kind i0_years i0_sawn i0_pairs i0_gone i1_seatOf i1_one i1_other i1_kind i1_years i1_sawn i1_pairs i1_gone i2_seatOf i2_one i2_other i2_kind i2_years i2_sawn i2_pairs i2_gone) H locs → W p l e (xR 3 69) s m args below meth c H locs 0 0 (MQ below (xqI E A (wX E ad x_imageCount x_lastTrouble x_lastFault x_lastPlace pa_names pa_faultNumber pa_faultPlace rd_tape rd_length rd_end rd_next rd_sort rd_start rd_value rd_word to_unsurePair to_unsureYears to_triedPair to_seats to_slack to_sawInches to_quarrelChance to_people to_forkBits to_unsure to_tried to_triedFedBits tf_seatOf tf_one tf_other tf_kind tf_years tf_sawn tf_pairs tf_gone bd_unsurePair bd_unsureYears bd_triedPair bd_seats bd_slack bd_sawInches bd_quarrelChance bd_people bd_forkBits bd_unsure bd_tried bd_triedFedBits bf_seatOf bf_one bf_other bf_kind bf_years bf_sawn bf_pairs bf_gone nw_seatOf nw_one nw_other nw_kind nw_years nw_sawn nw_pairs nw_gone sc_seatOf sc_handle sc_both sc_slopOf sc_forkBits sc_canBits sc_bestBits sc_bestSlops sl_bits sl_count se_bestRow se_row se_pairAt se_hope se_hopeAt se_slopAt se_farBits se_gain se_worth se_bestWorth se_fresh ch_both ch_cost ch_bit ch_items ch_leastCost ch_leastBits cl_bits cl_count fi_sets fi_count ps_act ps_whom ps_amount ps_next ps_count i0_seatOf i0_one i0_other i0_kind i0_years i0_sawn i0_pairs i0_gone i1_seatOf i1_one i1_other i1_kind i1_years i1_sawn i1_pairs i1_gone i2_seatOf i2_one i2_other i2_kind i2_years i2_sawn i2_pairs i2_gone) (some .boolean) R0) args s 0 0 A) (F0 m 59 ls []) := by
      intro H locs G
      refine lv_iconst (v := 0) hx hb dX8_wouldLeave_59 (by decide) ?_
      obtain rfl := Option.some.inj hf
      exact xI_ret (r := (0 : Int32)) C G rfl dX8_wouldLeave_60
    have hf := hr
    clear hr
    refine lv_if_eq (tgt := 59) hx hb dX8_wouldLeave_8 (by decide) (fun h => ?_) (fun h => ?_)
    · have hf := it_t h hf
      exact J _ _ G
    · have hf := it_f h hf
      refine lv_iload_n hx hb dX8_wouldLeave_11 rfl (lv_at hl 2 rfl) ?_
      refine lv_iload_n hx hb dX8_wouldLeave_12 rfl (lv_at hl 1 rfl) ?_
      obtain ⟨x3, hc, hf⟩ := bd_go hf
      refine xI_S C G (c_X_has_any hc) mX10_has kX8_123 ⟨Nat.le_of_ble_eq_true rfl, Nat.le_of_ble_eq_true rfl⟩ rfl hl.1 rfl (Nat.le_of_ble_eq_true rfl) ⟨Nat.le_refl _, Nat.le_refl _⟩ dX8_wouldLeave_13 (fun hz3 H locs G => ?_)
      refine lv_if_ne (tgt := 59) hx hb dX8_wouldLeave_16 (by decide) (fun h => ?_) (fun h => ?_)
      · have hf := it_f h hf
        exact J _ _ G
      · have hf := it_t h hf
        refine lv_aload_n hx hb dX8_wouldLeave_19 rfl (lv_at hl 0 rfl) ?_
        refine lv_aload_n hx hb dX8_wouldLeave_20 rfl (lv_at hl 0 rfl) ?_
        refine x_get C G fX8_35 (wX_at35) rfl dX8_wouldLeave_21 ?_
        refine x_get C G fX8_96 (wX_at28) rfl dX8_wouldLeave_24 ?_
        refine lv_iload_n hx hb dX8_wouldLeave_27 rfl (lv_at hl 1 rfl) ?_
        have hi := ck_in hf
        have hf := ck_go hf
        refine x_iald C G (wX_at30) hi dX8_wouldLeave_28 ?_
        refine lv_iload_n hx hb dX8_wouldLeave_29 rfl (lv_at hl 1 rfl) ?_
        refine lv_iload_n hx hb dX8_wouldLeave_30 rfl (lv_at hl 2 rfl) ?_
        obtain ⟨x4, hc, hf⟩ := bd_go hf
        refine xI_V C G (c_Scene_wouldRather_sc hc) mX8_wouldRather kX8_133 (wX_at35) rfl ⟨Nat.le_of_ble_eq_true rfl, Nat.le_of_ble_eq_true rfl⟩ rfl hl.1 rfl (Nat.le_of_ble_eq_true rfl) ⟨Nat.le_refl _, Nat.le_refl _⟩ dX8_wouldLeave_31 (fun hz4 H locs G => ?_)
        refine lv_if_eq (tgt := 59) hx hb dX8_wouldLeave_34 (by decide) (fun h => ?_) (fun h => ?_)
        · have hf := it_t h hf
          exact J _ _ G
        · have hf := it_f h hf
          refine lv_aload_n hx hb dX8_wouldLeave_37 rfl (lv_at hl 0 rfl) ?_
          refine lv_aload_n hx hb dX8_wouldLeave_38 rfl (lv_at hl 0 rfl) ?_
          refine x_get C G fX8_35 (wX_at35) rfl dX8_wouldLeave_39 ?_
          refine x_get C G fX8_99 (wX_at28) rfl dX8_wouldLeave_42 ?_
          refine lv_iload_n hx hb dX8_wouldLeave_45 rfl (lv_at hl 1 rfl) ?_
          have hi := ck_in hf
          have hf := ck_go hf
          refine x_iald C G (wX_at31) hi dX8_wouldLeave_46 ?_
          refine lv_iload_n hx hb dX8_wouldLeave_47 rfl (lv_at hl 1 rfl) ?_
          refine lv_iload_n hx hb dX8_wouldLeave_48 rfl (lv_at hl 2 rfl) ?_
          obtain ⟨x5, hc, hf⟩ := bd_go hf
          refine xI_V C G (c_Scene_wouldRather_sc hc) mX8_wouldRather kX8_133 (wX_at35) rfl ⟨Nat.le_of_ble_eq_true rfl, Nat.le_of_ble_eq_true rfl⟩ rfl hl.1 rfl (Nat.le_of_ble_eq_true rfl) ⟨Nat.le_refl _, Nat.le_refl _⟩ dX8_wouldLeave_49 (fun hz5 H locs G => ?_)
          refine lv_if_eq (tgt := 59) hx hb dX8_wouldLeave_52 (by decide) (fun h => ?_) (fun h => ?_)
          · have hf := it_t h hf
            exact J _ _ G
          · have hf := it_f h hf
            exact absurd (Option.some.inj hf) (by decide)
  | false =>
    have hf := it_f (by decide) hf
    have J : ∀ (H : Heap) (locs : List Loc), xG s E A (wX E ad x_imageCount x_lastTrouble x_lastFault x_lastPlace pa_names pa_faultNumber pa_faultPlace rd_tape rd_length rd_end rd_next rd_sort rd_start rd_value rd_word to_unsurePair to_unsureYears to_triedPair to_seats to_slack to_sawInches to_quarrelChance to_people to_forkBits to_unsure to_tried to_triedFedBits tf_seatOf tf_one tf_other tf_kind tf_years tf_sawn tf_pairs tf_gone bd_unsurePair bd_unsureYears bd_triedPair bd_seats bd_slack bd_sawInches bd_quarrelChance bd_people bd_forkBits bd_unsure bd_tried bd_triedFedBits bf_seatOf bf_one bf_other bf_kind bf_years bf_sawn bf_pairs bf_gone nw_seatOf nw_one nw_other nw_kind nw_years nw_sawn nw_pairs nw_gone sc_seatOf sc_handle sc_both sc_slopOf sc_forkBits sc_canBits sc_bestBits sc_bestSlops sl_bits sl_count se_bestRow se_row se_pairAt se_hope se_hopeAt se_slopAt se_farBits se_gain se_worth se_bestWorth se_fresh ch_both ch_cost ch_bit ch_items ch_leastCost ch_leastBits cl_bits cl_count fi_sets fi_count ps_act ps_whom ps_amount ps_next ps_count i0_seatOf i0_one i0_other i0_kind i0_years i0_sawn i0_pairs i0_gone i1_seatOf i1_one i1_other i1_kind i1_years i1_sawn i1_pairs i1_gone i2_seatOf i2_one i2_other i2_kind i2_years i2_sawn i2_pairs i2_gone) H locs → W p l e (xR 3 69) s m args below meth c H locs 0 0 (MQ below (xqI E A (wX E ad x_imageCount x_lastTrouble x_lastFault x_lastPlace pa_names pa_faultNumber pa_faultPlace rd_tape rd_length rd_end rd_next rd_sort rd_start rd_value rd_word to_unsurePair to_unsureYears to_triedPair to_seats to_slack to_sawInches to_quarrelChance to_people to_forkBits to_unsure to_tried to_triedFedBits tf_seatOf tf_one tf_other tf_kind tf_years tf_sawn tf_pairs tf_gone bd_unsurePair bd_unsureYears bd_triedPair bd_seats bd_slack bd_sawInches bd_quarrelChance bd_people bd_forkBits bd_unsure bd_tried bd_triedFedBits bf_seatOf bf_one bf_other bf_kind bf_years bf_sawn bf_pairs bf_gone nw_seatOf nw_one nw_other nw_kind nw_years nw_sawn nw_pairs nw_gone sc_seatOf sc_handle sc_both sc_slopOf sc_forkBits sc_canBits sc_bestBits sc_bestSlops sl_bits sl_count se_bestRow se_row se_pairAt se_hope se_hopeAt se_slopAt se_farBits se_gain se_worth se_bestWorth se_fresh ch_both ch_cost ch_bit ch_items ch_leastCost ch_leastBits cl_bits cl_count fi_sets fi_count ps_act ps_whom ps_amount ps_next ps_count i0_seatOf i0_one i0_other i0_kind i0_years i0_sawn i0_pairs i0_gone i1_seatOf i1_one i1_other i1_kind i1_years i1_sawn i1_pairs i1_gone i2_seatOf i2_one i2_other i2_kind i2_years i2_sawn i2_pairs i2_gone) (some .boolean) R0) args s 0 0 A) (F0 m 55 ls []) := by
      intro H locs G
      refine lv_iconst (v := 1) hx hb dX8_wouldLeave_55 (by decide) ?_
      refine lv_goto (tgt := 60) hx hb dX8_wouldLeave_56 (by decide) ?_
      obtain rfl := Option.some.inj hf
      exact xI_ret (r := (1 : Int32)) C G rfl dX8_wouldLeave_60
    have hf := hr
    clear hr
    refine lv_if_eq (tgt := 59) hx hb dX8_wouldLeave_8 (by decide) (fun h => ?_) (fun h => ?_)
    · have hf := it_t h hf
      exact absurd (Option.some.inj hf) (by decide)
    · have hf := it_f h hf
      refine lv_iload_n hx hb dX8_wouldLeave_11 rfl (lv_at hl 2 rfl) ?_
      refine lv_iload_n hx hb dX8_wouldLeave_12 rfl (lv_at hl 1 rfl) ?_
      obtain ⟨x6, hc, hf⟩ := bd_go hf
      refine xI_S C G (c_X_has_any hc) mX10_has kX8_123 ⟨Nat.le_of_ble_eq_true rfl, Nat.le_of_ble_eq_true rfl⟩ rfl hl.1 rfl (Nat.le_of_ble_eq_true rfl) ⟨Nat.le_refl _, Nat.le_refl _⟩ dX8_wouldLeave_13 (fun hz6 H locs G => ?_)
      refine lv_if_ne (tgt := 59) hx hb dX8_wouldLeave_16 (by decide) (fun h => ?_) (fun h => ?_)
      · have hf := it_f h hf
        exact absurd (Option.some.inj hf) (by decide)
      · have hf := it_t h hf
        refine lv_aload_n hx hb dX8_wouldLeave_19 rfl (lv_at hl 0 rfl) ?_
        refine lv_aload_n hx hb dX8_wouldLeave_20 rfl (lv_at hl 0 rfl) ?_
        refine x_get C G fX8_35 (wX_at35) rfl dX8_wouldLeave_21 ?_
        refine x_get C G fX8_96 (wX_at28) rfl dX8_wouldLeave_24 ?_
        refine lv_iload_n hx hb dX8_wouldLeave_27 rfl (lv_at hl 1 rfl) ?_
        have hi := ck_in hf
        have hf := ck_go hf
        refine x_iald C G (wX_at30) hi dX8_wouldLeave_28 ?_
        refine lv_iload_n hx hb dX8_wouldLeave_29 rfl (lv_at hl 1 rfl) ?_
        refine lv_iload_n hx hb dX8_wouldLeave_30 rfl (lv_at hl 2 rfl) ?_
        obtain ⟨x7, hc, hf⟩ := bd_go hf
        refine xI_V C G (c_Scene_wouldRather_sc hc) mX8_wouldRather kX8_133 (wX_at35) rfl ⟨Nat.le_of_ble_eq_true rfl, Nat.le_of_ble_eq_true rfl⟩ rfl hl.1 rfl (Nat.le_of_ble_eq_true rfl) ⟨Nat.le_refl _, Nat.le_refl _⟩ dX8_wouldLeave_31 (fun hz7 H locs G => ?_)
        refine lv_if_eq (tgt := 59) hx hb dX8_wouldLeave_34 (by decide) (fun h => ?_) (fun h => ?_)
        · have hf := it_t h hf
          exact absurd (Option.some.inj hf) (by decide)
        · have hf := it_f h hf
          refine lv_aload_n hx hb dX8_wouldLeave_37 rfl (lv_at hl 0 rfl) ?_
          refine lv_aload_n hx hb dX8_wouldLeave_38 rfl (lv_at hl 0 rfl) ?_
          refine x_get C G fX8_35 (wX_at35) rfl dX8_wouldLeave_39 ?_
          refine x_get C G fX8_99 (wX_at28) rfl dX8_wouldLeave_42 ?_
          refine lv_iload_n hx hb dX8_wouldLeave_45 rfl (lv_at hl 1 rfl) ?_
          have hi := ck_in hf
          have hf := ck_go hf
          refine x_iald C G (wX_at31) hi dX8_wouldLeave_46 ?_
          refine lv_iload_n hx hb dX8_wouldLeave_47 rfl (lv_at hl 1 rfl) ?_
          refine lv_iload_n hx hb dX8_wouldLeave_48 rfl (lv_at hl 2 rfl) ?_
          obtain ⟨x8, hc, hf⟩ := bd_go hf
          refine xI_V C G (c_Scene_wouldRather_sc hc) mX8_wouldRather kX8_133 (wX_at35) rfl ⟨Nat.le_of_ble_eq_true rfl, Nat.le_of_ble_eq_true rfl⟩ rfl hl.1 rfl (Nat.le_of_ble_eq_true rfl) ⟨Nat.le_refl _, Nat.le_refl _⟩ dX8_wouldLeave_49 (fun hz8 H locs G => ?_)
          refine lv_if_eq (tgt := 59) hx hb dX8_wouldLeave_52 (by decide) (fun h => ?_) (fun h => ?_)
          · have hf := it_t h hf
            exact absurd (Option.some.inj hf) (by decide)
          · have hf := it_f h hf
            exact J _ _ G
set_option maxHeartbeats 4000000 in
set_option maxRecDepth 100000 in
theorem w_Scene_noneLeaves_sc_L2 {p : Program} {l : Launch} {e : Env} {s : State} {m : MethodId} {args : Array Value} {below : List Frame} {meth : Method} {c : Code} {A : Nat → Prop} {E : xE} {ad : Nat → Nat} {x_imageCount x_lastTrouble x_lastFault x_lastPlace pa_faultNumber pa_faultPlace rd_length rd_end rd_next rd_sort rd_start rd_value to_seats to_slack to_sawInches to_quarrelChance to_people to_forkBits to_unsure to_tried to_triedFedBits tf_pairs tf_gone bd_seats bd_slack bd_sawInches bd_quarrelChance bd_people bd_forkBits bd_unsure bd_tried bd_triedFedBits bf_pairs bf_gone nw_pairs nw_gone sc_forkBits sc_canBits sc_bestBits sc_bestSlops sl_count se_bestWorth se_fresh ch_items ch_leastCost ch_leastBits cl_count fi_count ps_next ps_count i0_pairs i0_gone i1_pairs i1_gone i2_pairs i2_gone : Int32} {pa_names : Nat → Int64} {rd_tape to_unsurePair to_unsureYears to_triedPair tf_seatOf tf_one tf_other tf_kind tf_years tf_sawn bd_unsurePair bd_unsureYears bd_triedPair bf_seatOf bf_one bf_other bf_kind bf_years bf_sawn nw_seatOf nw_one nw_other nw_kind nw_years nw_sawn sc_seatOf sc_handle sc_both sc_slopOf sl_bits se_bestRow se_row se_pairAt se_hope se_hopeAt se_slopAt se_farBits se_gain se_worth ch_both ch_cost ch_bit cl_bits fi_sets ps_act ps_whom ps_amount i0_seatOf i0_one i0_other i0_kind i0_years i0_sawn i1_seatOf i1_one i1_other i1_kind i1_years i1_sawn i2_seatOf i2_one i2_other i2_kind i2_years i2_sawn : Nat → Int32} {rd_word : Int64} {l1 : Int32} {o : (Int32) ⊕ (Unit)} {R0 : Int32} (C : xC p s m args meth c cX8_noneLeaves 3 RX8 E A (some .boolean)) (Jr : ∀ r, o = .inl r → r = R0) (J : ∀ t, o = .inr t → ∀ (H : Heap) (locs : List Loc) (ls : Array Slot), xG s E A (wX E ad x_imageCount x_lastTrouble x_lastFault x_lastPlace pa_names pa_faultNumber pa_faultPlace rd_tape rd_length rd_end rd_next rd_sort rd_start rd_value rd_word to_unsurePair to_unsureYears to_triedPair to_seats to_slack to_sawInches to_quarrelChance to_people to_forkBits to_unsure to_tried to_triedFedBits tf_seatOf tf_one tf_other tf_kind tf_years tf_sawn tf_pairs tf_gone bd_unsurePair bd_unsureYears bd_triedPair bd_seats bd_slack bd_sawInches bd_quarrelChance bd_people bd_forkBits bd_unsure bd_tried bd_triedFedBits bf_seatOf bf_one bf_other bf_kind bf_years bf_sawn bf_pairs bf_gone nw_seatOf nw_one nw_other nw_kind nw_years nw_sawn nw_pairs nw_gone sc_seatOf sc_handle sc_both sc_slopOf sc_forkBits sc_canBits sc_bestBits sc_bestSlops sl_bits sl_count se_bestRow se_row se_pairAt se_hope se_hopeAt se_slopAt se_farBits se_gain se_worth se_bestWorth se_fresh ch_both ch_cost ch_bit ch_items ch_leastCost ch_leastBits cl_bits cl_count fi_sets fi_count ps_act ps_whom ps_amount ps_next ps_count i0_seatOf i0_one i0_other i0_kind i0_years i0_sawn i0_pairs i0_gone i1_seatOf i1_one i1_other i1_kind i1_years i1_sawn i1_pairs i1_gone i2_seatOf i2_one i2_other i2_kind i2_years i2_sawn i2_pairs i2_gone) H locs → lv_has ls 3 [] → W p l e (xR 4 91) s m args below meth c H locs 0 0 (MQ below (xqI E A (wX E ad x_imageCount x_lastTrouble x_lastFault x_lastPlace pa_names pa_faultNumber pa_faultPlace rd_tape rd_length rd_end rd_next rd_sort rd_start rd_value rd_word to_unsurePair to_unsureYears to_triedPair to_seats to_slack to_sawInches to_quarrelChance to_people to_forkBits to_unsure to_tried to_triedFedBits tf_seatOf tf_one tf_other tf_kind tf_years tf_sawn tf_pairs tf_gone bd_unsurePair bd_unsureYears bd_triedPair bd_seats bd_slack bd_sawInches bd_quarrelChance bd_people bd_forkBits bd_unsure bd_tried bd_triedFedBits bf_seatOf bf_one bf_other bf_kind bf_years bf_sawn bf_pairs bf_gone nw_seatOf nw_one nw_other nw_kind nw_years nw_sawn nw_pairs nw_gone sc_seatOf sc_handle sc_both sc_slopOf sc_forkBits sc_canBits sc_bestBits sc_bestSlops sl_bits sl_count se_bestRow se_row se_pairAt se_hope se_hopeAt se_slopAt se_farBits se_gain se_worth se_bestWorth se_fresh ch_both ch_cost ch_bit ch_items ch_leastCost ch_leastBits cl_bits cl_count fi_sets fi_count ps_act ps_whom ps_amount ps_next ps_count i0_seatOf i0_one i0_other i0_kind i0_years i0_sawn i0_pairs i0_gone i1_seatOf i1_one i1_other i1_kind i1_years i1_sawn i1_pairs i1_gone i2_seatOf i2_one i2_other i2_kind i2_years i2_sawn i2_pairs i2_gone) (some .boolean) R0) args s 0 0 A) (F0 m 30 ls [])) :
    ∀ (n : Nat) (l2 : Int32) (H : Heap) (locs : List Loc) (ls : Array Slot), xG s E A (wX E ad x_imageCount x_lastTrouble x_lastFault x_lastPlace pa_names pa_faultNumber pa_faultPlace rd_tape rd_length rd_end rd_next rd_sort rd_start rd_value rd_word to_unsurePair to_unsureYears to_triedPair to_seats to_slack to_sawInches to_quarrelChance to_people to_forkBits to_unsure to_tried to_triedFedBits tf_seatOf tf_one tf_other tf_kind tf_years tf_sawn tf_pairs tf_gone bd_unsurePair bd_unsureYears bd_triedPair bd_seats bd_slack bd_sawInches bd_quarrelChance bd_people bd_forkBits bd_unsure bd_tried bd_triedFedBits bf_seatOf bf_one bf_other bf_kind bf_years bf_sawn bf_pairs bf_gone nw_seatOf nw_one nw_other nw_kind nw_years nw_sawn nw_pairs nw_gone sc_seatOf sc_handle sc_both sc_slopOf sc_forkBits sc_canBits sc_bestBits sc_bestSlops sl_bits sl_count se_bestRow se_row se_pairAt se_hope se_hopeAt se_slopAt se_farBits se_gain se_worth se_bestWorth se_fresh ch_both ch_cost ch_bit ch_items ch_leastCost ch_leastBits cl_bits cl_count fi_sets fi_count ps_act ps_whom ps_amount ps_next ps_count i0_seatOf i0_one i0_other i0_kind i0_years i0_sawn i0_pairs i0_gone i1_seatOf i1_one i1_other i1_kind i1_years i1_sawn i1_pairs i1_gone i2_seatOf i2_one i2_other i2_kind i2_years i2_sawn i2_pairs i2_gone) H locs → lv_has ls 3 [(0, .ref (ad 35)), (1, .int l1), (2, .int l2)] → f_Scene_noneLeaves_L2 l1 nw_one nw_other nw_pairs sc_handle sc_canBits n l2 = some o → W p l e (xR 4 91) s m args below meth c H locs 0 0 (MQ below (xqI E A (wX E ad x_imageCount x_lastTrouble x_lastFault x_lastPlace pa_names pa_faultNumber pa_faultPlace rd_tape rd_length rd_end rd_next rd_sort rd_start rd_value rd_word to_unsurePair to_unsureYears to_triedPair to_seats to_slack to_sawInches to_quarrelChance to_people to_forkBits to_unsure to_tried to_triedFedBits tf_seatOf tf_one tf_other tf_kind tf_years tf_sawn tf_pairs tf_gone bd_unsurePair bd_unsureYears bd_triedPair bd_seats bd_slack bd_sawInches bd_quarrelChance bd_people bd_forkBits bd_unsure bd_tried bd_triedFedBits bf_seatOf bf_one bf_other bf_kind bf_years bf_sawn bf_pairs bf_gone nw_seatOf nw_one nw_other nw_kind nw_years nw_sawn nw_pairs nw_gone sc_seatOf sc_handle sc_both sc_slopOf sc_forkBits sc_canBits sc_bestBits sc_bestSlops sl_bits sl_count se_bestRow se_row se_pairAt se_hope se_hopeAt se_slopAt se_farBits se_gain se_worth se_bestWorth se_fresh ch_both ch_cost ch_bit ch_items ch_leastCost ch_leastBits cl_bits cl_count fi_sets fi_count ps_act ps_whom ps_amount ps_next ps_count i0_seatOf i0_one i0_other i0_kind i0_years i0_sawn i0_pairs i0_gone i1_seatOf i1_one i1_other i1_kind i1_years i1_sawn i1_pairs i1_gone i2_seatOf i2_one i2_other i2_kind i2_years i2_sawn i2_pairs i2_gone) (some .boolean) R0) args s 0 0 A) (F0 m 2 ls []) := by
  have hx := C.1
  have hb := C.2.1
  intro n
  induction n with
  | zero =>
    intro l2 H locs ls G hl hf
    exact nomatch (show (none : Option ((Int32) ⊕ (Unit))) = some o from hf)
  | succ n ih =>
    intro l2 H locs ls G hl hf
    rw [f_Scene_noneLeaves_L2] at hf
    refine lv_iload_n hx hb dX8_noneLeaves_2 rfl (lv_at hl 2 rfl) ?_
    refine lv_aload_n hx hb dX8_noneLeaves_3 rfl (lv_at hl 0 rfl) ?_
    refine x_get C G fX8_35 (wX_at35) rfl dX8_noneLeaves_4 ?_
    refine x_get C G fX8_48.g (wX_at28) rfl dX8_noneLeaves_7 ?_
    refine lv_icmp_ge (tgt := 30) hx hb dX8_noneLeaves_10 (by decide) (fun h => ?_) (fun h => ?_)
    · have hf := it_t h hf
      exact J _ (Option.some.inj hf).symm _ _ _ G (lv_sub hl [] rfl)
    · have hf := it_f h hf
      refine lv_aload_n hx hb dX8_noneLeaves_13 rfl (lv_at hl 0 rfl) ?_
      refine lv_iload_n hx hb dX8_noneLeaves_14 rfl (lv_at hl 2 rfl) ?_
      refine lv_iload_n hx hb dX8_noneLeaves_15 rfl (lv_at hl 1 rfl) ?_
      obtain ⟨x1, hc, hf⟩ := bd_go hf
      refine xI_V C G (c_Scene_wouldLeave_sc hc) mX8_wouldLeave kX8_130 (wX_at35) rfl ⟨Nat.le_of_ble_eq_true rfl, Nat.le_of_ble_eq_true rfl⟩ rfl hl.1 rfl (Nat.le_of_ble_eq_true rfl) ⟨Nat.le_refl _, Nat.le_refl _⟩ dX8_noneLeaves_16 (fun hz1 H locs G => ?_)
      refine lv_if_eq (tgt := 24) hx hb dX8_noneLeaves_19 (by decide) (fun h => ?_) (fun h => ?_)
      · have hf := it_t h hf
        obtain ⟨x2, ex2⟩ : ∃ z : Int32, z = l2 + (1 : Int32) := ⟨_, rfl⟩
        have hf := lt_go ex2 hf
        refine lv_iinc (v := x2) (lv' := [(2, .int x2), (0, .ref (ad 35)), (1, .int l1)]) hx hb dX8_noneLeaves_24 hl (k := 2) rfl (by rw [ex2]; rfl) (by decide) rfl (fun ls hl => ?_)
        refine lv_goto (tgt := 2) hx hb dX8_noneLeaves_27 (by decide) ?_
        exact ih x2 _ _ _ G (lv_sub hl [1, 2, 0] rfl) hf
      · have hf := it_f h hf
        refine lv_iconst (v := 0) hx hb dX8_noneLeaves_22 (by decide) ?_
        obtain rfl := Jr _ (Option.some.inj hf).symm
        exact xI_ret (r := (0 : Int32)) C G rfl dX8_noneLeaves_23
set_option maxHeartbeats 4000000 in
set_option maxRecDepth 100000 in
theorem c_Scene_noneLeaves_sc {l : Launch} {E : xE} {ad : Nat → Nat} {x_imageCount x_lastTrouble x_lastFault x_lastPlace pa_faultNumber pa_faultPlace rd_length rd_end rd_next rd_sort rd_start rd_value to_seats to_slack to_sawInches to_quarrelChance to_people to_forkBits to_unsure to_tried to_triedFedBits tf_pairs tf_gone bd_seats bd_slack bd_sawInches bd_quarrelChance bd_people bd_forkBits bd_unsure bd_tried bd_triedFedBits bf_pairs bf_gone nw_pairs nw_gone sc_forkBits sc_canBits sc_bestBits sc_bestSlops sl_count se_bestWorth se_fresh ch_items ch_leastCost ch_leastBits cl_count fi_count ps_next ps_count i0_pairs i0_gone i1_pairs i1_gone i2_pairs i2_gone : Int32} {pa_names : Nat → Int64} {rd_tape to_unsurePair to_unsureYears to_triedPair tf_seatOf tf_one tf_other tf_kind tf_years tf_sawn bd_unsurePair bd_unsureYears bd_triedPair bf_seatOf bf_one bf_other bf_kind bf_years bf_sawn nw_seatOf nw_one nw_other nw_kind nw_years nw_sawn sc_seatOf sc_handle sc_both sc_slopOf sl_bits se_bestRow se_row se_pairAt se_hope se_hopeAt se_slopAt se_farBits se_gain se_worth ch_both ch_cost ch_bit cl_bits fi_sets ps_act ps_whom ps_amount i0_seatOf i0_one i0_other i0_kind i0_years i0_sawn i1_seatOf i1_one i1_other i1_kind i1_years i1_sawn i2_seatOf i2_one i2_other i2_kind i2_years i2_sawn : Nat → Int32} {rd_word : Int64} {l1 : Int32} {R0 : Int32} (hf : f_Scene_noneLeaves l1 nw_one nw_other nw_pairs sc_handle sc_canBits = some R0) : xI l E yX8_noneLeaves cX8_noneLeaves 3 (some .boolean) 4 91 [.ref (ad 35), .int l1] (wX E ad x_imageCount x_lastTrouble x_lastFault x_lastPlace pa_names pa_faultNumber pa_faultPlace rd_tape rd_length rd_end rd_next rd_sort rd_start rd_value rd_word to_unsurePair to_unsureYears to_triedPair to_seats to_slack to_sawInches to_quarrelChance to_people to_forkBits to_unsure to_tried to_triedFedBits tf_seatOf tf_one tf_other tf_kind tf_years tf_sawn tf_pairs tf_gone bd_unsurePair bd_unsureYears bd_triedPair bd_seats bd_slack bd_sawInches bd_quarrelChance bd_people bd_forkBits bd_unsure bd_tried bd_triedFedBits bf_seatOf bf_one bf_other bf_kind bf_years bf_sawn bf_pairs bf_gone nw_seatOf nw_one nw_other nw_kind nw_years nw_sawn nw_pairs nw_gone sc_seatOf sc_handle sc_both sc_slopOf sc_forkBits sc_canBits sc_bestBits sc_bestSlops sl_bits sl_count se_bestRow se_row se_pairAt se_hope se_hopeAt se_slopAt se_farBits se_gain se_worth se_bestWorth se_fresh ch_both ch_cost ch_bit ch_items ch_leastCost ch_leastBits cl_bits cl_count fi_sets fi_count ps_act ps_whom ps_amount ps_next ps_count i0_seatOf i0_one i0_other i0_kind i0_years i0_sawn i0_pairs i0_gone i1_seatOf i1_one i1_other i1_kind i1_years i1_sawn i1_pairs i1_gone i2_seatOf i2_one i2_other i2_kind i2_years i2_sawn i2_pairs i2_gone) (wX E ad x_imageCount x_lastTrouble x_lastFault x_lastPlace pa_names pa_faultNumber pa_faultPlace rd_tape rd_length rd_end rd_next rd_sort rd_start rd_value rd_word to_unsurePair to_unsureYears to_triedPair to_seats to_slack to_sawInches to_quarrelChance to_people to_forkBits to_unsure to_tried to_triedFedBits tf_seatOf tf_one tf_other tf_kind tf_years tf_sawn tf_pairs tf_gone bd_unsurePair bd_unsureYears bd_triedPair bd_seats bd_slack bd_sawInches bd_quarrelChance bd_people bd_forkBits bd_unsure bd_tried bd_triedFedBits bf_seatOf bf_one bf_other bf_kind bf_years bf_sawn bf_pairs bf_gone nw_seatOf nw_one nw_other nw_kind nw_years nw_sawn nw_pairs nw_gone sc_seatOf sc_handle sc_both sc_slopOf sc_forkBits sc_canBits sc_bestBits sc_bestSlops sl_bits sl_count se_bestRow se_row se_pairAt se_hope se_hopeAt se_slopAt se_farBits se_gain se_worth se_bestWorth se_fresh ch_both ch_cost ch_bit ch_items ch_leastCost ch_leastBits cl_bits cl_count fi_sets fi_count ps_act ps_whom ps_amount ps_next ps_count i0_seatOf i0_one i0_other i0_kind i0_years i0_sawn i0_pairs i0_gone i1_seatOf i1_one i1_other i1_kind i1_years i1_sawn i1_pairs i1_gone i2_seatOf i2_one i2_other i2_kind i2_years i2_sawn i2_pairs i2_gone) R0 := by
  refine xI_of (by decide) (Nat.le_of_ble_eq_true rfl) (fun p e s m args below meth c A C ls hl G => ?_)
  have hx := C.1
  have hb := C.2.1
  have hl : lv_has ls 3 [(0, .ref (ad 35)), (1, .int l1)] := hl
  unfold f_Scene_noneLeaves at hf
  refine lv_iconst (v := 0) hx hb dX8_noneLeaves_0 (by decide) ?_
  refine lv_istore_n (lv' := [(2, .int (0 : Int32)), (0, .ref (ad 35)), (1, .int l1)]) hx hb dX8_noneLeaves_1 rfl hl (by decide) rfl (fun ls hl => ?_)
  obtain ⟨ox3, hr, hf⟩ := bd_go hf
  have Jx3 : ∀ x3, ox3 = .inr x3 → ∀ (H : Heap) (locs : List Loc) (ls : Array Slot), xG s E A (wX E ad x_imageCount x_lastTrouble x_lastFault x_lastPlace pa_names pa_faultNumber pa_faultPlace rd_tape rd_length rd_end rd_next rd_sort rd_start rd_value rd_word to_unsurePair to_unsureYears to_triedPair to_seats to_slack to_sawInches to_quarrelChance to_people to_forkBits to_unsure to_tried to_triedFedBits tf_seatOf tf_one tf_other tf_kind tf_years tf_sawn tf_pairs tf_gone bd_unsurePair bd_unsureYears bd_triedPair bd_seats bd_slack bd_sawInches bd_quarrelChance bd_people bd_forkBits bd_unsure bd_tried bd_triedFedBits bf_seatOf bf_one bf_other bf_kind bf_years bf_sawn bf_pairs bf_gone nw_seatOf nw_one nw_other nw_kind nw_years nw_sawn nw_pairs nw_gone sc_seatOf sc_handle sc_both sc_slopOf sc_forkBits sc_canBits sc_bestBits sc_bestSlops sl_bits sl_count se_bestRow se_row se_pairAt se_hope se_hopeAt se_slopAt se_farBits se_gain se_worth se_bestWorth se_fresh ch_both ch_cost ch_bit ch_items ch_leastCost ch_leastBits cl_bits cl_count fi_sets fi_count ps_act ps_whom ps_amount ps_next ps_count i0_seatOf i0_one i0_other i0_kind i0_years i0_sawn i0_pairs i0_gone i1_seatOf i1_one i1_other i1_kind i1_years i1_sawn i1_pairs i1_gone i2_seatOf i2_one i2_other i2_kind i2_years i2_sawn i2_pairs i2_gone) H locs → lv_has ls 3 [] → W p l e (xR 4 91) s m args below meth c H locs 0 0 (MQ below (xqI E A (wX E ad x_imageCount x_lastTrouble x_lastFault x_lastPlace pa_names pa_faultNumber pa_faultPlace rd_tape rd_length rd_end rd_next rd_sort rd_start rd_value rd_word to_unsurePair to_unsureYears to_triedPair to_seats to_slack to_sawInches to_quarrelChance to_people to_forkBits to_unsure to_tried to_triedFedBits tf_seatOf tf_one tf_other tf_kind tf_years tf_sawn tf_pairs tf_gone bd_unsurePair bd_unsureYears bd_triedPair bd_seats bd_slack bd_sawInches bd_quarrelChance bd_people bd_forkBits bd_unsure bd_tried bd_triedFedBits bf_seatOf bf_one bf_other bf_kind bf_years bf_sawn bf_pairs bf_gone nw_seatOf nw_one nw_other nw_kind nw_years nw_sawn nw_pairs nw_gone sc_seatOf sc_handle sc_both sc_slopOf sc_forkBits sc_canBits sc_bestBits sc_bestSlops sl_bits sl_count se_bestRow se_row se_pairAt se_hope se_hopeAt se_slopAt se_farBits se_gain se_worth se_bestWorth se_fresh ch_both ch_cost ch_bit ch_items ch_leastCost ch_leastBits cl_bits cl_count fi_sets fi_count ps_act ps_whom ps_amount ps_next ps_count i0_seatOf i0_one i0_other i0_kind i0_years i0_sawn i0_pairs i0_gone i1_seatOf i1_one i1_other i1_kind i1_years i1_sawn i1_pairs i1_gone i2_seatOf i2_one i2_other i2_kind i2_years i2_sawn i2_pairs i2_gone) (some .boolean) R0) args s 0 0 A) (F0 m 30 ls []) := by
    intro x3 hq H locs ls G hl
    subst hq
    have hf := sm_r hf
    refine lv_iconst (v := 1) hx hb dX8_noneLeaves_30 (by decide) ?_
    obtain rfl := Option.some.inj hf
    exact xI_ret (r := (1 : Int32)) C G rfl dX8_noneLeaves_31
  have Jrx3 : ∀ r, ox3 = .inl r → r = R0 := by
    intro r hq
    subst hq
    exact Option.some.inj hf
  exact w_Scene_noneLeaves_sc_L2 C Jrx3 Jx3 fu _ _ _ _ G (lv_sub hl [1, 2, 0] rfl) hr
set_option maxHeartbeats 4000000 in
set_option maxRecDepth 100000 in
theorem w_X_stable_x_L17 {p : Program} {l : Launch} {e : Env} {s : State} {m : MethodId} {args : Array Value} {below : List Frame} {meth : Method} {c : Code} {A : Nat → Prop} {E : xE} {Q : State → Prop} {ad : Nat → Nat} {x_imageCount x_lastTrouble x_lastFault x_lastPlace pa_faultNumber pa_faultPlace rd_length rd_end rd_next rd_sort rd_start rd_value to_seats to_slack to_sawInches to_quarrelChance to_people to_forkBits to_unsure to_tried to_triedFedBits tf_pairs tf_gone bd_seats bd_slack bd_sawInches bd_quarrelChance bd_people bd_forkBits bd_unsure bd_tried bd_triedFedBits bf_pairs bf_gone nw_pairs nw_gone sc_forkBits sc_canBits sc_bestBits sc_bestSlops sl_count se_bestWorth se_fresh ch_items ch_leastCost ch_leastBits cl_count fi_count ps_next ps_count i0_pairs i0_gone i1_pairs i1_gone i2_pairs i2_gone : Int32} {pa_names : Nat → Int64} {rd_tape to_unsurePair to_unsureYears to_triedPair tf_seatOf tf_one tf_other tf_kind tf_years tf_sawn bd_unsurePair bd_unsureYears bd_triedPair bf_seatOf bf_one bf_other bf_kind bf_years bf_sawn nw_seatOf nw_one nw_other nw_kind nw_years nw_sawn sc_seatOf sc_handle sc_both sc_slopOf sl_bits se_bestRow se_row se_pairAt se_hope se_hopeAt se_slopAt se_farBits se_gain se_worth ch_both ch_cost ch_bit cl_bits fi_sets ps_act ps_whom ps_amount i0_seatOf i0_one i0_other i0_kind i0_years i0_sawn i1_seatOf i1_one i1_other i1_kind i1_years i1_sawn i2_seatOf i2_one i2_other i2_kind i2_years i2_sawn : Nat → Int32} {rd_word : Int64} {o : Int32} (C : xC p s m args meth c cX10_stable 3 RX10 E A (some .int)) (J : ∀ (H : Heap) (locs : List Loc) (ls : Array Slot), xG s E A (wX E ad x_imageCount x_lastTrouble x_lastFault x_lastPlace pa_names pa_faultNumber pa_faultPlace rd_tape rd_length rd_end rd_next rd_sort rd_start rd_value rd_word to_unsurePair to_unsureYears to_triedPair to_seats to_slack to_sawInches to_quarrelChance to_people to_forkBits to_unsure to_tried to_triedFedBits tf_seatOf tf_one tf_other tf_kind tf_years tf_sawn tf_pairs tf_gone bd_unsurePair bd_unsureYears bd_triedPair bd_seats bd_slack bd_sawInches bd_quarrelChance bd_people bd_forkBits bd_unsure bd_tried bd_triedFedBits bf_seatOf bf_one bf_other bf_kind bf_years bf_sawn bf_pairs bf_gone nw_seatOf nw_one nw_other nw_kind nw_years nw_sawn nw_pairs nw_gone sc_seatOf sc_handle sc_both sc_slopOf sc_forkBits sc_canBits sc_bestBits sc_bestSlops sl_bits sl_count se_bestRow se_row se_pairAt se_hope se_hopeAt se_slopAt se_farBits se_gain se_worth se_bestWorth se_fresh ch_both ch_cost ch_bit ch_items ch_leastCost ch_leastBits cl_bits cl_count fi_sets fi_count ps_act ps_whom ps_amount ps_next ps_count i0_seatOf i0_one i0_other i0_kind i0_years i0_sawn i0_pairs i0_gone i1_seatOf i1_one i1_other i1_kind i1_years i1_sawn i1_pairs i1_gone i2_seatOf i2_one i2_other i2_kind i2_years i2_sawn i2_pairs i2_gone) H locs → lv_has ls 3 [(1, .int o)] → W p l e (xR 6 135) s m args below meth c H locs 0 0 Q (F0 m 62 ls [])) :
    ∀ (n : Nat) (l1 : Int32) (l2 : Int32) (H : Heap) (locs : List Loc) (ls : Array Slot), xG s E A (wX E ad x_imageCount x_lastTrouble x_lastFault x_lastPlace pa_names pa_faultNumber pa_faultPlace rd_tape rd_length rd_end rd_next rd_sort rd_start rd_value rd_word to_unsurePair to_unsureYears to_triedPair to_seats to_slack to_sawInches to_quarrelChance to_people to_forkBits to_unsure to_tried to_triedFedBits tf_seatOf tf_one tf_other tf_kind tf_years tf_sawn tf_pairs tf_gone bd_unsurePair bd_unsureYears bd_triedPair bd_seats bd_slack bd_sawInches bd_quarrelChance bd_people bd_forkBits bd_unsure bd_tried bd_triedFedBits bf_seatOf bf_one bf_other bf_kind bf_years bf_sawn bf_pairs bf_gone nw_seatOf nw_one nw_other nw_kind nw_years nw_sawn nw_pairs nw_gone sc_seatOf sc_handle sc_both sc_slopOf sc_forkBits sc_canBits sc_bestBits sc_bestSlops sl_bits sl_count se_bestRow se_row se_pairAt se_hope se_hopeAt se_slopAt se_farBits se_gain se_worth se_bestWorth se_fresh ch_both ch_cost ch_bit ch_items ch_leastCost ch_leastBits cl_bits cl_count fi_sets fi_count ps_act ps_whom ps_amount ps_next ps_count i0_seatOf i0_one i0_other i0_kind i0_years i0_sawn i0_pairs i0_gone i1_seatOf i1_one i1_other i1_kind i1_years i1_sawn i1_pairs i1_gone i2_seatOf i2_one i2_other i2_kind i2_years i2_sawn i2_pairs i2_gone) H locs → lv_has ls 3 [(0, .ref (ad 0)), (1, .int l1), (2, .int l2)] → f_X_stable_L17 nw_one nw_other nw_pairs sc_handle sc_canBits sl_bits sl_count n l1 l2 = some o → W p l e (xR 6 135) s m args below meth c H locs 0 0 Q (F0 m 17 ls []) := by
  have hx := C.1
  have hb := C.2.1
  intro n
  induction n with
  | zero =>
    intro l1 l2 H locs ls G hl hf
    exact nomatch (show (none : Option (Int32)) = some o from hf)
  | succ n ih =>
    intro l1 l2 H locs ls G hl hf
    rw [f_X_stable_L17] at hf
    refine lv_iload_n hx hb dX10_stable_17 rfl (lv_at hl 2 rfl) ?_
    refine lv_aload_n hx hb dX10_stable_18 rfl (lv_at hl 0 rfl) ?_
    refine x_get C G fX10_35 (wX_at0) rfl dX10_stable_19 ?_
    refine x_get C G fX10_209 (wX_at35) rfl dX10_stable_22 ?_
    refine x_get C G fX10_213.g (wX_at40) rfl dX10_stable_25 ?_
    refine lv_icmp_ge (tgt := 62) hx hb dX10_stable_28 (by decide) (fun h => ?_) (fun h => ?_)
    · have hf := it_t h hf
      obtain rfl := Option.some.inj hf
      exact J _ _ _ G (lv_sub hl [1] rfl)
    · have hf := it_f h hf
      refine lv_aload_n hx hb dX10_stable_31 rfl (lv_at hl 0 rfl) ?_
      refine x_get C G fX10_35 (wX_at0) rfl dX10_stable_32 ?_
      refine lv_aload_n hx hb dX10_stable_35 rfl (lv_at hl 0 rfl) ?_
      refine x_get C G fX10_35 (wX_at0) rfl dX10_stable_36 ?_
      refine x_get C G fX10_209 (wX_at35) rfl dX10_stable_39 ?_
      refine x_get C G fX10_276 (wX_at40) rfl dX10_stable_42 ?_
      refine lv_iload_n hx hb dX10_stable_45 rfl (lv_at hl 2 rfl) ?_
      have hi := ck_in hf
      have hf := ck_go hf
      refine x_iald C G (wX_at41) hi dX10_stable_46 ?_
      obtain ⟨x3, hc, hf⟩ := bd_go hf
      refine xI_V C G (c_Scene_noneLeaves_sc hc) mX8_noneLeaves kX10_279 (wX_at35) rfl ⟨Nat.le_of_ble_eq_true rfl, Nat.le_of_ble_eq_true rfl⟩ rfl hl.1 rfl (Nat.le_of_ble_eq_true rfl) ⟨Nat.le_refl _, Nat.le_refl _⟩ dX10_stable_47 (fun hz3 H locs G => ?_)
      refine lv_if_eq (tgt := 56) hx hb dX10_stable_50 (by decide) (fun h => ?_) (fun h => ?_)
      · have hf := it_t h hf
        obtain ⟨x4, ex4⟩ : ∃ z : Int32, z = l2 + (1 : Int32) := ⟨_, rfl⟩
        have hf := lt_go ex4 hf
        refine lv_iinc (v := x4) (lv' := [(2, .int x4), (0, .ref (ad 0)), (1, .int l1)]) hx hb dX10_stable_56 hl (k := 2) rfl (by rw [ex4]; rfl) (by decide) rfl (fun ls hl => ?_)
        refine lv_goto (tgt := 17) hx hb dX10_stable_59 (by decide) ?_
        exact ih l1 x4 _ _ _ G (lv_sub hl [1, 2, 0] rfl) hf
      · have hf := it_f h hf
        obtain ⟨x5, ex5⟩ : ∃ z : Int32, z = l1 + (1 : Int32) := ⟨_, rfl⟩
        have hf := lt_go ex5 hf
        refine lv_iinc (v := x5) (lv' := [(1, .int x5), (0, .ref (ad 0)), (2, .int l2)]) hx hb dX10_stable_53 hl (k := 1) rfl (by rw [ex5]; rfl) (by decide) rfl (fun ls hl => ?_)
        obtain ⟨x6, ex6⟩ : ∃ z : Int32, z = l2 + (1 : Int32) := ⟨_, rfl⟩
        have hf := lt_go ex6 hf
        refine lv_iinc (v := x6) (lv' := [(2, .int x6), (1, .int x5), (0, .ref (ad 0))]) hx hb dX10_stable_56 hl (k := 2) rfl (by rw [ex6]; rfl) (by decide) rfl (fun ls hl => ?_)
        refine lv_goto (tgt := 17) hx hb dX10_stable_59 (by decide) ?_
        exact ih x5 x6 _ _ _ G (lv_sub hl [2, 1, 0] rfl) hf
set_option maxHeartbeats 4000000 in
set_option maxRecDepth 100000 in
theorem c_X_stable_x {l : Launch} {E : xE} {ad : Nat → Nat} {x_imageCount x_lastTrouble x_lastFault x_lastPlace pa_faultNumber pa_faultPlace rd_length rd_end rd_next rd_sort rd_start rd_value to_seats to_slack to_sawInches to_quarrelChance to_people to_forkBits to_unsure to_tried to_triedFedBits tf_pairs tf_gone bd_seats bd_slack bd_sawInches bd_quarrelChance bd_people bd_forkBits bd_unsure bd_tried bd_triedFedBits bf_pairs bf_gone nw_pairs nw_gone sc_forkBits sc_canBits sc_bestBits sc_bestSlops sl_count se_bestWorth se_fresh ch_items ch_leastCost ch_leastBits cl_count fi_count ps_next ps_count i0_pairs i0_gone i1_pairs i1_gone i2_pairs i2_gone : Int32} {pa_names : Nat → Int64} {rd_tape to_unsurePair to_unsureYears to_triedPair tf_seatOf tf_one tf_other tf_kind tf_years tf_sawn bd_unsurePair bd_unsureYears bd_triedPair bf_seatOf bf_one bf_other bf_kind bf_years bf_sawn nw_seatOf nw_one nw_other nw_kind nw_years nw_sawn sc_seatOf sc_handle sc_both sc_slopOf sl_bits se_bestRow se_row se_pairAt se_hope se_hopeAt se_slopAt se_farBits se_gain se_worth ch_both ch_cost ch_bit cl_bits fi_sets ps_act ps_whom ps_amount i0_seatOf i0_one i0_other i0_kind i0_years i0_sawn i1_seatOf i1_one i1_other i1_kind i1_years i1_sawn i2_seatOf i2_one i2_other i2_kind i2_years i2_sawn : Nat → Int32} {rd_word : Int64} {R0 : Int32 × Int32 × (Nat → Int32) × (Nat → Int32) × (Nat → Int32) × (Nat → Int32) × Int32 × Int32 × Int32 × Int32 × (Nat → Int32) × Int32} (hf : f_X_stable bd_slack bd_people bd_forkBits nw_seatOf nw_one nw_other nw_kind nw_years nw_sawn nw_pairs sc_seatOf sc_handle sc_both sc_slopOf sc_forkBits sc_canBits sc_bestBits sc_bestSlops sl_bits sl_count = some R0) : xI l E yX10_stable cX10_stable 3 (some .int) 6 135 [.ref (ad 0)] (wX E ad x_imageCount x_lastTrouble x_lastFault x_lastPlace pa_names pa_faultNumber pa_faultPlace rd_tape rd_length rd_end rd_next rd_sort rd_start rd_value rd_word to_unsurePair to_unsureYears to_triedPair to_seats to_slack to_sawInches to_quarrelChance to_people to_forkBits to_unsure to_tried to_triedFedBits tf_seatOf tf_one tf_other tf_kind tf_years tf_sawn tf_pairs tf_gone bd_unsurePair bd_unsureYears bd_triedPair bd_seats bd_slack bd_sawInches bd_quarrelChance bd_people bd_forkBits bd_unsure bd_tried bd_triedFedBits bf_seatOf bf_one bf_other bf_kind bf_years bf_sawn bf_pairs bf_gone nw_seatOf nw_one nw_other nw_kind nw_years nw_sawn nw_pairs nw_gone sc_seatOf sc_handle sc_both sc_slopOf sc_forkBits sc_canBits sc_bestBits sc_bestSlops sl_bits sl_count se_bestRow se_row se_pairAt se_hope se_hopeAt se_slopAt se_farBits se_gain se_worth se_bestWorth se_fresh ch_both ch_cost ch_bit ch_items ch_leastCost ch_leastBits cl_bits cl_count fi_sets fi_count ps_act ps_whom ps_amount ps_next ps_count i0_seatOf i0_one i0_other i0_kind i0_years i0_sawn i0_pairs i0_gone i1_seatOf i1_one i1_other i1_kind i1_years i1_sawn i1_pairs i1_gone i2_seatOf i2_one i2_other i2_kind i2_years i2_sawn i2_pairs i2_gone) (wX E ad x_imageCount R0.2.1 x_lastFault x_lastPlace pa_names pa_faultNumber pa_faultPlace rd_tape rd_length rd_end rd_next rd_sort rd_start rd_value rd_word to_unsurePair to_unsureYears to_triedPair to_seats to_slack to_sawInches to_quarrelChance to_people to_forkBits to_unsure to_tried to_triedFedBits tf_seatOf tf_one tf_other tf_kind tf_years tf_sawn tf_pairs tf_gone bd_unsurePair bd_unsureYears bd_triedPair bd_seats bd_slack bd_sawInches bd_quarrelChance bd_people bd_forkBits bd_unsure bd_tried bd_triedFedBits bf_seatOf bf_one bf_other bf_kind bf_years bf_sawn bf_pairs bf_gone nw_seatOf nw_one nw_other nw_kind nw_years nw_sawn nw_pairs nw_gone R0.2.2.1 R0.2.2.2.1 R0.2.2.2.2.1 R0.2.2.2.2.2.1 R0.2.2.2.2.2.2.1 R0.2.2.2.2.2.2.2.1 R0.2.2.2.2.2.2.2.2.1 R0.2.2.2.2.2.2.2.2.2.1 R0.2.2.2.2.2.2.2.2.2.2.1 R0.2.2.2.2.2.2.2.2.2.2.2 se_bestRow se_row se_pairAt se_hope se_hopeAt se_slopAt se_farBits se_gain se_worth se_bestWorth se_fresh ch_both ch_cost ch_bit ch_items ch_leastCost ch_leastBits cl_bits cl_count fi_sets fi_count ps_act ps_whom ps_amount ps_next ps_count i0_seatOf i0_one i0_other i0_kind i0_years i0_sawn i0_pairs i0_gone i1_seatOf i1_one i1_other i1_kind i1_years i1_sawn i1_pairs i1_gone i2_seatOf i2_one i2_other i2_kind i2_years i2_sawn i2_pairs i2_gone) R0.1 := by
  refine xI_of (by decide) (Nat.le_of_ble_eq_true rfl) (fun p e s m args below meth c A C ls hl G => ?_)
  have hx := C.1
  have hb := C.2.1
  have hl : lv_has ls 3 [(0, .ref (ad 0))] := hl
  unfold f_X_stable at hf
  refine lv_aload_n hx hb dX10_stable_0 rfl (lv_at hl 0 rfl) ?_
  obtain ⟨x1, hc, hf⟩ := bd_go hf
  refine xI_V C G (c_X_noTable_x hc) mX10_noTable kX10_187 (wX_at0) rfl ⟨Nat.le_of_ble_eq_true rfl, Nat.le_of_ble_eq_true rfl⟩ rfl hl.1 rfl (Nat.le_of_ble_eq_true rfl) ⟨Nat.le_refl _, Nat.le_refl _⟩ dX10_stable_1 (fun hz1 H locs G => ?_)
  refine lv_if_eq (tgt := 9) hx hb dX10_stable_4 (by decide) (fun h => ?_) (fun h => ?_)
  · have hf := it_t h hf
    refine lv_aload_n hx hb dX10_stable_9 rfl (lv_at hl 0 rfl) ?_
    obtain ⟨x2, hc, hf⟩ := bd_go hf
    refine xV_V C G (c_X_settleNow_x hc) mX10_settleNow kX10_194 (wX_at0) rfl ⟨Nat.le_of_ble_eq_true rfl, Nat.le_of_ble_eq_true rfl⟩ rfl hl.1 rfl (Nat.le_of_ble_eq_true rfl) ⟨Nat.le_refl _, Nat.le_refl _⟩ dX10_stable_10 (fun H locs G => ?_)
    refine lv_iconst (v := 0) hx hb dX10_stable_13 (by decide) ?_
    refine lv_istore_n (lv' := [(1, .int (0 : Int32)), (0, .ref (ad 0))]) hx hb dX10_stable_14 rfl hl (by decide) rfl (fun ls hl => ?_)
    refine lv_iconst (v := 0) hx hb dX10_stable_15 (by decide) ?_
    refine lv_istore_n (lv' := [(2, .int (0 : Int32)), (1, .int (0 : Int32)), (0, .ref (ad 0))]) hx hb dX10_stable_16 rfl hl (by decide) rfl (fun ls hl => ?_)
    obtain ⟨x7, hr, hf⟩ := bd_go hf
    have Jx7 : ∀ (H : Heap) (locs : List Loc) (ls : Array Slot), xG s E A (wX E ad x_imageCount x1.2 x_lastFault x_lastPlace pa_names pa_faultNumber pa_faultPlace rd_tape rd_length rd_end rd_next rd_sort rd_start rd_value rd_word to_unsurePair to_unsureYears to_triedPair to_seats to_slack to_sawInches to_quarrelChance to_people to_forkBits to_unsure to_tried to_triedFedBits tf_seatOf tf_one tf_other tf_kind tf_years tf_sawn tf_pairs tf_gone bd_unsurePair bd_unsureYears bd_triedPair bd_seats bd_slack bd_sawInches bd_quarrelChance bd_people bd_forkBits bd_unsure bd_tried bd_triedFedBits bf_seatOf bf_one bf_other bf_kind bf_years bf_sawn bf_pairs bf_gone nw_seatOf nw_one nw_other nw_kind nw_years nw_sawn nw_pairs nw_gone x2.1 x2.2.1 x2.2.2.1 x2.2.2.2.1 x2.2.2.2.2.1 x2.2.2.2.2.2.1 x2.2.2.2.2.2.2.1 x2.2.2.2.2.2.2.2.1 x2.2.2.2.2.2.2.2.2.1 x2.2.2.2.2.2.2.2.2.2 se_bestRow se_row se_pairAt se_hope se_hopeAt se_slopAt se_farBits se_gain se_worth se_bestWorth se_fresh ch_both ch_cost ch_bit ch_items ch_leastCost ch_leastBits cl_bits cl_count fi_sets fi_count ps_act ps_whom ps_amount ps_next ps_count i0_seatOf i0_one i0_other i0_kind i0_years i0_sawn i0_pairs i0_gone i1_seatOf i1_one i1_other i1_kind i1_years i1_sawn i1_pairs i1_gone i2_seatOf i2_one i2_other i2_kind i2_years i2_sawn i2_pairs i2_gone) H locs → lv_has ls 3 [(1, .int x7)] → W p l e (xR 6 135) s m args below meth c H locs 0 0 (MQ below (xqI E A (wX E ad x_imageCount R0.2.1 x_lastFault x_lastPlace pa_names pa_faultNumber pa_faultPlace rd_tape rd_length rd_end rd_next rd_sort rd_start rd_value rd_word to_unsurePair to_unsureYears to_triedPair to_seats to_slack to_sawInches to_quarrelChance to_people to_forkBits to_unsure to_tried to_triedFedBits tf_seatOf tf_one tf_other tf_kind tf_years tf_sawn tf_pairs tf_gone bd_unsurePair bd_unsureYears bd_triedPair bd_seats bd_slack bd_sawInches bd_quarrelChance bd_people bd_forkBits bd_unsure bd_tried bd_triedFedBits bf_seatOf bf_one bf_other bf_kind bf_years bf_sawn bf_pairs bf_gone nw_seatOf nw_one nw_other nw_kind nw_years nw_sawn nw_pairs nw_gone R0.2.2.1 R0.2.2.2.1 R0.2.2.2.2.1 R0.2.2.2.2.2.1 R0.2.2.2.2.2.2.1 R0.2.2.2.2.2.2.2.1 R0.2.2.2.2.2.2.2.2.1 R0.2.2.2.2.2.2.2.2.2.1 R0.2.2.2.2.2.2.2.2.2.2.1 R0.2.2.2.2.2.2.2.2.2.2.2 se_bestRow se_row se_pairAt se_hope se_hopeAt se_slopAt se_farBits se_gain se_worth se_bestWorth se_fresh ch_both ch_cost ch_bit ch_items ch_leastCost ch_leastBits cl_bits cl_count fi_sets fi_count ps_act ps_whom ps_amount ps_next ps_count i0_seatOf i0_one i0_other i0_kind i0_years i0_sawn i0_pairs i0_gone i1_seatOf i1_one i1_other i1_kind i1_years i1_sawn i1_pairs i1_gone i2_seatOf i2_one i2_other i2_kind i2_years i2_sawn i2_pairs i2_gone) (some .int) R0.1) args s 0 0 A) (F0 m 62 ls []) := by
      intro H locs ls G hl
      refine lv_iload_n hx hb dX10_stable_62 rfl (lv_at hl 0 rfl) ?_
      obtain rfl := Option.some.inj hf
      exact xI_ret C G rfl dX10_stable_63
    exact w_X_stable_x_L17 C Jx7 fu _ _ _ _ _ G (lv_sub hl [2, 1, 0] rfl) hr
  · have hf := it_f h hf
    refine lv_iconst (v := -1) hx hb dX10_stable_7 (by decide) ?_
    obtain rfl := Option.some.inj hf
    exact xI_ret C G rfl dX10_stable_8
set_option maxHeartbeats 4000000 in
set_option maxRecDepth 100000 in
theorem w_X_stableAt_x_L17 {p : Program} {l : Launch} {e : Env} {s : State} {m : MethodId} {args : Array Value} {below : List Frame} {meth : Method} {c : Code} {A : Nat → Prop} {E : xE} {ad : Nat → Nat} {x_imageCount x_lastTrouble x_lastFault x_lastPlace pa_faultNumber pa_faultPlace rd_length rd_end rd_next rd_sort rd_start rd_value to_seats to_slack to_sawInches to_quarrelChance to_people to_forkBits to_unsure to_tried to_triedFedBits tf_pairs tf_gone bd_seats bd_slack bd_sawInches bd_quarrelChance bd_people bd_forkBits bd_unsure bd_tried bd_triedFedBits bf_pairs bf_gone nw_pairs nw_gone sc_forkBits sc_canBits sc_bestBits sc_bestSlops sl_count se_bestWorth se_fresh ch_items ch_leastCost ch_leastBits cl_count fi_count ps_next ps_count i0_pairs i0_gone i1_pairs i1_gone i2_pairs i2_gone : Int32} {pa_names : Nat → Int64} {rd_tape to_unsurePair to_unsureYears to_triedPair tf_seatOf tf_one tf_other tf_kind tf_years tf_sawn bd_unsurePair bd_unsureYears bd_triedPair bf_seatOf bf_one bf_other bf_kind bf_years bf_sawn nw_seatOf nw_one nw_other nw_kind nw_years nw_sawn sc_seatOf sc_handle sc_both sc_slopOf sl_bits se_bestRow se_row se_pairAt se_hope se_hopeAt se_slopAt se_farBits se_gain se_worth ch_both ch_cost ch_bit cl_bits fi_sets ps_act ps_whom ps_amount i0_seatOf i0_one i0_other i0_kind i0_years i0_sawn i1_seatOf i1_one i1_other i1_kind i1_years i1_sawn i2_seatOf i2_one i2_other i2_kind i2_years i2_sawn : Nat → Int32} {rd_word : Int64} {l1 : Int32} {o : (Int32 × Int32 × (Nat → Int32) × (Nat → Int32) × (Nat → Int32) × (Nat → Int32) × Int32 × Int32 × Int32 × Int32 × (Nat → Int32) × Int32) ⊕ (Unit)} {R0 : Int32 × Int32 × (Nat → Int32) × (Nat → Int32) × (Nat → Int32) × (Nat → Int32) × Int32 × Int32 × Int32 × Int32 × (Nat → Int32) × Int32} (C : xC p s m args meth c cX10_stableAt 4 RX10 E A (some .int)) (Jr : ∀ r, o = .inl r → r = R0) (J : ∀ t, o = .inr t → ∀ (H : Heap) (locs : List Loc) (ls : Array Slot), xG s E A (wX E ad x_imageCount x_lastTrouble x_lastFault x_lastPlace pa_names pa_faultNumber pa_faultPlace rd_tape rd_length rd_end rd_next rd_sort rd_start rd_value rd_word to_unsurePair to_unsureYears to_triedPair to_seats to_slack to_sawInches to_quarrelChance to_people to_forkBits to_unsure to_tried to_triedFedBits tf_seatOf tf_one tf_other tf_kind tf_years tf_sawn tf_pairs tf_gone bd_unsurePair bd_unsureYears bd_triedPair bd_seats bd_slack bd_sawInches bd_quarrelChance bd_people bd_forkBits bd_unsure bd_tried bd_triedFedBits bf_seatOf bf_one bf_other bf_kind bf_years bf_sawn bf_pairs bf_gone nw_seatOf nw_one nw_other nw_kind nw_years nw_sawn nw_pairs nw_gone sc_seatOf sc_handle sc_both sc_slopOf sc_forkBits sc_canBits sc_bestBits sc_bestSlops sl_bits sl_count se_bestRow se_row se_pairAt se_hope se_hopeAt se_slopAt se_farBits se_gain se_worth se_bestWorth se_fresh ch_both ch_cost ch_bit ch_items ch_leastCost ch_leastBits cl_bits cl_count fi_sets fi_count ps_act ps_whom ps_amount ps_next ps_count i0_seatOf i0_one i0_other i0_kind i0_years i0_sawn i0_pairs i0_gone i1_seatOf i1_one i1_other i1_kind i1_years i1_sawn i1_pairs i1_gone i2_seatOf i2_one i2_other i2_kind i2_years i2_sawn i2_pairs i2_gone) H locs → lv_has ls 4 [(0, .ref (ad 0))] → W p l e (xR 6 135) s m args below meth c H locs 0 0 (MQ below (xqI E A (wX E ad x_imageCount R0.2.1 x_lastFault x_lastPlace pa_names pa_faultNumber pa_faultPlace rd_tape rd_length rd_end rd_next rd_sort rd_start rd_value rd_word to_unsurePair to_unsureYears to_triedPair to_seats to_slack to_sawInches to_quarrelChance to_people to_forkBits to_unsure to_tried to_triedFedBits tf_seatOf tf_one tf_other tf_kind tf_years tf_sawn tf_pairs tf_gone bd_unsurePair bd_unsureYears bd_triedPair bd_seats bd_slack bd_sawInches bd_quarrelChance bd_people bd_forkBits bd_unsure bd_tried bd_triedFedBits bf_seatOf bf_one bf_other bf_kind bf_years bf_sawn bf_pairs bf_gone nw_seatOf nw_one nw_other nw_kind nw_years nw_sawn nw_pairs nw_gone R0.2.2.1 R0.2.2.2.1 R0.2.2.2.2.1 R0.2.2.2.2.2.1 R0.2.2.2.2.2.2.1 R0.2.2.2.2.2.2.2.1 R0.2.2.2.2.2.2.2.2.1 R0.2.2.2.2.2.2.2.2.2.1 R0.2.2.2.2.2.2.2.2.2.2.1 R0.2.2.2.2.2.2.2.2.2.2.2 se_bestRow se_row se_pairAt se_hope se_hopeAt se_slopAt se_farBits se_gain se_worth se_bestWorth se_fresh ch_both ch_cost ch_bit ch_items ch_leastCost ch_leastBits cl_bits cl_count fi_sets fi_count ps_act ps_whom ps_amount ps_next ps_count i0_seatOf i0_one i0_other i0_kind i0_years i0_sawn i0_pairs i0_gone i1_seatOf i1_one i1_other i1_kind i1_years i1_sawn i1_pairs i1_gone i2_seatOf i2_one i2_other i2_kind i2_years i2_sawn i2_pairs i2_gone) (some .int) R0.1) args s 0 0 A) (F0 m 80 ls [])) :
    ∀ (n : Nat) (l2 : Int32) (l3 : Int32) (H : Heap) (locs : List Loc) (ls : Array Slot), xG s E A (wX E ad x_imageCount x_lastTrouble x_lastFault x_lastPlace pa_names pa_faultNumber pa_faultPlace rd_tape rd_length rd_end rd_next rd_sort rd_start rd_value rd_word to_unsurePair to_unsureYears to_triedPair to_seats to_slack to_sawInches to_quarrelChance to_people to_forkBits to_unsure to_tried to_triedFedBits tf_seatOf tf_one tf_other tf_kind tf_years tf_sawn tf_pairs tf_gone bd_unsurePair bd_unsureYears bd_triedPair bd_seats bd_slack bd_sawInches bd_quarrelChance bd_people bd_forkBits bd_unsure bd_tried bd_triedFedBits bf_seatOf bf_one bf_other bf_kind bf_years bf_sawn bf_pairs bf_gone nw_seatOf nw_one nw_other nw_kind nw_years nw_sawn nw_pairs nw_gone sc_seatOf sc_handle sc_both sc_slopOf sc_forkBits sc_canBits sc_bestBits sc_bestSlops sl_bits sl_count se_bestRow se_row se_pairAt se_hope se_hopeAt se_slopAt se_farBits se_gain se_worth se_bestWorth se_fresh ch_both ch_cost ch_bit ch_items ch_leastCost ch_leastBits cl_bits cl_count fi_sets fi_count ps_act ps_whom ps_amount ps_next ps_count i0_seatOf i0_one i0_other i0_kind i0_years i0_sawn i0_pairs i0_gone i1_seatOf i1_one i1_other i1_kind i1_years i1_sawn i1_pairs i1_gone i2_seatOf i2_one i2_other i2_kind i2_years i2_sawn i2_pairs i2_gone) H locs → lv_has ls 4 [(0, .ref (ad 0)), (1, .int l1), (2, .int l2), (3, .int l3)] → f_X_stableAt_L17 l1 x_lastTrouble nw_one nw_other nw_pairs sc_seatOf sc_handle sc_both sc_slopOf sc_forkBits sc_canBits sc_bestBits sc_bestSlops sl_bits sl_count n l2 l3 = some o → W p l e (xR 6 135) s m args below meth c H locs 0 0 (MQ below (xqI E A (wX E ad x_imageCount R0.2.1 x_lastFault x_lastPlace pa_names pa_faultNumber pa_faultPlace rd_tape rd_length rd_end rd_next rd_sort rd_start rd_value rd_word to_unsurePair to_unsureYears to_triedPair to_seats to_slack to_sawInches to_quarrelChance to_people to_forkBits to_unsure to_tried to_triedFedBits tf_seatOf tf_one tf_other tf_kind tf_years tf_sawn tf_pairs tf_gone bd_unsurePair bd_unsureYears bd_triedPair bd_seats bd_slack bd_sawInches bd_quarrelChance bd_people bd_forkBits bd_unsure bd_tried bd_triedFedBits bf_seatOf bf_one bf_other bf_kind bf_years bf_sawn bf_pairs bf_gone nw_seatOf nw_one nw_other nw_kind nw_years nw_sawn nw_pairs nw_gone R0.2.2.1 R0.2.2.2.1 R0.2.2.2.2.1 R0.2.2.2.2.2.1 R0.2.2.2.2.2.2.1 R0.2.2.2.2.2.2.2.1 R0.2.2.2.2.2.2.2.2.1 R0.2.2.2.2.2.2.2.2.2.1 R0.2.2.2.2.2.2.2.2.2.2.1 R0.2.2.2.2.2.2.2.2.2.2.2 se_bestRow se_row se_pairAt se_hope se_hopeAt se_slopAt se_farBits se_gain se_worth se_bestWorth se_fresh ch_both ch_cost ch_bit ch_items ch_leastCost ch_leastBits cl_bits cl_count fi_sets fi_count ps_act ps_whom ps_amount ps_next ps_count i0_seatOf i0_one i0_other i0_kind i0_years i0_sawn i0_pairs i0_gone i1_seatOf i1_one i1_other i1_kind i1_years i1_sawn i1_pairs i1_gone i2_seatOf i2_one i2_other i2_kind i2_years i2_sawn i2_pairs i2_gone) (some .int) R0.1) args s 0 0 A) (F0 m 17 ls []) := by
  have hx := C.1
  have hb := C.2.1
  intro n
  induction n with
  | zero =>
    intro l2 l3 H locs ls G hl hf
    exact nomatch (show (none : Option ((Int32 × Int32 × (Nat → Int32) × (Nat → Int32) × (Nat → Int32) × (Nat → Int32) × Int32 × Int32 × Int32 × Int32 × (Nat → Int32) × Int32) ⊕ (Unit))) = some o from hf)
  | succ n ih =>
    intro l2 l3 H locs ls G hl hf
    rw [f_X_stableAt_L17] at hf
    refine lv_iload_n hx hb dX10_stableAt_17 rfl (lv_at hl 3 rfl) ?_
    refine lv_aload_n hx hb dX10_stableAt_18 rfl (lv_at hl 0 rfl) ?_
    refine x_get C G fX10_35 (wX_at0) rfl dX10_stableAt_19 ?_
    refine x_get C G fX10_209 (wX_at35) rfl dX10_stableAt_22 ?_
    refine x_get C G fX10_213.g (wX_at40) rfl dX10_stableAt_25 ?_
    refine lv_icmp_ge (tgt := 80) hx hb dX10_stableAt_28 (by decide) (fun h => ?_) (fun h => ?_)
    · have hf := it_t h hf
      exact J _ (Option.some.inj hf).symm _ _ _ G (lv_sub hl [0] rfl)
    · have hf := it_f h hf
      refine lv_aload_n hx hb dX10_stableAt_31 rfl (lv_at hl 0 rfl) ?_
      refine x_get C G fX10_35 (wX_at0) rfl dX10_stableAt_32 ?_
      refine lv_aload_n hx hb dX10_stableAt_35 rfl (lv_at hl 0 rfl) ?_
      refine x_get C G fX10_35 (wX_at0) rfl dX10_stableAt_36 ?_
      refine x_get C G fX10_209 (wX_at35) rfl dX10_stableAt_39 ?_
      refine x_get C G fX10_276 (wX_at40) rfl dX10_stableAt_42 ?_
      refine lv_iload_n hx hb dX10_stableAt_45 rfl (lv_at hl 3 rfl) ?_
      have hi := ck_in hf
      have hf := ck_go hf
      refine x_iald C G (wX_at41) hi dX10_stableAt_46 ?_
      obtain ⟨x3, hc, hf⟩ := bd_go hf
      refine xI_V C G (c_Scene_noneLeaves_sc hc) mX8_noneLeaves kX10_279 (wX_at35) rfl ⟨Nat.le_of_ble_eq_true rfl, Nat.le_of_ble_eq_true rfl⟩ rfl hl.1 rfl (Nat.le_of_ble_eq_true rfl) ⟨Nat.le_refl _, Nat.le_refl _⟩ dX10_stableAt_47 (fun hz3 H locs G => ?_)
      refine lv_if_eq (tgt := 74) hx hb dX10_stableAt_50 (by decide) (fun h => ?_) (fun h => ?_)
      · have hf := it_t h hf
        obtain ⟨x4, ex4⟩ : ∃ z : Int32, z = l3 + (1 : Int32) := ⟨_, rfl⟩
        have hf := lt_go ex4 hf
        refine lv_iinc (v := x4) (lv' := [(3, .int x4), (0, .ref (ad 0)), (1, .int l1), (2, .int l2)]) hx hb dX10_stableAt_74 hl (k := 3) rfl (by rw [ex4]; rfl) (by decide) rfl (fun ls hl => ?_)
        refine lv_goto (tgt := 17) hx hb dX10_stableAt_77 (by decide) ?_
        exact ih l2 x4 _ _ _ G (lv_sub hl [1, 2, 3, 0] rfl) hf
      · have hf := it_f h hf
        refine lv_iload_n hx hb dX10_stableAt_53 rfl (lv_at hl 2 rfl) ?_
        refine lv_iload_n hx hb dX10_stableAt_54 rfl (lv_at hl 1 rfl) ?_
        refine lv_icmp_ne (tgt := 71) hx hb dX10_stableAt_55 (by decide) (fun h => ?_) (fun h => ?_)
        · have hf := it_f h hf
          obtain ⟨x5, ex5⟩ : ∃ z : Int32, z = l2 + (1 : Int32) := ⟨_, rfl⟩
          have hf := lt_go ex5 hf
          refine lv_iinc (v := x5) (lv' := [(2, .int x5), (0, .ref (ad 0)), (1, .int l1), (3, .int l3)]) hx hb dX10_stableAt_71 hl (k := 2) rfl (by rw [ex5]; rfl) (by decide) rfl (fun ls hl => ?_)
          obtain ⟨x6, ex6⟩ : ∃ z : Int32, z = l3 + (1 : Int32) := ⟨_, rfl⟩
          have hf := lt_go ex6 hf
          refine lv_iinc (v := x6) (lv' := [(3, .int x6), (2, .int x5), (0, .ref (ad 0)), (1, .int l1)]) hx hb dX10_stableAt_74 hl (k := 3) rfl (by rw [ex6]; rfl) (by decide) rfl (fun ls hl => ?_)
          refine lv_goto (tgt := 17) hx hb dX10_stableAt_77 (by decide) ?_
          exact ih x5 x6 _ _ _ G (lv_sub hl [2, 3, 1, 0] rfl) hf
        · have hf := it_t h hf
          refine lv_aload_n hx hb dX10_stableAt_58 rfl (lv_at hl 0 rfl) ?_
          refine x_get C G fX10_35 (wX_at0) rfl dX10_stableAt_59 ?_
          refine x_get C G fX10_209 (wX_at35) rfl dX10_stableAt_62 ?_
          refine x_get C G fX10_276 (wX_at40) rfl dX10_stableAt_65 ?_
          refine lv_iload_n hx hb dX10_stableAt_68 rfl (lv_at hl 3 rfl) ?_
          have hi := ck_in hf
          have hf := ck_go hf
          refine x_iald C G (wX_at41) hi dX10_stableAt_69 ?_
          obtain rfl := Jr _ (Option.some.inj hf).symm
          exact xI_ret C G rfl dX10_stableAt_70
set_option maxHeartbeats 4000000 in
set_option maxRecDepth 100000 in
theorem c_X_stableAt_x {l : Launch} {E : xE} {ad : Nat → Nat} {x_imageCount x_lastTrouble x_lastFault x_lastPlace pa_faultNumber pa_faultPlace rd_length rd_end rd_next rd_sort rd_start rd_value to_seats to_slack to_sawInches to_quarrelChance to_people to_forkBits to_unsure to_tried to_triedFedBits tf_pairs tf_gone bd_seats bd_slack bd_sawInches bd_quarrelChance bd_people bd_forkBits bd_unsure bd_tried bd_triedFedBits bf_pairs bf_gone nw_pairs nw_gone sc_forkBits sc_canBits sc_bestBits sc_bestSlops sl_count se_bestWorth se_fresh ch_items ch_leastCost ch_leastBits cl_count fi_count ps_next ps_count i0_pairs i0_gone i1_pairs i1_gone i2_pairs i2_gone : Int32} {pa_names : Nat → Int64} {rd_tape to_unsurePair to_unsureYears to_triedPair tf_seatOf tf_one tf_other tf_kind tf_years tf_sawn bd_unsurePair bd_unsureYears bd_triedPair bf_seatOf bf_one bf_other bf_kind bf_years bf_sawn nw_seatOf nw_one nw_other nw_kind nw_years nw_sawn sc_seatOf sc_handle sc_both sc_slopOf sl_bits se_bestRow se_row se_pairAt se_hope se_hopeAt se_slopAt se_farBits se_gain se_worth ch_both ch_cost ch_bit cl_bits fi_sets ps_act ps_whom ps_amount i0_seatOf i0_one i0_other i0_kind i0_years i0_sawn i1_seatOf i1_one i1_other i1_kind i1_years i1_sawn i2_seatOf i2_one i2_other i2_kind i2_years i2_sawn : Nat → Int32} {rd_word : Int64} {l1 : Int32} {R0 : Int32 × Int32 × (Nat → Int32) × (Nat → Int32) × (Nat → Int32) × (Nat → Int32) × Int32 × Int32 × Int32 × Int32 × (Nat → Int32) × Int32} (hf : f_X_stableAt l1 bd_slack bd_people bd_forkBits nw_seatOf nw_one nw_other nw_kind nw_years nw_sawn nw_pairs sc_seatOf sc_handle sc_both sc_slopOf sc_forkBits sc_canBits sc_bestBits sc_bestSlops sl_bits sl_count = some R0) : xI l E yX10_stableAt cX10_stableAt 4 (some .int) 6 135 [.ref (ad 0), .int l1] (wX E ad x_imageCount x_lastTrouble x_lastFault x_lastPlace pa_names pa_faultNumber pa_faultPlace rd_tape rd_length rd_end rd_next rd_sort rd_start rd_value rd_word to_unsurePair to_unsureYears to_triedPair to_seats to_slack to_sawInches to_quarrelChance to_people to_forkBits to_unsure to_tried to_triedFedBits tf_seatOf tf_one tf_other tf_kind tf_years tf_sawn tf_pairs tf_gone bd_unsurePair bd_unsureYears bd_triedPair bd_seats bd_slack bd_sawInches bd_quarrelChance bd_people bd_forkBits bd_unsure bd_tried bd_triedFedBits bf_seatOf bf_one bf_other bf_kind bf_years bf_sawn bf_pairs bf_gone nw_seatOf nw_one nw_other nw_kind nw_years nw_sawn nw_pairs nw_gone sc_seatOf sc_handle sc_both sc_slopOf sc_forkBits sc_canBits sc_bestBits sc_bestSlops sl_bits sl_count se_bestRow se_row se_pairAt se_hope se_hopeAt se_slopAt se_farBits se_gain se_worth se_bestWorth se_fresh ch_both ch_cost ch_bit ch_items ch_leastCost ch_leastBits cl_bits cl_count fi_sets fi_count ps_act ps_whom ps_amount ps_next ps_count i0_seatOf i0_one i0_other i0_kind i0_years i0_sawn i0_pairs i0_gone i1_seatOf i1_one i1_other i1_kind i1_years i1_sawn i1_pairs i1_gone i2_seatOf i2_one i2_other i2_kind i2_years i2_sawn i2_pairs i2_gone) (wX E ad x_imageCount R0.2.1 x_lastFault x_lastPlace pa_names pa_faultNumber pa_faultPlace rd_tape rd_length rd_end rd_next rd_sort rd_start rd_value rd_word to_unsurePair to_unsureYears to_triedPair to_seats to_slack to_sawInches to_quarrelChance to_people to_forkBits to_unsure to_tried to_triedFedBits tf_seatOf tf_one tf_other tf_kind tf_years tf_sawn tf_pairs tf_gone bd_unsurePair bd_unsureYears bd_triedPair bd_seats bd_slack bd_sawInches bd_quarrelChance bd_people bd_forkBits bd_unsure bd_tried bd_triedFedBits bf_seatOf bf_one bf_other bf_kind bf_years bf_sawn bf_pairs bf_gone nw_seatOf nw_one nw_other nw_kind nw_years nw_sawn nw_pairs nw_gone R0.2.2.1 R0.2.2.2.1 R0.2.2.2.2.1 R0.2.2.2.2.2.1 R0.2.2.2.2.2.2.1 R0.2.2.2.2.2.2.2.1 R0.2.2.2.2.2.2.2.2.1 R0.2.2.2.2.2.2.2.2.2.1 R0.2.2.2.2.2.2.2.2.2.2.1 R0.2.2.2.2.2.2.2.2.2.2.2 se_bestRow se_row se_pairAt se_hope se_hopeAt se_slopAt se_farBits se_gain se_worth se_bestWorth se_fresh ch_both ch_cost ch_bit ch_items ch_leastCost ch_leastBits cl_bits cl_count fi_sets fi_count ps_act ps_whom ps_amount ps_next ps_count i0_seatOf i0_one i0_other i0_kind i0_years i0_sawn i0_pairs i0_gone i1_seatOf i1_one i1_other i1_kind i1_years i1_sawn i1_pairs i1_gone i2_seatOf i2_one i2_other i2_kind i2_years i2_sawn i2_pairs i2_gone) R0.1 := by
  refine xI_of (by decide) (Nat.le_of_ble_eq_true rfl) (fun p e s m args below meth c A C ls hl G => ?_)
  have hx := C.1
  have hb := C.2.1
  have hl : lv_has ls 4 [(0, .ref (ad 0)), (1, .int l1)] := hl
  unfold f_X_stableAt at hf
  refine lv_aload_n hx hb dX10_stableAt_0 rfl (lv_at hl 0 rfl) ?_
  obtain ⟨x1, hc, hf⟩ := bd_go hf
  refine xI_V C G (c_X_noTable_x hc) mX10_noTable kX10_187 (wX_at0) rfl ⟨Nat.le_of_ble_eq_true rfl, Nat.le_of_ble_eq_true rfl⟩ rfl hl.1 rfl (Nat.le_of_ble_eq_true rfl) ⟨Nat.le_refl _, Nat.le_refl _⟩ dX10_stableAt_1 (fun hz1 H locs G => ?_)
  refine lv_if_eq (tgt := 9) hx hb dX10_stableAt_4 (by decide) (fun h => ?_) (fun h => ?_)
  · have hf := it_t h hf
    refine lv_aload_n hx hb dX10_stableAt_9 rfl (lv_at hl 0 rfl) ?_
    obtain ⟨x2, hc, hf⟩ := bd_go hf
    refine xV_V C G (c_X_settleNow_x hc) mX10_settleNow kX10_194 (wX_at0) rfl ⟨Nat.le_of_ble_eq_true rfl, Nat.le_of_ble_eq_true rfl⟩ rfl hl.1 rfl (Nat.le_of_ble_eq_true rfl) ⟨Nat.le_refl _, Nat.le_refl _⟩ dX10_stableAt_10 (fun H locs G => ?_)
    refine lv_iconst (v := 0) hx hb dX10_stableAt_13 (by decide) ?_
    refine lv_istore_n (lv' := [(2, .int (0 : Int32)), (0, .ref (ad 0)), (1, .int l1)]) hx hb dX10_stableAt_14 rfl hl (by decide) rfl (fun ls hl => ?_)
    refine lv_iconst (v := 0) hx hb dX10_stableAt_15 (by decide) ?_
    refine lv_istore_n (lv' := [(3, .int (0 : Int32)), (2, .int (0 : Int32)), (0, .ref (ad 0)), (1, .int l1)]) hx hb dX10_stableAt_16 rfl hl (by decide) rfl (fun ls hl => ?_)
    obtain ⟨ox7, hr, hf⟩ := bd_go hf
    have Jx7 : ∀ x7, ox7 = .inr x7 → ∀ (H : Heap) (locs : List Loc) (ls : Array Slot), xG s E A (wX E ad x_imageCount x1.2 x_lastFault x_lastPlace pa_names pa_faultNumber pa_faultPlace rd_tape rd_length rd_end rd_next rd_sort rd_start rd_value rd_word to_unsurePair to_unsureYears to_triedPair to_seats to_slack to_sawInches to_quarrelChance to_people to_forkBits to_unsure to_tried to_triedFedBits tf_seatOf tf_one tf_other tf_kind tf_years tf_sawn tf_pairs tf_gone bd_unsurePair bd_unsureYears bd_triedPair bd_seats bd_slack bd_sawInches bd_quarrelChance bd_people bd_forkBits bd_unsure bd_tried bd_triedFedBits bf_seatOf bf_one bf_other bf_kind bf_years bf_sawn bf_pairs bf_gone nw_seatOf nw_one nw_other nw_kind nw_years nw_sawn nw_pairs nw_gone x2.1 x2.2.1 x2.2.2.1 x2.2.2.2.1 x2.2.2.2.2.1 x2.2.2.2.2.2.1 x2.2.2.2.2.2.2.1 x2.2.2.2.2.2.2.2.1 x2.2.2.2.2.2.2.2.2.1 x2.2.2.2.2.2.2.2.2.2 se_bestRow se_row se_pairAt se_hope se_hopeAt se_slopAt se_farBits se_gain se_worth se_bestWorth se_fresh ch_both ch_cost ch_bit ch_items ch_leastCost ch_leastBits cl_bits cl_count fi_sets fi_count ps_act ps_whom ps_amount ps_next ps_count i0_seatOf i0_one i0_other i0_kind i0_years i0_sawn i0_pairs i0_gone i1_seatOf i1_one i1_other i1_kind i1_years i1_sawn i1_pairs i1_gone i2_seatOf i2_one i2_other i2_kind i2_years i2_sawn i2_pairs i2_gone) H locs → lv_has ls 4 [(0, .ref (ad 0))] → W p l e (xR 6 135) s m args below meth c H locs 0 0 (MQ below (xqI E A (wX E ad x_imageCount R0.2.1 x_lastFault x_lastPlace pa_names pa_faultNumber pa_faultPlace rd_tape rd_length rd_end rd_next rd_sort rd_start rd_value rd_word to_unsurePair to_unsureYears to_triedPair to_seats to_slack to_sawInches to_quarrelChance to_people to_forkBits to_unsure to_tried to_triedFedBits tf_seatOf tf_one tf_other tf_kind tf_years tf_sawn tf_pairs tf_gone bd_unsurePair bd_unsureYears bd_triedPair bd_seats bd_slack bd_sawInches bd_quarrelChance bd_people bd_forkBits bd_unsure bd_tried bd_triedFedBits bf_seatOf bf_one bf_other bf_kind bf_years bf_sawn bf_pairs bf_gone nw_seatOf nw_one nw_other nw_kind nw_years nw_sawn nw_pairs nw_gone R0.2.2.1 R0.2.2.2.1 R0.2.2.2.2.1 R0.2.2.2.2.2.1 R0.2.2.2.2.2.2.1 R0.2.2.2.2.2.2.2.1 R0.2.2.2.2.2.2.2.2.1 R0.2.2.2.2.2.2.2.2.2.1 R0.2.2.2.2.2.2.2.2.2.2.1 R0.2.2.2.2.2.2.2.2.2.2.2 se_bestRow se_row se_pairAt se_hope se_hopeAt se_slopAt se_farBits se_gain se_worth se_bestWorth se_fresh ch_both ch_cost ch_bit ch_items ch_leastCost ch_leastBits cl_bits cl_count fi_sets fi_count ps_act ps_whom ps_amount ps_next ps_count i0_seatOf i0_one i0_other i0_kind i0_years i0_sawn i0_pairs i0_gone i1_seatOf i1_one i1_other i1_kind i1_years i1_sawn i1_pairs i1_gone i2_seatOf i2_one i2_other i2_kind i2_years i2_sawn i2_pairs i2_gone) (some .int) R0.1) args s 0 0 A) (F0 m 80 ls []) := by
      intro x7 hq H locs ls G hl
      subst hq
      have hf := sm_r hf
      refine lv_aload_n hx hb dX10_stableAt_80 rfl (lv_at hl 0 rfl) ?_
      refine lv_iconst (v := 1) hx hb dX10_stableAt_81 (by decide) ?_
      obtain ⟨x8, hc, hf⟩ := bd_go hf
      refine xI_V C G (c_X_refused_x hc) mX10_refused kX10_87 (wX_at0) rfl ⟨Nat.le_of_ble_eq_true rfl, Nat.le_of_ble_eq_true rfl⟩ rfl hl.1 rfl (Nat.le_of_ble_eq_true rfl) ⟨Nat.le_refl _, Nat.le_refl _⟩ dX10_stableAt_82 (fun hz H locs G => ?_)
      obtain rfl := Option.some.inj hf
      exact xI_ret C G rfl dX10_stableAt_85
    have Jrx7 : ∀ r, ox7 = .inl r → r = R0 := by
      intro r hq
      subst hq
      exact Option.some.inj hf
    exact w_X_stableAt_x_L17 C Jrx7 Jx7 fu _ _ _ _ _ G (lv_sub hl [2, 3, 1, 0] rfl) hr
  · have hf := it_f h hf
    refine lv_iconst (v := -1) hx hb dX10_stableAt_7 (by decide) ?_
    obtain rfl := Option.some.inj hf
    exact xI_ret C G rfl dX10_stableAt_8
set_option maxHeartbeats 4000000 in
set_option maxRecDepth 100000 in
theorem w_X_leaves_x_L15 {p : Program} {l : Launch} {e : Env} {s : State} {m : MethodId} {args : Array Value} {below : List Frame} {meth : Method} {c : Code} {A : Nat → Prop} {E : xE} {ad : Nat → Nat} {x_imageCount x_lastTrouble x_lastFault x_lastPlace pa_faultNumber pa_faultPlace rd_length rd_end rd_next rd_sort rd_start rd_value to_seats to_slack to_sawInches to_quarrelChance to_people to_forkBits to_unsure to_tried to_triedFedBits tf_pairs tf_gone bd_seats bd_slack bd_sawInches bd_quarrelChance bd_people bd_forkBits bd_unsure bd_tried bd_triedFedBits bf_pairs bf_gone nw_pairs nw_gone sc_forkBits sc_canBits sc_bestBits sc_bestSlops sl_count se_bestWorth se_fresh ch_items ch_leastCost ch_leastBits cl_count fi_count ps_next ps_count i0_pairs i0_gone i1_pairs i1_gone i2_pairs i2_gone : Int32} {pa_names : Nat → Int64} {rd_tape to_unsurePair to_unsureYears to_triedPair tf_seatOf tf_one tf_other tf_kind tf_years tf_sawn bd_unsurePair bd_unsureYears bd_triedPair bf_seatOf bf_one bf_other bf_kind bf_years bf_sawn nw_seatOf nw_one nw_other nw_kind nw_years nw_sawn sc_seatOf sc_handle sc_both sc_slopOf sl_bits se_bestRow se_row se_pairAt se_hope se_hopeAt se_slopAt se_farBits se_gain se_worth ch_both ch_cost ch_bit cl_bits fi_sets ps_act ps_whom ps_amount i0_seatOf i0_one i0_other i0_kind i0_years i0_sawn i1_seatOf i1_one i1_other i1_kind i1_years i1_sawn i2_seatOf i2_one i2_other i2_kind i2_years i2_sawn : Nat → Int32} {rd_word : Int64} {o : (Int32 × Int32 × (Nat → Int32) × (Nat → Int32) × (Nat → Int32) × (Nat → Int32) × Int32 × Int32 × Int32 × Int32 × (Nat → Int32) × Int32) ⊕ (Unit)} {R0 : Int32 × Int32 × (Nat → Int32) × (Nat → Int32) × (Nat → Int32) × (Nat → Int32) × Int32 × Int32 × Int32 × Int32 × (Nat → Int32) × Int32} (C : xC p s m args meth c cX10_leaves 2 RX10 E A (some .int)) (Jr : ∀ r, o = .inl r → r = R0) (J : ∀ t, o = .inr t → ∀ (H : Heap) (locs : List Loc) (ls : Array Slot), xG s E A (wX E ad x_imageCount x_lastTrouble x_lastFault x_lastPlace pa_names pa_faultNumber pa_faultPlace rd_tape rd_length rd_end rd_next rd_sort rd_start rd_value rd_word to_unsurePair to_unsureYears to_triedPair to_seats to_slack to_sawInches to_quarrelChance to_people to_forkBits to_unsure to_tried to_triedFedBits tf_seatOf tf_one tf_other tf_kind tf_years tf_sawn tf_pairs tf_gone bd_unsurePair bd_unsureYears bd_triedPair bd_seats bd_slack bd_sawInches bd_quarrelChance bd_people bd_forkBits bd_unsure bd_tried bd_triedFedBits bf_seatOf bf_one bf_other bf_kind bf_years bf_sawn bf_pairs bf_gone nw_seatOf nw_one nw_other nw_kind nw_years nw_sawn nw_pairs nw_gone sc_seatOf sc_handle sc_both sc_slopOf sc_forkBits sc_canBits sc_bestBits sc_bestSlops sl_bits sl_count se_bestRow se_row se_pairAt se_hope se_hopeAt se_slopAt se_farBits se_gain se_worth se_bestWorth se_fresh ch_both ch_cost ch_bit ch_items ch_leastCost ch_leastBits cl_bits cl_count fi_sets fi_count ps_act ps_whom ps_amount ps_next ps_count i0_seatOf i0_one i0_other i0_kind i0_years i0_sawn i0_pairs i0_gone i1_seatOf i1_one i1_other i1_kind i1_years i1_sawn i1_pairs i1_gone i2_seatOf i2_one i2_other i2_kind i2_years i2_sawn i2_pairs i2_gone) H locs → lv_has ls 2 [] → W p l e (xR 6 135) s m args below meth c H locs 0 0 (MQ below (xqI E A (wX E ad x_imageCount R0.2.1 x_lastFault x_lastPlace pa_names pa_faultNumber pa_faultPlace rd_tape rd_length rd_end rd_next rd_sort rd_start rd_value rd_word to_unsurePair to_unsureYears to_triedPair to_seats to_slack to_sawInches to_quarrelChance to_people to_forkBits to_unsure to_tried to_triedFedBits tf_seatOf tf_one tf_other tf_kind tf_years tf_sawn tf_pairs tf_gone bd_unsurePair bd_unsureYears bd_triedPair bd_seats bd_slack bd_sawInches bd_quarrelChance bd_people bd_forkBits bd_unsure bd_tried bd_triedFedBits bf_seatOf bf_one bf_other bf_kind bf_years bf_sawn bf_pairs bf_gone nw_seatOf nw_one nw_other nw_kind nw_years nw_sawn nw_pairs nw_gone R0.2.2.1 R0.2.2.2.1 R0.2.2.2.2.1 R0.2.2.2.2.2.1 R0.2.2.2.2.2.2.1 R0.2.2.2.2.2.2.2.1 R0.2.2.2.2.2.2.2.2.1 R0.2.2.2.2.2.2.2.2.2.1 R0.2.2.2.2.2.2.2.2.2.2.1 R0.2.2.2.2.2.2.2.2.2.2.2 se_bestRow se_row se_pairAt se_hope se_hopeAt se_slopAt se_farBits se_gain se_worth se_bestWorth se_fresh ch_both ch_cost ch_bit ch_items ch_leastCost ch_leastBits cl_bits cl_count fi_sets fi_count ps_act ps_whom ps_amount ps_next ps_count i0_seatOf i0_one i0_other i0_kind i0_years i0_sawn i0_pairs i0_gone i1_seatOf i1_one i1_other i1_kind i1_years i1_sawn i1_pairs i1_gone i2_seatOf i2_one i2_other i2_kind i2_years i2_sawn i2_pairs i2_gone) (some .int) R0.1) args s 0 0 A) (F0 m 52 ls [])) :
    ∀ (n : Nat) (l1 : Int32) (H : Heap) (locs : List Loc) (ls : Array Slot), xG s E A (wX E ad x_imageCount x_lastTrouble x_lastFault x_lastPlace pa_names pa_faultNumber pa_faultPlace rd_tape rd_length rd_end rd_next rd_sort rd_start rd_value rd_word to_unsurePair to_unsureYears to_triedPair to_seats to_slack to_sawInches to_quarrelChance to_people to_forkBits to_unsure to_tried to_triedFedBits tf_seatOf tf_one tf_other tf_kind tf_years tf_sawn tf_pairs tf_gone bd_unsurePair bd_unsureYears bd_triedPair bd_seats bd_slack bd_sawInches bd_quarrelChance bd_people bd_forkBits bd_unsure bd_tried bd_triedFedBits bf_seatOf bf_one bf_other bf_kind bf_years bf_sawn bf_pairs bf_gone nw_seatOf nw_one nw_other nw_kind nw_years nw_sawn nw_pairs nw_gone sc_seatOf sc_handle sc_both sc_slopOf sc_forkBits sc_canBits sc_bestBits sc_bestSlops sl_bits sl_count se_bestRow se_row se_pairAt se_hope se_hopeAt se_slopAt se_farBits se_gain se_worth se_bestWorth se_fresh ch_both ch_cost ch_bit ch_items ch_leastCost ch_leastBits cl_bits cl_count fi_sets fi_count ps_act ps_whom ps_amount ps_next ps_count i0_seatOf i0_one i0_other i0_kind i0_years i0_sawn i0_pairs i0_gone i1_seatOf i1_one i1_other i1_kind i1_years i1_sawn i1_pairs i1_gone i2_seatOf i2_one i2_other i2_kind i2_years i2_sawn i2_pairs i2_gone) H locs → lv_has ls 2 [(0, .ref (ad 0)), (1, .int l1)] → f_X_leaves_L15 x_lastTrouble nw_one nw_other nw_pairs sc_seatOf sc_handle sc_both sc_slopOf sc_forkBits sc_canBits sc_bestBits sc_bestSlops sl_bits sl_count n l1 = some o → W p l e (xR 6 135) s m args below meth c H locs 0 0 (MQ below (xqI E A (wX E ad x_imageCount R0.2.1 x_lastFault x_lastPlace pa_names pa_faultNumber pa_faultPlace rd_tape rd_length rd_end rd_next rd_sort rd_start rd_value rd_word to_unsurePair to_unsureYears to_triedPair to_seats to_slack to_sawInches to_quarrelChance to_people to_forkBits to_unsure to_tried to_triedFedBits tf_seatOf tf_one tf_other tf_kind tf_years tf_sawn tf_pairs tf_gone bd_unsurePair bd_unsureYears bd_triedPair bd_seats bd_slack bd_sawInches bd_quarrelChance bd_people bd_forkBits bd_unsure bd_tried bd_triedFedBits bf_seatOf bf_one bf_other bf_kind bf_years bf_sawn bf_pairs bf_gone nw_seatOf nw_one nw_other nw_kind nw_years nw_sawn nw_pairs nw_gone R0.2.2.1 R0.2.2.2.1 R0.2.2.2.2.1 R0.2.2.2.2.2.1 R0.2.2.2.2.2.2.1 R0.2.2.2.2.2.2.2.1 R0.2.2.2.2.2.2.2.2.1 R0.2.2.2.2.2.2.2.2.2.1 R0.2.2.2.2.2.2.2.2.2.2.1 R0.2.2.2.2.2.2.2.2.2.2.2 se_bestRow se_row se_pairAt se_hope se_hopeAt se_slopAt se_farBits se_gain se_worth se_bestWorth se_fresh ch_both ch_cost ch_bit ch_items ch_leastCost ch_leastBits cl_bits cl_count fi_sets fi_count ps_act ps_whom ps_amount ps_next ps_count i0_seatOf i0_one i0_other i0_kind i0_years i0_sawn i0_pairs i0_gone i1_seatOf i1_one i1_other i1_kind i1_years i1_sawn i1_pairs i1_gone i2_seatOf i2_one i2_other i2_kind i2_years i2_sawn i2_pairs i2_gone) (some .int) R0.1) args s 0 0 A) (F0 m 15 ls []) := by
  have hx := C.1
  have hb := C.2.1
  intro n
  induction n with
  | zero =>
    intro l1 H locs ls G hl hf
    exact nomatch (show (none : Option ((Int32 × Int32 × (Nat → Int32) × (Nat → Int32) × (Nat → Int32) × (Nat → Int32) × Int32 × Int32 × Int32 × Int32 × (Nat → Int32) × Int32) ⊕ (Unit))) = some o from hf)
  | succ n ih =>
    intro l1 H locs ls G hl hf
    rw [f_X_leaves_L15] at hf
    refine lv_iload_n hx hb dX10_leaves_15 rfl (lv_at hl 1 rfl) ?_
    refine lv_aload_n hx hb dX10_leaves_16 rfl (lv_at hl 0 rfl) ?_
    refine x_get C G fX10_26 (wX_at0) rfl dX10_leaves_17 ?_
    refine x_get C G fX10_282.g (wX_at28) rfl dX10_leaves_20 ?_
    refine lv_icmp_ge (tgt := 52) hx hb dX10_leaves_23 (by decide) (fun h => ?_) (fun h => ?_)
    · have hf := it_t h hf
      exact J _ (Option.some.inj hf).symm _ _ _ G (lv_sub hl [] rfl)
    · have hf := it_f h hf
      refine lv_aload_n hx hb dX10_leaves_26 rfl (lv_at hl 0 rfl) ?_
      refine x_get C G fX10_35 (wX_at0) rfl dX10_leaves_27 ?_
      refine lv_iload_n hx hb dX10_leaves_30 rfl (lv_at hl 1 rfl) ?_
      refine lv_aload_n hx hb dX10_leaves_31 rfl (lv_at hl 0 rfl) ?_
      refine x_get C G fX10_35 (wX_at0) rfl dX10_leaves_32 ?_
      refine x_get C G fX10_197.g (wX_at35) rfl dX10_leaves_35 ?_
      obtain ⟨x3, hc, hf⟩ := bd_go hf
      refine xI_V C G (c_Scene_wouldLeave_sc hc) mX8_wouldLeave kX10_285 (wX_at35) rfl ⟨Nat.le_of_ble_eq_true rfl, Nat.le_of_ble_eq_true rfl⟩ rfl hl.1 rfl (Nat.le_of_ble_eq_true rfl) ⟨Nat.le_refl _, Nat.le_refl _⟩ dX10_leaves_38 (fun hz3 H locs G => ?_)
      refine lv_if_eq (tgt := 46) hx hb dX10_leaves_41 (by decide) (fun h => ?_) (fun h => ?_)
      · have hf := it_t h hf
        obtain ⟨x4, ex4⟩ : ∃ z : Int32, z = l1 + (1 : Int32) := ⟨_, rfl⟩
        have hf := lt_go ex4 hf
        refine lv_iinc (v := x4) (lv' := [(1, .int x4), (0, .ref (ad 0))]) hx hb dX10_leaves_46 hl (k := 1) rfl (by rw [ex4]; rfl) (by decide) rfl (fun ls hl => ?_)
        refine lv_goto (tgt := 15) hx hb dX10_leaves_49 (by decide) ?_
        exact ih x4 _ _ _ G (lv_sub hl [1, 0] rfl) hf
      · have hf := it_f h hf
        refine lv_iload_n hx hb dX10_leaves_44 rfl (lv_at hl 1 rfl) ?_
        obtain rfl := Jr _ (Option.some.inj hf).symm
        exact xI_ret C G rfl dX10_leaves_45
set_option maxHeartbeats 4000000 in
set_option maxRecDepth 100000 in
theorem c_X_leaves_x {l : Launch} {E : xE} {ad : Nat → Nat} {x_imageCount x_lastTrouble x_lastFault x_lastPlace pa_faultNumber pa_faultPlace rd_length rd_end rd_next rd_sort rd_start rd_value to_seats to_slack to_sawInches to_quarrelChance to_people to_forkBits to_unsure to_tried to_triedFedBits tf_pairs tf_gone bd_seats bd_slack bd_sawInches bd_quarrelChance bd_people bd_forkBits bd_unsure bd_tried bd_triedFedBits bf_pairs bf_gone nw_pairs nw_gone sc_forkBits sc_canBits sc_bestBits sc_bestSlops sl_count se_bestWorth se_fresh ch_items ch_leastCost ch_leastBits cl_count fi_count ps_next ps_count i0_pairs i0_gone i1_pairs i1_gone i2_pairs i2_gone : Int32} {pa_names : Nat → Int64} {rd_tape to_unsurePair to_unsureYears to_triedPair tf_seatOf tf_one tf_other tf_kind tf_years tf_sawn bd_unsurePair bd_unsureYears bd_triedPair bf_seatOf bf_one bf_other bf_kind bf_years bf_sawn nw_seatOf nw_one nw_other nw_kind nw_years nw_sawn sc_seatOf sc_handle sc_both sc_slopOf sl_bits se_bestRow se_row se_pairAt se_hope se_hopeAt se_slopAt se_farBits se_gain se_worth ch_both ch_cost ch_bit cl_bits fi_sets ps_act ps_whom ps_amount i0_seatOf i0_one i0_other i0_kind i0_years i0_sawn i1_seatOf i1_one i1_other i1_kind i1_years i1_sawn i2_seatOf i2_one i2_other i2_kind i2_years i2_sawn : Nat → Int32} {rd_word : Int64} {R0 : Int32 × Int32 × (Nat → Int32) × (Nat → Int32) × (Nat → Int32) × (Nat → Int32) × Int32 × Int32 × Int32 × Int32 × (Nat → Int32) × Int32} (hf : f_X_leaves bd_slack bd_people bd_forkBits nw_seatOf nw_one nw_other nw_kind nw_years nw_sawn nw_pairs sc_seatOf sc_handle sc_both sc_slopOf sc_forkBits sc_canBits sc_bestBits sc_bestSlops sl_bits sl_count = some R0) : xI l E yX10_leaves cX10_leaves 2 (some .int) 6 135 [.ref (ad 0)] (wX E ad x_imageCount x_lastTrouble x_lastFault x_lastPlace pa_names pa_faultNumber pa_faultPlace rd_tape rd_length rd_end rd_next rd_sort rd_start rd_value rd_word to_unsurePair to_unsureYears to_triedPair to_seats to_slack to_sawInches to_quarrelChance to_people to_forkBits to_unsure to_tried to_triedFedBits tf_seatOf tf_one tf_other tf_kind tf_years tf_sawn tf_pairs tf_gone bd_unsurePair bd_unsureYears bd_triedPair bd_seats bd_slack bd_sawInches bd_quarrelChance bd_people bd_forkBits bd_unsure bd_tried bd_triedFedBits bf_seatOf bf_one bf_other bf_kind bf_years bf_sawn bf_pairs bf_gone nw_seatOf nw_one nw_other nw_kind nw_years nw_sawn nw_pairs nw_gone sc_seatOf sc_handle sc_both sc_slopOf sc_forkBits sc_canBits sc_bestBits sc_bestSlops sl_bits sl_count se_bestRow se_row se_pairAt se_hope se_hopeAt se_slopAt se_farBits se_gain se_worth se_bestWorth se_fresh ch_both ch_cost ch_bit ch_items ch_leastCost ch_leastBits cl_bits cl_count fi_sets fi_count ps_act ps_whom ps_amount ps_next ps_count i0_seatOf i0_one i0_other i0_kind i0_years i0_sawn i0_pairs i0_gone i1_seatOf i1_one i1_other i1_kind i1_years i1_sawn i1_pairs i1_gone i2_seatOf i2_one i2_other i2_kind i2_years i2_sawn i2_pairs i2_gone) (wX E ad x_imageCount R0.2.1 x_lastFault x_lastPlace pa_names pa_faultNumber pa_faultPlace rd_tape rd_length rd_end rd_next rd_sort rd_start rd_value rd_word to_unsurePair to_unsureYears to_triedPair to_seats to_slack to_sawInches to_quarrelChance to_people to_forkBits to_unsure to_tried to_triedFedBits tf_seatOf tf_one tf_other tf_kind tf_years tf_sawn tf_pairs tf_gone bd_unsurePair bd_unsureYears bd_triedPair bd_seats bd_slack bd_sawInches bd_quarrelChance bd_people bd_forkBits bd_unsure bd_tried bd_triedFedBits bf_seatOf bf_one bf_other bf_kind bf_years bf_sawn bf_pairs bf_gone nw_seatOf nw_one nw_other nw_kind nw_years nw_sawn nw_pairs nw_gone R0.2.2.1 R0.2.2.2.1 R0.2.2.2.2.1 R0.2.2.2.2.2.1 R0.2.2.2.2.2.2.1 R0.2.2.2.2.2.2.2.1 R0.2.2.2.2.2.2.2.2.1 R0.2.2.2.2.2.2.2.2.2.1 R0.2.2.2.2.2.2.2.2.2.2.1 R0.2.2.2.2.2.2.2.2.2.2.2 se_bestRow se_row se_pairAt se_hope se_hopeAt se_slopAt se_farBits se_gain se_worth se_bestWorth se_fresh ch_both ch_cost ch_bit ch_items ch_leastCost ch_leastBits cl_bits cl_count fi_sets fi_count ps_act ps_whom ps_amount ps_next ps_count i0_seatOf i0_one i0_other i0_kind i0_years i0_sawn i0_pairs i0_gone i1_seatOf i1_one i1_other i1_kind i1_years i1_sawn i1_pairs i1_gone i2_seatOf i2_one i2_other i2_kind i2_years i2_sawn i2_pairs i2_gone) R0.1 := by
  refine xI_of (by decide) (Nat.le_of_ble_eq_true rfl) (fun p e s m args below meth c A C ls hl G => ?_)
  have hx := C.1
  have hb := C.2.1
  have hl : lv_has ls 2 [(0, .ref (ad 0))] := hl
  unfold f_X_leaves at hf
  refine lv_aload_n hx hb dX10_leaves_0 rfl (lv_at hl 0 rfl) ?_
  obtain ⟨x1, hc, hf⟩ := bd_go hf
  refine xI_V C G (c_X_noTable_x hc) mX10_noTable kX10_187 (wX_at0) rfl ⟨Nat.le_of_ble_eq_true rfl, Nat.le_of_ble_eq_true rfl⟩ rfl hl.1 rfl (Nat.le_of_ble_eq_true rfl) ⟨Nat.le_refl _, Nat.le_refl _⟩ dX10_leaves_1 (fun hz1 H locs G => ?_)
  refine lv_if_eq (tgt := 9) hx hb dX10_leaves_4 (by decide) (fun h => ?_) (fun h => ?_)
  · have hf := it_t h hf
    refine lv_aload_n hx hb dX10_leaves_9 rfl (lv_at hl 0 rfl) ?_
    obtain ⟨x2, hc, hf⟩ := bd_go hf
    refine xV_V C G (c_X_settleNow_x hc) mX10_settleNow kX10_194 (wX_at0) rfl ⟨Nat.le_of_ble_eq_true rfl, Nat.le_of_ble_eq_true rfl⟩ rfl hl.1 rfl (Nat.le_of_ble_eq_true rfl) ⟨Nat.le_refl _, Nat.le_refl _⟩ dX10_leaves_10 (fun H locs G => ?_)
    refine lv_iconst (v := 0) hx hb dX10_leaves_13 (by decide) ?_
    refine lv_istore_n (lv' := [(1, .int (0 : Int32)), (0, .ref (ad 0))]) hx hb dX10_leaves_14 rfl hl (by decide) rfl (fun ls hl => ?_)
    obtain ⟨ox5, hr, hf⟩ := bd_go hf
    have Jx5 : ∀ x5, ox5 = .inr x5 → ∀ (H : Heap) (locs : List Loc) (ls : Array Slot), xG s E A (wX E ad x_imageCount x1.2 x_lastFault x_lastPlace pa_names pa_faultNumber pa_faultPlace rd_tape rd_length rd_end rd_next rd_sort rd_start rd_value rd_word to_unsurePair to_unsureYears to_triedPair to_seats to_slack to_sawInches to_quarrelChance to_people to_forkBits to_unsure to_tried to_triedFedBits tf_seatOf tf_one tf_other tf_kind tf_years tf_sawn tf_pairs tf_gone bd_unsurePair bd_unsureYears bd_triedPair bd_seats bd_slack bd_sawInches bd_quarrelChance bd_people bd_forkBits bd_unsure bd_tried bd_triedFedBits bf_seatOf bf_one bf_other bf_kind bf_years bf_sawn bf_pairs bf_gone nw_seatOf nw_one nw_other nw_kind nw_years nw_sawn nw_pairs nw_gone x2.1 x2.2.1 x2.2.2.1 x2.2.2.2.1 x2.2.2.2.2.1 x2.2.2.2.2.2.1 x2.2.2.2.2.2.2.1 x2.2.2.2.2.2.2.2.1 x2.2.2.2.2.2.2.2.2.1 x2.2.2.2.2.2.2.2.2.2 se_bestRow se_row se_pairAt se_hope se_hopeAt se_slopAt se_farBits se_gain se_worth se_bestWorth se_fresh ch_both ch_cost ch_bit ch_items ch_leastCost ch_leastBits cl_bits cl_count fi_sets fi_count ps_act ps_whom ps_amount ps_next ps_count i0_seatOf i0_one i0_other i0_kind i0_years i0_sawn i0_pairs i0_gone i1_seatOf i1_one i1_other i1_kind i1_years i1_sawn i1_pairs i1_gone i2_seatOf i2_one i2_other i2_kind i2_years i2_sawn i2_pairs i2_gone) H locs → lv_has ls 2 [] → W p l e (xR 6 135) s m args below meth c H locs 0 0 (MQ below (xqI E A (wX E ad x_imageCount R0.2.1 x_lastFault x_lastPlace pa_names pa_faultNumber pa_faultPlace rd_tape rd_length rd_end rd_next rd_sort rd_start rd_value rd_word to_unsurePair to_unsureYears to_triedPair to_seats to_slack to_sawInches to_quarrelChance to_people to_forkBits to_unsure to_tried to_triedFedBits tf_seatOf tf_one tf_other tf_kind tf_years tf_sawn tf_pairs tf_gone bd_unsurePair bd_unsureYears bd_triedPair bd_seats bd_slack bd_sawInches bd_quarrelChance bd_people bd_forkBits bd_unsure bd_tried bd_triedFedBits bf_seatOf bf_one bf_other bf_kind bf_years bf_sawn bf_pairs bf_gone nw_seatOf nw_one nw_other nw_kind nw_years nw_sawn nw_pairs nw_gone R0.2.2.1 R0.2.2.2.1 R0.2.2.2.2.1 R0.2.2.2.2.2.1 R0.2.2.2.2.2.2.1 R0.2.2.2.2.2.2.2.1 R0.2.2.2.2.2.2.2.2.1 R0.2.2.2.2.2.2.2.2.2.1 R0.2.2.2.2.2.2.2.2.2.2.1 R0.2.2.2.2.2.2.2.2.2.2.2 se_bestRow se_row se_pairAt se_hope se_hopeAt se_slopAt se_farBits se_gain se_worth se_bestWorth se_fresh ch_both ch_cost ch_bit ch_items ch_leastCost ch_leastBits cl_bits cl_count fi_sets fi_count ps_act ps_whom ps_amount ps_next ps_count i0_seatOf i0_one i0_other i0_kind i0_years i0_sawn i0_pairs i0_gone i1_seatOf i1_one i1_other i1_kind i1_years i1_sawn i1_pairs i1_gone i2_seatOf i2_one i2_other i2_kind i2_years i2_sawn i2_pairs i2_gone) (some .int) R0.1) args s 0 0 A) (F0 m 52 ls []) := by
      intro x5 hq H locs ls G hl
      subst hq
      have hf := sm_r hf
      refine lv_bipush (v := -2) hx hb dX10_leaves_52 (by decide) ?_
      obtain rfl := Option.some.inj hf
      exact xI_ret C G rfl dX10_leaves_54
    have Jrx5 : ∀ r, ox5 = .inl r → r = R0 := by
      intro r hq
      subst hq
      exact Option.some.inj hf
    exact w_X_leaves_x_L15 C Jrx5 Jx5 fu _ _ _ _ G (lv_sub hl [1, 0] rfl) hr
  · have hf := it_f h hf
    refine lv_iconst (v := -1) hx hb dX10_leaves_7 (by decide) ?_
    obtain rfl := Option.some.inj hf
    exact xI_ret C G rfl dX10_leaves_8
set_option maxHeartbeats 4000000 in
set_option maxRecDepth 100000 in
theorem c_Now_handleBehind_bf {l : Launch} {E : xE} {ad : Nat → Nat} {x_imageCount x_lastTrouble x_lastFault x_lastPlace pa_faultNumber pa_faultPlace rd_length rd_end rd_next rd_sort rd_start rd_value to_seats to_slack to_sawInches to_quarrelChance to_people to_forkBits to_unsure to_tried to_triedFedBits tf_pairs tf_gone bd_seats bd_slack bd_sawInches bd_quarrelChance bd_people bd_forkBits bd_unsure bd_tried bd_triedFedBits bf_pairs bf_gone nw_pairs nw_gone sc_forkBits sc_canBits sc_bestBits sc_bestSlops sl_count se_bestWorth se_fresh ch_items ch_leastCost ch_leastBits cl_count fi_count ps_next ps_count i0_pairs i0_gone i1_pairs i1_gone i2_pairs i2_gone : Int32} {pa_names : Nat → Int64} {rd_tape to_unsurePair to_unsureYears to_triedPair tf_seatOf tf_one tf_other tf_kind tf_years tf_sawn bd_unsurePair bd_unsureYears bd_triedPair bf_seatOf bf_one bf_other bf_kind bf_years bf_sawn nw_seatOf nw_one nw_other nw_kind nw_years nw_sawn sc_seatOf sc_handle sc_both sc_slopOf sl_bits se_bestRow se_row se_pairAt se_hope se_hopeAt se_slopAt se_farBits se_gain se_worth ch_both ch_cost ch_bit cl_bits fi_sets ps_act ps_whom ps_amount i0_seatOf i0_one i0_other i0_kind i0_years i0_sawn i1_seatOf i1_one i1_other i1_kind i1_years i1_sawn i2_seatOf i2_one i2_other i2_kind i2_years i2_sawn : Nat → Int32} {rd_word : Int64} {l1 : Int32} {l2 : Int32} {R0 : Int32} (hf : f_Now_handleBehind l1 l2 bf_kind bf_years bf_sawn = some R0) : xI l E yX4_handleBehind cX4_handleBehind 3 (some .int) 1 21 [.ref (ad 21), .int l1, .int l2] (wX E ad x_imageCount x_lastTrouble x_lastFault x_lastPlace pa_names pa_faultNumber pa_faultPlace rd_tape rd_length rd_end rd_next rd_sort rd_start rd_value rd_word to_unsurePair to_unsureYears to_triedPair to_seats to_slack to_sawInches to_quarrelChance to_people to_forkBits to_unsure to_tried to_triedFedBits tf_seatOf tf_one tf_other tf_kind tf_years tf_sawn tf_pairs tf_gone bd_unsurePair bd_unsureYears bd_triedPair bd_seats bd_slack bd_sawInches bd_quarrelChance bd_people bd_forkBits bd_unsure bd_tried bd_triedFedBits bf_seatOf bf_one bf_other bf_kind bf_years bf_sawn bf_pairs bf_gone nw_seatOf nw_one nw_other nw_kind nw_years nw_sawn nw_pairs nw_gone sc_seatOf sc_handle sc_both sc_slopOf sc_forkBits sc_canBits sc_bestBits sc_bestSlops sl_bits sl_count se_bestRow se_row se_pairAt se_hope se_hopeAt se_slopAt se_farBits se_gain se_worth se_bestWorth se_fresh ch_both ch_cost ch_bit ch_items ch_leastCost ch_leastBits cl_bits cl_count fi_sets fi_count ps_act ps_whom ps_amount ps_next ps_count i0_seatOf i0_one i0_other i0_kind i0_years i0_sawn i0_pairs i0_gone i1_seatOf i1_one i1_other i1_kind i1_years i1_sawn i1_pairs i1_gone i2_seatOf i2_one i2_other i2_kind i2_years i2_sawn i2_pairs i2_gone) (wX E ad x_imageCount x_lastTrouble x_lastFault x_lastPlace pa_names pa_faultNumber pa_faultPlace rd_tape rd_length rd_end rd_next rd_sort rd_start rd_value rd_word to_unsurePair to_unsureYears to_triedPair to_seats to_slack to_sawInches to_quarrelChance to_people to_forkBits to_unsure to_tried to_triedFedBits tf_seatOf tf_one tf_other tf_kind tf_years tf_sawn tf_pairs tf_gone bd_unsurePair bd_unsureYears bd_triedPair bd_seats bd_slack bd_sawInches bd_quarrelChance bd_people bd_forkBits bd_unsure bd_tried bd_triedFedBits bf_seatOf bf_one bf_other bf_kind bf_years bf_sawn bf_pairs bf_gone nw_seatOf nw_one nw_other nw_kind nw_years nw_sawn nw_pairs nw_gone sc_seatOf sc_handle sc_both sc_slopOf sc_forkBits sc_canBits sc_bestBits sc_bestSlops sl_bits sl_count se_bestRow se_row se_pairAt se_hope se_hopeAt se_slopAt se_farBits se_gain se_worth se_bestWorth se_fresh ch_both ch_cost ch_bit ch_items ch_leastCost ch_leastBits cl_bits cl_count fi_sets fi_count ps_act ps_whom ps_amount ps_next ps_count i0_seatOf i0_one i0_other i0_kind i0_years i0_sawn i0_pairs i0_gone i1_seatOf i1_one i1_other i1_kind i1_years i1_sawn i1_pairs i1_gone i2_seatOf i2_one i2_other i2_kind i2_years i2_sawn i2_pairs i2_gone) R0 := by
  refine xI_of (by decide) (Nat.le_of_ble_eq_true rfl) (fun p e s m args below meth c A C ls hl G => ?_)
  have hx := C.1
  have hb := C.2.1
  have hl : lv_has ls 3 [(0, .ref (ad 21)), (1, .int l1), (2, .int l2)] := hl
  unfold f_Now_handleBehind at hf
  refine lv_aload_n hx hb dX4_handleBehind_0 rfl (lv_at hl 0 rfl) ?_
  refine x_get C G fX4_21 (wX_at21) rfl dX4_handleBehind_1 ?_
  refine lv_iload_n hx hb dX4_handleBehind_4 rfl (lv_at hl 1 rfl) ?_
  have hi := ck_in hf
  have hf := ck_go hf
  refine x_iald C G (wX_at25) hi dX4_handleBehind_5 ?_
  refine lv_iconst (v := 2) hx hb dX4_handleBehind_6 (by decide) ?_
  refine lv_icmp_ne (tgt := 14) hx hb dX4_handleBehind_7 (by decide) (fun h => ?_) (fun h => ?_)
  · have hf := it_f h hf
    refine lv_iconst (v := 0) hx hb dX4_handleBehind_14 (by decide) ?_
    refine lv_aload_n hx hb dX4_handleBehind_15 rfl (lv_at hl 0 rfl) ?_
    refine x_get C G fX4_24 (wX_at21) rfl dX4_handleBehind_16 ?_
    refine lv_iload_n hx hb dX4_handleBehind_19 rfl (lv_at hl 1 rfl) ?_
    have hi := ck_in hf
    have hf := ck_go hf
    refine x_iald C G (wX_at26) hi dX4_handleBehind_20 ?_
    refine lv_aload_n hx hb dX4_handleBehind_21 rfl (lv_at hl 0 rfl) ?_
    refine x_get C G fX4_27 (wX_at21) rfl dX4_handleBehind_22 ?_
    refine lv_iload_n hx hb dX4_handleBehind_25 rfl (lv_at hl 1 rfl) ?_
    have hi := ck_in hf
    have hf := ck_go hf
    refine x_iald C G (wX_at27) hi dX4_handleBehind_26 ?_
    refine lv_isub hx hb dX4_handleBehind_27 ?_
    refine x_max C mMath_max kX4_50 hl.1 (Nat.le_of_ble_eq_true rfl) (Nat.le_of_ble_eq_true rfl) ⟨Nat.le_refl _, Nat.le_refl _⟩ dX4_handleBehind_28 ?_
    refine lv_iload_n hx hb dX4_handleBehind_31 rfl (lv_at hl 2 rfl) ?_
    refine lv_iadd hx hb dX4_handleBehind_32 ?_
    obtain rfl := Option.some.inj hf
    exact xI_ret C G rfl dX4_handleBehind_33
  · have hf := it_t h hf
    refine lv_iconst (v := 1) hx hb dX4_handleBehind_10 (by decide) ?_
    refine lv_goto (tgt := 33) hx hb dX4_handleBehind_11 (by decide) ?_
    obtain rfl := Option.some.inj hf
    exact xI_ret C G rfl dX4_handleBehind_33
set_option maxHeartbeats 4000000 in
set_option maxRecDepth 100000 in
theorem c_Now_handle_bf {l : Launch} {E : xE} {ad : Nat → Nat} {x_imageCount x_lastTrouble x_lastFault x_lastPlace pa_faultNumber pa_faultPlace rd_length rd_end rd_next rd_sort rd_start rd_value to_seats to_slack to_sawInches to_quarrelChance to_people to_forkBits to_unsure to_tried to_triedFedBits tf_pairs tf_gone bd_seats bd_slack bd_sawInches bd_quarrelChance bd_people bd_forkBits bd_unsure bd_tried bd_triedFedBits bf_pairs bf_gone nw_pairs nw_gone sc_forkBits sc_canBits sc_bestBits sc_bestSlops sl_count se_bestWorth se_fresh ch_items ch_leastCost ch_leastBits cl_count fi_count ps_next ps_count i0_pairs i0_gone i1_pairs i1_gone i2_pairs i2_gone : Int32} {pa_names : Nat → Int64} {rd_tape to_unsurePair to_unsureYears to_triedPair tf_seatOf tf_one tf_other tf_kind tf_years tf_sawn bd_unsurePair bd_unsureYears bd_triedPair bf_seatOf bf_one bf_other bf_kind bf_years bf_sawn nw_seatOf nw_one nw_other nw_kind nw_years nw_sawn sc_seatOf sc_handle sc_both sc_slopOf sl_bits se_bestRow se_row se_pairAt se_hope se_hopeAt se_slopAt se_farBits se_gain se_worth ch_both ch_cost ch_bit cl_bits fi_sets ps_act ps_whom ps_amount i0_seatOf i0_one i0_other i0_kind i0_years i0_sawn i1_seatOf i1_one i1_other i1_kind i1_years i1_sawn i2_seatOf i2_one i2_other i2_kind i2_years i2_sawn : Nat → Int32} {rd_word : Int64} {l1 : Int32} {R0 : Int32} (hf : f_Now_handle l1 bf_kind bf_years bf_sawn = some R0) : xI l E yX4_handle cX4_handle 2 (some .int) 2 43 [.ref (ad 21), .int l1] (wX E ad x_imageCount x_lastTrouble x_lastFault x_lastPlace pa_names pa_faultNumber pa_faultPlace rd_tape rd_length rd_end rd_next rd_sort rd_start rd_value rd_word to_unsurePair to_unsureYears to_triedPair to_seats to_slack to_sawInches to_quarrelChance to_people to_forkBits to_unsure to_tried to_triedFedBits tf_seatOf tf_one tf_other tf_kind tf_years tf_sawn tf_pairs tf_gone bd_unsurePair bd_unsureYears bd_triedPair bd_seats bd_slack bd_sawInches bd_quarrelChance bd_people bd_forkBits bd_unsure bd_tried bd_triedFedBits bf_seatOf bf_one bf_other bf_kind bf_years bf_sawn bf_pairs bf_gone nw_seatOf nw_one nw_other nw_kind nw_years nw_sawn nw_pairs nw_gone sc_seatOf sc_handle sc_both sc_slopOf sc_forkBits sc_canBits sc_bestBits sc_bestSlops sl_bits sl_count se_bestRow se_row se_pairAt se_hope se_hopeAt se_slopAt se_farBits se_gain se_worth se_bestWorth se_fresh ch_both ch_cost ch_bit ch_items ch_leastCost ch_leastBits cl_bits cl_count fi_sets fi_count ps_act ps_whom ps_amount ps_next ps_count i0_seatOf i0_one i0_other i0_kind i0_years i0_sawn i0_pairs i0_gone i1_seatOf i1_one i1_other i1_kind i1_years i1_sawn i1_pairs i1_gone i2_seatOf i2_one i2_other i2_kind i2_years i2_sawn i2_pairs i2_gone) (wX E ad x_imageCount x_lastTrouble x_lastFault x_lastPlace pa_names pa_faultNumber pa_faultPlace rd_tape rd_length rd_end rd_next rd_sort rd_start rd_value rd_word to_unsurePair to_unsureYears to_triedPair to_seats to_slack to_sawInches to_quarrelChance to_people to_forkBits to_unsure to_tried to_triedFedBits tf_seatOf tf_one tf_other tf_kind tf_years tf_sawn tf_pairs tf_gone bd_unsurePair bd_unsureYears bd_triedPair bd_seats bd_slack bd_sawInches bd_quarrelChance bd_people bd_forkBits bd_unsure bd_tried bd_triedFedBits bf_seatOf bf_one bf_other bf_kind bf_years bf_sawn bf_pairs bf_gone nw_seatOf nw_one nw_other nw_kind nw_years nw_sawn nw_pairs nw_gone sc_seatOf sc_handle sc_both sc_slopOf sc_forkBits sc_canBits sc_bestBits sc_bestSlops sl_bits sl_count se_bestRow se_row se_pairAt se_hope se_hopeAt se_slopAt se_farBits se_gain se_worth se_bestWorth se_fresh ch_both ch_cost ch_bit ch_items ch_leastCost ch_leastBits cl_bits cl_count fi_sets fi_count ps_act ps_whom ps_amount ps_next ps_count i0_seatOf i0_one i0_other i0_kind i0_years i0_sawn i0_pairs i0_gone i1_seatOf i1_one i1_other i1_kind i1_years i1_sawn i1_pairs i1_gone i2_seatOf i2_one i2_other i2_kind i2_years i2_sawn i2_pairs i2_gone) R0 := by
  refine xI_of (by decide) (Nat.le_of_ble_eq_true rfl) (fun p e s m args below meth c A C ls hl G => ?_)
  have hx := C.1
  have hb := C.2.1
  have hl : lv_has ls 2 [(0, .ref (ad 21)), (1, .int l1)] := hl
  unfold f_Now_handle at hf
  refine lv_aload_n hx hb dX4_handle_0 rfl (lv_at hl 0 rfl) ?_
  refine lv_iload_n hx hb dX4_handle_1 rfl (lv_at hl 1 rfl) ?_
  refine lv_iconst (v := 0) hx hb dX4_handle_2 (by decide) ?_
  obtain ⟨x1, hc, hf⟩ := bd_go hf
  refine xI_V C G (c_Now_handleBehind_bf hc) mX4_handleBehind kX4_47 (wX_at21) rfl ⟨Nat.le_of_ble_eq_true rfl, Nat.le_of_ble_eq_true rfl⟩ rfl hl.1 rfl (Nat.le_of_ble_eq_true rfl) ⟨Nat.le_refl _, Nat.le_refl _⟩ dX4_handle_3 (fun hz H locs G => ?_)
  obtain rfl := Option.some.inj hf
  exact xI_ret C G rfl dX4_handle_6
set_option maxHeartbeats 4000000 in
set_option maxRecDepth 100000 in
theorem c_Now_far_bf {l : Launch} {E : xE} {ad : Nat → Nat} {x_imageCount x_lastTrouble x_lastFault x_lastPlace pa_faultNumber pa_faultPlace rd_length rd_end rd_next rd_sort rd_start rd_value to_seats to_slack to_sawInches to_quarrelChance to_people to_forkBits to_unsure to_tried to_triedFedBits tf_pairs tf_gone bd_seats bd_slack bd_sawInches bd_quarrelChance bd_people bd_forkBits bd_unsure bd_tried bd_triedFedBits bf_pairs bf_gone nw_pairs nw_gone sc_forkBits sc_canBits sc_bestBits sc_bestSlops sl_count se_bestWorth se_fresh ch_items ch_leastCost ch_leastBits cl_count fi_count ps_next ps_count i0_pairs i0_gone i1_pairs i1_gone i2_pairs i2_gone : Int32} {pa_names : Nat → Int64} {rd_tape to_unsurePair to_unsureYears to_triedPair tf_seatOf tf_one tf_other tf_kind tf_years tf_sawn bd_unsurePair bd_unsureYears bd_triedPair bf_seatOf bf_one bf_other bf_kind bf_years bf_sawn nw_seatOf nw_one nw_other nw_kind nw_years nw_sawn sc_seatOf sc_handle sc_both sc_slopOf sl_bits se_bestRow se_row se_pairAt se_hope se_hopeAt se_slopAt se_farBits se_gain se_worth ch_both ch_cost ch_bit cl_bits fi_sets ps_act ps_whom ps_amount i0_seatOf i0_one i0_other i0_kind i0_years i0_sawn i1_seatOf i1_one i1_other i1_kind i1_years i1_sawn i2_seatOf i2_one i2_other i2_kind i2_years i2_sawn : Nat → Int32} {rd_word : Int64} {l1 : Int32} {R0 : Int32} (hf : f_Now_far l1 bf_seatOf bf_one bf_other = some R0) : xI l E yX4_far cX4_far 2 (some .int) 1 21 [.ref (ad 21), .int l1] (wX E ad x_imageCount x_lastTrouble x_lastFault x_lastPlace pa_names pa_faultNumber pa_faultPlace rd_tape rd_length rd_end rd_next rd_sort rd_start rd_value rd_word to_unsurePair to_unsureYears to_triedPair to_seats to_slack to_sawInches to_quarrelChance to_people to_forkBits to_unsure to_tried to_triedFedBits tf_seatOf tf_one tf_other tf_kind tf_years tf_sawn tf_pairs tf_gone bd_unsurePair bd_unsureYears bd_triedPair bd_seats bd_slack bd_sawInches bd_quarrelChance bd_people bd_forkBits bd_unsure bd_tried bd_triedFedBits bf_seatOf bf_one bf_other bf_kind bf_years bf_sawn bf_pairs bf_gone nw_seatOf nw_one nw_other nw_kind nw_years nw_sawn nw_pairs nw_gone sc_seatOf sc_handle sc_both sc_slopOf sc_forkBits sc_canBits sc_bestBits sc_bestSlops sl_bits sl_count se_bestRow se_row se_pairAt se_hope se_hopeAt se_slopAt se_farBits se_gain se_worth se_bestWorth se_fresh ch_both ch_cost ch_bit ch_items ch_leastCost ch_leastBits cl_bits cl_count fi_sets fi_count ps_act ps_whom ps_amount ps_next ps_count i0_seatOf i0_one i0_other i0_kind i0_years i0_sawn i0_pairs i0_gone i1_seatOf i1_one i1_other i1_kind i1_years i1_sawn i1_pairs i1_gone i2_seatOf i2_one i2_other i2_kind i2_years i2_sawn i2_pairs i2_gone) (wX E ad x_imageCount x_lastTrouble x_lastFault x_lastPlace pa_names pa_faultNumber pa_faultPlace rd_tape rd_length rd_end rd_next rd_sort rd_start rd_value rd_word to_unsurePair to_unsureYears to_triedPair to_seats to_slack to_sawInches to_quarrelChance to_people to_forkBits to_unsure to_tried to_triedFedBits tf_seatOf tf_one tf_other tf_kind tf_years tf_sawn tf_pairs tf_gone bd_unsurePair bd_unsureYears bd_triedPair bd_seats bd_slack bd_sawInches bd_quarrelChance bd_people bd_forkBits bd_unsure bd_tried bd_triedFedBits bf_seatOf bf_one bf_other bf_kind bf_years bf_sawn bf_pairs bf_gone nw_seatOf nw_one nw_other nw_kind nw_years nw_sawn nw_pairs nw_gone sc_seatOf sc_handle sc_both sc_slopOf sc_forkBits sc_canBits sc_bestBits sc_bestSlops sl_bits sl_count se_bestRow se_row se_pairAt se_hope se_hopeAt se_slopAt se_farBits se_gain se_worth se_bestWorth se_fresh ch_both ch_cost ch_bit ch_items ch_leastCost ch_leastBits cl_bits cl_count fi_sets fi_count ps_act ps_whom ps_amount ps_next ps_count i0_seatOf i0_one i0_other i0_kind i0_years i0_sawn i0_pairs i0_gone i1_seatOf i1_one i1_other i1_kind i1_years i1_sawn i1_pairs i1_gone i2_seatOf i2_one i2_other i2_kind i2_years i2_sawn i2_pairs i2_gone) R0 := by
  refine xI_of (by decide) (Nat.le_of_ble_eq_true rfl) (fun p e s m args below meth c A C ls hl G => ?_)
  have hx := C.1
  have hb := C.2.1
  have hl : lv_has ls 2 [(0, .ref (ad 21)), (1, .int l1)] := hl
  unfold f_Now_far at hf
  refine lv_aload_n hx hb dX4_far_0 rfl (lv_at hl 0 rfl) ?_
  refine x_get C G fX4_9 (wX_at21) rfl dX4_far_1 ?_
  refine lv_aload_n hx hb dX4_far_4 rfl (lv_at hl 0 rfl) ?_
  refine x_get C G fX4_15 (wX_at21) rfl dX4_far_5 ?_
  refine lv_iload_n hx hb dX4_far_8 rfl (lv_at hl 1 rfl) ?_
  have hi := ck_in hf
  have hf := ck_go hf
  refine x_iald C G (wX_at23) hi dX4_far_9 ?_
  have hi := ck_in hf
  have hf := ck_go hf
  refine x_iald C G (wX_at22) hi dX4_far_10 ?_
  refine lv_aload_n hx hb dX4_far_11 rfl (lv_at hl 0 rfl) ?_
  refine x_get C G fX4_9 (wX_at21) rfl dX4_far_12 ?_
  refine lv_aload_n hx hb dX4_far_15 rfl (lv_at hl 0 rfl) ?_
  refine x_get C G fX4_18 (wX_at21) rfl dX4_far_16 ?_
  refine lv_iload_n hx hb dX4_far_19 rfl (lv_at hl 1 rfl) ?_
  have hi := ck_in hf
  have hf := ck_go hf
  refine x_iald C G (wX_at24) hi dX4_far_20 ?_
  have hi := ck_in hf
  have hf := ck_go hf
  refine x_iald C G (wX_at22) hi dX4_far_21 ?_
  refine lv_isub hx hb dX4_far_22 ?_
  refine x_abs C mMath_abs kX4_55 hl.1 (Nat.le_of_ble_eq_true rfl) (Nat.le_of_ble_eq_true rfl) ⟨Nat.le_refl _, Nat.le_refl _⟩ dX4_far_23 ?_
  obtain rfl := Option.some.inj hf
  exact xI_ret C G rfl dX4_far_26
set_option maxHeartbeats 4000000 in
set_option maxRecDepth 100000 in
theorem w_Fitter_isSo_fi_L30 {p : Program} {l : Launch} {e : Env} {s : State} {m : MethodId} {args : Array Value} {below : List Frame} {meth : Method} {c : Code} {A : Nat → Prop} {E : xE} {Q : State → Prop} {ad : Nat → Nat} {x_imageCount x_lastTrouble x_lastFault x_lastPlace pa_faultNumber pa_faultPlace rd_length rd_end rd_next rd_sort rd_start rd_value to_seats to_slack to_sawInches to_quarrelChance to_people to_forkBits to_unsure to_tried to_triedFedBits tf_pairs tf_gone bd_seats bd_slack bd_sawInches bd_quarrelChance bd_people bd_forkBits bd_unsure bd_tried bd_triedFedBits bf_pairs bf_gone nw_pairs nw_gone sc_forkBits sc_canBits sc_bestBits sc_bestSlops sl_count se_bestWorth se_fresh ch_items ch_leastCost ch_leastBits cl_count fi_count ps_next ps_count i0_pairs i0_gone i1_pairs i1_gone i2_pairs i2_gone : Int32} {pa_names : Nat → Int64} {rd_tape to_unsurePair to_unsureYears to_triedPair tf_seatOf tf_one tf_other tf_kind tf_years tf_sawn bd_unsurePair bd_unsureYears bd_triedPair bf_seatOf bf_one bf_other bf_kind bf_years bf_sawn nw_seatOf nw_one nw_other nw_kind nw_years nw_sawn sc_seatOf sc_handle sc_both sc_slopOf sl_bits se_bestRow se_row se_pairAt se_hope se_hopeAt se_slopAt se_farBits se_gain se_worth ch_both ch_cost ch_bit cl_bits fi_sets ps_act ps_whom ps_amount i0_seatOf i0_one i0_other i0_kind i0_years i0_sawn i1_seatOf i1_one i1_other i1_kind i1_years i1_sawn i2_seatOf i2_one i2_other i2_kind i2_years i2_sawn : Nat → Int32} {rd_word : Int64} {l1 : Int32} {l2 : Int32} {l4 : Int32} {o : Int32} (C : xC p s m args meth c cX2_isSo 7 RX2 E A (some .boolean)) (J : ∀ (H : Heap) (locs : List Loc) (ls : Array Slot), xG s E A (wX E ad x_imageCount x_lastTrouble x_lastFault x_lastPlace pa_names pa_faultNumber pa_faultPlace rd_tape rd_length rd_end rd_next rd_sort rd_start rd_value rd_word to_unsurePair to_unsureYears to_triedPair to_seats to_slack to_sawInches to_quarrelChance to_people to_forkBits to_unsure to_tried to_triedFedBits tf_seatOf tf_one tf_other tf_kind tf_years tf_sawn tf_pairs tf_gone bd_unsurePair bd_unsureYears bd_triedPair bd_seats bd_slack bd_sawInches bd_quarrelChance bd_people bd_forkBits bd_unsure bd_tried bd_triedFedBits bf_seatOf bf_one bf_other bf_kind bf_years bf_sawn bf_pairs bf_gone nw_seatOf nw_one nw_other nw_kind nw_years nw_sawn nw_pairs nw_gone sc_seatOf sc_handle sc_both sc_slopOf sc_forkBits sc_canBits sc_bestBits sc_bestSlops sl_bits sl_count se_bestRow se_row se_pairAt se_hope se_hopeAt se_slopAt se_farBits se_gain se_worth se_bestWorth se_fresh ch_both ch_cost ch_bit ch_items ch_leastCost ch_leastBits cl_bits cl_count fi_sets fi_count ps_act ps_whom ps_amount ps_next ps_count i0_seatOf i0_one i0_other i0_kind i0_years i0_sawn i0_pairs i0_gone i1_seatOf i1_one i1_other i1_kind i1_years i1_sawn i1_pairs i1_gone i2_seatOf i2_one i2_other i2_kind i2_years i2_sawn i2_pairs i2_gone) H locs → lv_has ls 7 [(0, .ref (ad 58)), (1, .int l1), (3, .ref (ad 21)), (4, .int l4), (5, .int o)] → W p l e (xR 3 64) s m args below meth c H locs 0 0 Q (F0 m 95 ls [])) :
    ∀ (n : Nat) (l5 : Int32) (l6 : Int32) (H : Heap) (locs : List Loc) (ls : Array Slot), xG s E A (wX E ad x_imageCount x_lastTrouble x_lastFault x_lastPlace pa_names pa_faultNumber pa_faultPlace rd_tape rd_length rd_end rd_next rd_sort rd_start rd_value rd_word to_unsurePair to_unsureYears to_triedPair to_seats to_slack to_sawInches to_quarrelChance to_people to_forkBits to_unsure to_tried to_triedFedBits tf_seatOf tf_one tf_other tf_kind tf_years tf_sawn tf_pairs tf_gone bd_unsurePair bd_unsureYears bd_triedPair bd_seats bd_slack bd_sawInches bd_quarrelChance bd_people bd_forkBits bd_unsure bd_tried bd_triedFedBits bf_seatOf bf_one bf_other bf_kind bf_years bf_sawn bf_pairs bf_gone nw_seatOf nw_one nw_other nw_kind nw_years nw_sawn nw_pairs nw_gone sc_seatOf sc_handle sc_both sc_slopOf sc_forkBits sc_canBits sc_bestBits sc_bestSlops sl_bits sl_count se_bestRow se_row se_pairAt se_hope se_hopeAt se_slopAt se_farBits se_gain se_worth se_bestWorth se_fresh ch_both ch_cost ch_bit ch_items ch_leastCost ch_leastBits cl_bits cl_count fi_sets fi_count ps_act ps_whom ps_amount ps_next ps_count i0_seatOf i0_one i0_other i0_kind i0_years i0_sawn i0_pairs i0_gone i1_seatOf i1_one i1_other i1_kind i1_years i1_sawn i1_pairs i1_gone i2_seatOf i2_one i2_other i2_kind i2_years i2_sawn i2_pairs i2_gone) H locs → lv_has ls 7 [(0, .ref (ad 58)), (1, .int l1), (2, .int l2), (3, .ref (ad 21)), (4, .int l4), (5, .int l5), (6, .int l6)] → f_Fitter_isSo_L30 l2 l4 bd_unsurePair bd_unsureYears bd_unsure bf_kind n l5 l6 = some o → W p l e (xR 3 64) s m args below meth c H locs 0 0 Q (F0 m 30 ls []) := by
  have hx := C.1
  have hb := C.2.1
  intro n
  induction n with
  | zero =>
    intro l5 l6 H locs ls G hl hf
    exact nomatch (show (none : Option (Int32)) = some o from hf)
  | succ n ih =>
    intro l5 l6 H locs ls G hl hf
    rw [f_Fitter_isSo_L30] at hf
    refine lv_iload hx hb dX2_isSo_30 (lv_at hl 6 rfl) ?_
    refine lv_aload_n hx hb dX2_isSo_32 rfl (lv_at hl 0 rfl) ?_
    refine x_get C G fX2_15 (wX_at58) rfl dX2_isSo_33 ?_
    refine x_get C G fX2_23.g (wX_at17) rfl dX2_isSo_36 ?_
    refine lv_icmp_ge (tgt := 95) hx hb dX2_isSo_39 (by decide) (fun h => ?_) (fun h => ?_)
    · have hf := it_t h hf
      obtain rfl := Option.some.inj hf
      exact J _ _ _ G (lv_sub hl [0, 1, 3, 4, 5] rfl)
    · have hf := it_f h hf
      refine lv_iload_n hx hb dX2_isSo_42 rfl (lv_at hl 2 rfl) ?_
      refine lv_iload hx hb dX2_isSo_43 (lv_at hl 6 rfl) ?_
      obtain ⟨x3, hc, hf⟩ := bd_go hf
      refine xI_S C G (c_X_has_any hc) mX10_has kX2_52 ⟨Nat.le_of_ble_eq_true rfl, Nat.le_of_ble_eq_true rfl⟩ rfl hl.1 rfl (Nat.le_of_ble_eq_true rfl) ⟨Nat.le_refl _, Nat.le_refl _⟩ dX2_isSo_45 (fun hz3 H locs G => ?_)
      obtain ⟨b4, hr, hf⟩ := bd_go hf
      cases b4 with
      | true =>
        have hf := it_t rfl hf
        have J : ∀ (H : Heap) (locs : List Loc), xG s E A (wX E ad x_imageCount x_lastTrouble x_lastFault x_lastPlace pa_names pa_faultNumber pa_faultPlace rd_tape rd_length rd_end rd_next rd_sort rd_start rd_value rd_word to_unsurePair to_unsureYears to_triedPair to_seats to_slack to_sawInches to_quarrelChance to_people to_forkBits to_unsure to_tried to_triedFedBits tf_seatOf tf_one tf_other tf_kind tf_years tf_sawn tf_pairs tf_gone bd_unsurePair bd_unsureYears bd_triedPair bd_seats bd_slack bd_sawInches bd_quarrelChance bd_people bd_forkBits bd_unsure bd_tried bd_triedFedBits bf_seatOf bf_one bf_other bf_kind bf_years bf_sawn bf_pairs bf_gone nw_seatOf nw_one nw_other nw_kind nw_years nw_sawn nw_pairs nw_gone sc_seatOf sc_handle sc_both sc_slopOf sc_forkBits sc_canBits sc_bestBits sc_bestSlops sl_bits sl_count se_bestRow se_row se_pairAt se_hope se_hopeAt se_slopAt se_farBits se_gain se_worth se_bestWorth se_fresh ch_both ch_cost ch_bit ch_items ch_leastCost ch_leastBits cl_bits cl_count fi_sets fi_count ps_act ps_whom ps_amount ps_next ps_count i0_seatOf i0_one i0_other i0_kind i0_years i0_sawn i0_pairs i0_gone i1_seatOf i1_one i1_other i1_kind i1_years i1_sawn i1_pairs i1_gone i2_seatOf i2_one i2_other i2_kind i2_years i2_sawn i2_pairs i2_gone) H locs → W p l e (xR 3 64) s m args below meth c H locs 0 0 Q (F0 m 89 ls []) := by
          intro H locs G
          obtain ⟨x5, ex5⟩ : ∃ z : Int32, z = l6 + (1 : Int32) := ⟨_, rfl⟩
          have hf := lt_go ex5 hf
          refine lv_iinc (v := x5) (lv' := [(6, .int x5), (0, .ref (ad 58)), (1, .int l1), (2, .int l2), (3, .ref (ad 21)), (4, .int l4), (5, .int l5)]) hx hb dX2_isSo_89 hl (k := 6) rfl (by rw [ex5]; rfl) (by decide) rfl (fun ls hl => ?_)
          refine lv_goto (tgt := 30) hx hb dX2_isSo_92 (by decide) ?_
          exact ih l5 x5 _ _ _ G (lv_sub hl [1, 2, 3, 4, 5, 6, 0] rfl) hf
        have hf := hr
        clear hr
        refine lv_if_eq (tgt := 89) hx hb dX2_isSo_48 (by decide) (fun h => ?_) (fun h => ?_)
        · have hf := it_t h hf
          exact J _ _ G
        · have hf := it_f h hf
          refine lv_aload_n hx hb dX2_isSo_51 rfl (lv_at hl 0 rfl) ?_
          refine x_get C G fX2_15 (wX_at58) rfl dX2_isSo_52 ?_
          refine x_get C G fX2_55 (wX_at17) rfl dX2_isSo_55 ?_
          refine lv_iload hx hb dX2_isSo_58 (lv_at hl 6 rfl) ?_
          have hi := ck_in hf
          have hf := ck_go hf
          refine x_iald C G (wX_at18) hi dX2_isSo_60 ?_
          refine lv_iload hx hb dX2_isSo_61 (lv_at hl 4 rfl) ?_
          refine lv_icmp_ne (tgt := 89) hx hb dX2_isSo_63 (by decide) (fun h => ?_) (fun h => ?_)
          · have hf := it_f h hf
            exact J _ _ G
          · have hf := it_t h hf
            refine lv_aload_n hx hb dX2_isSo_66 rfl (lv_at hl 3 rfl) ?_
            refine x_get C G fX2_58 (wX_at21) rfl dX2_isSo_67 ?_
            refine lv_iload hx hb dX2_isSo_70 (lv_at hl 4 rfl) ?_
            have hi := ck_in hf
            have hf := ck_go hf
            refine x_iald C G (wX_at25) hi dX2_isSo_72 ?_
            refine lv_iconst (v := 2) hx hb dX2_isSo_73 (by decide) ?_
            refine lv_icmp_eq (tgt := 89) hx hb dX2_isSo_74 (by decide) (fun h => ?_) (fun h => ?_)
            · have hf := it_t h hf
              exact J _ _ G
            · have hf := it_f h hf
              exact absurd (Option.some.inj hf) (by decide)
      | false =>
        have hf := it_f (by decide) hf
        have J : ∀ (H : Heap) (locs : List Loc), xG s E A (wX E ad x_imageCount x_lastTrouble x_lastFault x_lastPlace pa_names pa_faultNumber pa_faultPlace rd_tape rd_length rd_end rd_next rd_sort rd_start rd_value rd_word to_unsurePair to_unsureYears to_triedPair to_seats to_slack to_sawInches to_quarrelChance to_people to_forkBits to_unsure to_tried to_triedFedBits tf_seatOf tf_one tf_other tf_kind tf_years tf_sawn tf_pairs tf_gone bd_unsurePair bd_unsureYears bd_triedPair bd_seats bd_slack bd_sawInches bd_quarrelChance bd_people bd_forkBits bd_unsure bd_tried bd_triedFedBits bf_seatOf bf_one bf_other bf_kind bf_years bf_sawn bf_pairs bf_gone nw_seatOf nw_one nw_other nw_kind nw_years nw_sawn nw_pairs nw_gone sc_seatOf sc_handle sc_both sc_slopOf sc_forkBits sc_canBits sc_bestBits sc_bestSlops sl_bits sl_count se_bestRow se_row se_pairAt se_hope se_hopeAt se_slopAt se_farBits se_gain se_worth se_bestWorth se_fresh ch_both ch_cost ch_bit ch_items ch_leastCost ch_leastBits cl_bits cl_count fi_sets fi_count ps_act ps_whom ps_amount ps_next ps_count i0_seatOf i0_one i0_other i0_kind i0_years i0_sawn i0_pairs i0_gone i1_seatOf i1_one i1_other i1_kind i1_years i1_sawn i1_pairs i1_gone i2_seatOf i2_one i2_other i2_kind i2_years i2_sawn i2_pairs i2_gone) H locs → W p l e (xR 3 64) s m args below meth c H locs 0 0 Q (F0 m 77 ls []) := by
          intro H locs G
          refine lv_aload_n hx hb dX2_isSo_77 rfl (lv_at hl 0 rfl) ?_
          refine x_get C G fX2_15 (wX_at58) rfl dX2_isSo_78 ?_
          refine x_get C G fX2_61 (wX_at17) rfl dX2_isSo_81 ?_
          refine lv_iload hx hb dX2_isSo_84 (lv_at hl 6 rfl) ?_
          have hi := ck_in hf
          have hf := ck_go hf
          refine x_iald C G (wX_at19) hi dX2_isSo_86 ?_
          refine lv_topi (fun x6 ex6 => ?_)
          have hf := lt_go ex6 hf
          refine lv_istore (lv' := [(5, .int x6), (0, .ref (ad 58)), (1, .int l1), (2, .int l2), (3, .ref (ad 21)), (4, .int l4), (6, .int l6)]) hx hb dX2_isSo_87 hl (by decide) rfl (fun ls hl => ?_)
          obtain ⟨x7, ex7⟩ : ∃ z : Int32, z = l6 + (1 : Int32) := ⟨_, rfl⟩
          have hf := lt_go ex7 hf
          refine lv_iinc (v := x7) (lv' := [(6, .int x7), (5, .int x6), (0, .ref (ad 58)), (1, .int l1), (2, .int l2), (3, .ref (ad 21)), (4, .int l4)]) hx hb dX2_isSo_89 hl (k := 6) rfl (by rw [ex7]; rfl) (by decide) rfl (fun ls hl => ?_)
          refine lv_goto (tgt := 30) hx hb dX2_isSo_92 (by decide) ?_
          exact ih x6 x7 _ _ _ G (lv_sub hl [2, 3, 4, 5, 6, 1, 0] rfl) hf
        have hf := hr
        clear hr
        refine lv_if_eq (tgt := 89) hx hb dX2_isSo_48 (by decide) (fun h => ?_) (fun h => ?_)
        · have hf := it_t h hf
          exact absurd (Option.some.inj hf) (by decide)
        · have hf := it_f h hf
          refine lv_aload_n hx hb dX2_isSo_51 rfl (lv_at hl 0 rfl) ?_
          refine x_get C G fX2_15 (wX_at58) rfl dX2_isSo_52 ?_
          refine x_get C G fX2_55 (wX_at17) rfl dX2_isSo_55 ?_
          refine lv_iload hx hb dX2_isSo_58 (lv_at hl 6 rfl) ?_
          have hi := ck_in hf
          have hf := ck_go hf
          refine x_iald C G (wX_at18) hi dX2_isSo_60 ?_
          refine lv_iload hx hb dX2_isSo_61 (lv_at hl 4 rfl) ?_
          refine lv_icmp_ne (tgt := 89) hx hb dX2_isSo_63 (by decide) (fun h => ?_) (fun h => ?_)
          · have hf := it_f h hf
            exact absurd (Option.some.inj hf) (by decide)
          · have hf := it_t h hf
            refine lv_aload_n hx hb dX2_isSo_66 rfl (lv_at hl 3 rfl) ?_
            refine x_get C G fX2_58 (wX_at21) rfl dX2_isSo_67 ?_
            refine lv_iload hx hb dX2_isSo_70 (lv_at hl 4 rfl) ?_
            have hi := ck_in hf
            have hf := ck_go hf
            refine x_iald C G (wX_at25) hi dX2_isSo_72 ?_
            refine lv_iconst (v := 2) hx hb dX2_isSo_73 (by decide) ?_
            refine lv_icmp_eq (tgt := 89) hx hb dX2_isSo_74 (by decide) (fun h => ?_) (fun h => ?_)
            · have hf := it_t h hf
              exact absurd (Option.some.inj hf) (by decide)
            · have hf := it_f h hf
              exact J _ _ G
set_option maxHeartbeats 4000000 in
set_option maxRecDepth 100000 in
theorem c_Fitter_isSo_fi {l : Launch} {E : xE} {ad : Nat → Nat} {x_imageCount x_lastTrouble x_lastFault x_lastPlace pa_faultNumber pa_faultPlace rd_length rd_end rd_next rd_sort rd_start rd_value to_seats to_slack to_sawInches to_quarrelChance to_people to_forkBits to_unsure to_tried to_triedFedBits tf_pairs tf_gone bd_seats bd_slack bd_sawInches bd_quarrelChance bd_people bd_forkBits bd_unsure bd_tried bd_triedFedBits bf_pairs bf_gone nw_pairs nw_gone sc_forkBits sc_canBits sc_bestBits sc_bestSlops sl_count se_bestWorth se_fresh ch_items ch_leastCost ch_leastBits cl_count fi_count ps_next ps_count i0_pairs i0_gone i1_pairs i1_gone i2_pairs i2_gone : Int32} {pa_names : Nat → Int64} {rd_tape to_unsurePair to_unsureYears to_triedPair tf_seatOf tf_one tf_other tf_kind tf_years tf_sawn bd_unsurePair bd_unsureYears bd_triedPair bf_seatOf bf_one bf_other bf_kind bf_years bf_sawn nw_seatOf nw_one nw_other nw_kind nw_years nw_sawn sc_seatOf sc_handle sc_both sc_slopOf sl_bits se_bestRow se_row se_pairAt se_hope se_hopeAt se_slopAt se_farBits se_gain se_worth ch_both ch_cost ch_bit cl_bits fi_sets ps_act ps_whom ps_amount i0_seatOf i0_one i0_other i0_kind i0_years i0_sawn i1_seatOf i1_one i1_other i1_kind i1_years i1_sawn i2_seatOf i2_one i2_other i2_kind i2_years i2_sawn : Nat → Int32} {rd_word : Int64} {l1 : Int32} {l2 : Int32} {R0 : Int32} (hf : f_Fitter_isSo l1 l2 bd_unsurePair bd_unsureYears bd_triedPair bd_slack bd_unsure bd_triedFedBits bf_seatOf bf_one bf_other bf_kind bf_years bf_sawn = some R0) : xI l E yX2_isSo cX2_isSo 7 (some .boolean) 3 64 [.ref (ad 58), .int l1, .int l2] (wX E ad x_imageCount x_lastTrouble x_lastFault x_lastPlace pa_names pa_faultNumber pa_faultPlace rd_tape rd_length rd_end rd_next rd_sort rd_start rd_value rd_word to_unsurePair to_unsureYears to_triedPair to_seats to_slack to_sawInches to_quarrelChance to_people to_forkBits to_unsure to_tried to_triedFedBits tf_seatOf tf_one tf_other tf_kind tf_years tf_sawn tf_pairs tf_gone bd_unsurePair bd_unsureYears bd_triedPair bd_seats bd_slack bd_sawInches bd_quarrelChance bd_people bd_forkBits bd_unsure bd_tried bd_triedFedBits bf_seatOf bf_one bf_other bf_kind bf_years bf_sawn bf_pairs bf_gone nw_seatOf nw_one nw_other nw_kind nw_years nw_sawn nw_pairs nw_gone sc_seatOf sc_handle sc_both sc_slopOf sc_forkBits sc_canBits sc_bestBits sc_bestSlops sl_bits sl_count se_bestRow se_row se_pairAt se_hope se_hopeAt se_slopAt se_farBits se_gain se_worth se_bestWorth se_fresh ch_both ch_cost ch_bit ch_items ch_leastCost ch_leastBits cl_bits cl_count fi_sets fi_count ps_act ps_whom ps_amount ps_next ps_count i0_seatOf i0_one i0_other i0_kind i0_years i0_sawn i0_pairs i0_gone i1_seatOf i1_one i1_other i1_kind i1_years i1_sawn i1_pairs i1_gone i2_seatOf i2_one i2_other i2_kind i2_years i2_sawn i2_pairs i2_gone) (wX E ad x_imageCount x_lastTrouble x_lastFault x_lastPlace pa_names pa_faultNumber pa_faultPlace rd_tape rd_length rd_end rd_next rd_sort rd_start rd_value rd_word to_unsurePair to_unsureYears to_triedPair to_seats to_slack to_sawInches to_quarrelChance to_people to_forkBits to_unsure to_tried to_triedFedBits tf_seatOf tf_one tf_other tf_kind tf_years tf_sawn tf_pairs tf_gone bd_unsurePair bd_unsureYears bd_triedPair bd_seats bd_slack bd_sawInches bd_quarrelChance bd_people bd_forkBits bd_unsure bd_tried bd_triedFedBits bf_seatOf bf_one bf_other bf_kind bf_years bf_sawn bf_pairs bf_gone nw_seatOf nw_one nw_other nw_kind nw_years nw_sawn nw_pairs nw_gone sc_seatOf sc_handle sc_both sc_slopOf sc_forkBits sc_canBits sc_bestBits sc_bestSlops sl_bits sl_count se_bestRow se_row se_pairAt se_hope se_hopeAt se_slopAt se_farBits se_gain se_worth se_bestWorth se_fresh ch_both ch_cost ch_bit ch_items ch_leastCost ch_leastBits cl_bits cl_count fi_sets fi_count ps_act ps_whom ps_amount ps_next ps_count i0_seatOf i0_one i0_other i0_kind i0_years i0_sawn i0_pairs i0_gone i1_seatOf i1_one i1_other i1_kind i1_years i1_sawn i1_pairs i1_gone i2_seatOf i2_one i2_other i2_kind i2_years i2_sawn i2_pairs i2_gone) R0 := by
  refine xI_of (by decide) (Nat.le_of_ble_eq_true rfl) (fun p e s m args below meth c A C ls hl G => ?_)
  have hx := C.1
  have hb := C.2.1
  have hl : lv_has ls 7 [(0, .ref (ad 58)), (1, .int l1), (2, .int l2)] := hl
  unfold f_Fitter_isSo at hf
  refine lv_aload_n hx hb dX2_isSo_0 rfl (lv_at hl 0 rfl) ?_
  refine x_get C G fX2_15 (wX_at58) rfl dX2_isSo_1 ?_
  refine x_get C G fX2_39 (wX_at17) rfl dX2_isSo_4 ?_
  refine lv_astore_n (lv' := [(3, .ref (ad 21)), (0, .ref (ad 58)), (1, .int l1), (2, .int l2)]) hx hb dX2_isSo_7 rfl hl (by decide) rfl (fun ls hl => ?_)
  refine lv_aload_n hx hb dX2_isSo_8 rfl (lv_at hl 1 rfl) ?_
  refine x_get C G fX2_15 (wX_at58) rfl dX2_isSo_9 ?_
  refine x_get C G fX2_43 (wX_at17) rfl dX2_isSo_12 ?_
  refine lv_iload_n hx hb dX2_isSo_15 rfl (lv_at hl 2 rfl) ?_
  have hi := ck_in hf
  have hf := ck_go hf
  refine x_iald C G (wX_at20) hi dX2_isSo_16 ?_
  refine lv_topi (fun x1 ex1 => ?_)
  have hf := lt_go ex1 hf
  refine lv_istore (lv' := [(4, .int x1), (3, .ref (ad 21)), (0, .ref (ad 58)), (1, .int l1), (2, .int l2)]) hx hb dX2_isSo_17 hl (by decide) rfl (fun ls hl => ?_)
  refine lv_aload_n hx hb dX2_isSo_19 rfl (lv_at hl 1 rfl) ?_
  refine lv_iload hx hb dX2_isSo_20 (lv_at hl 0 rfl) ?_
  obtain ⟨x2, hc, hf⟩ := bd_go hf
  refine xI_V C G (c_Now_handle_bf hc) mX4_handle kX2_46 (wX_at21) rfl ⟨Nat.le_of_ble_eq_true rfl, Nat.le_of_ble_eq_true rfl⟩ rfl hl.1 rfl (Nat.le_of_ble_eq_true rfl) ⟨Nat.le_refl _, Nat.le_refl _⟩ dX2_isSo_22 (fun hz H locs G => ?_)
  refine lv_istore (lv' := [(5, .int x2), (4, .int x1), (3, .ref (ad 21)), (0, .ref (ad 58)), (1, .int l1), (2, .int l2)]) hx hb dX2_isSo_25 hl (by decide) rfl (fun ls hl => ?_)
  refine lv_iconst (v := 0) hx hb dX2_isSo_27 (by decide) ?_
  refine lv_istore (lv' := [(6, .int (0 : Int32)), (5, .int x2), (4, .int x1), (3, .ref (ad 21)), (0, .ref (ad 58)), (1, .int l1), (2, .int l2)]) hx hb dX2_isSo_28 hl (by decide) rfl (fun ls hl => ?_)
  obtain ⟨x8, hr, hf⟩ := bd_go hf
  have Jx8 : ∀ (H : Heap) (locs : List Loc) (ls : Array Slot), xG s E A (wX E ad x_imageCount x_lastTrouble x_lastFault x_lastPlace pa_names pa_faultNumber pa_faultPlace rd_tape rd_length rd_end rd_next rd_sort rd_start rd_value rd_word to_unsurePair to_unsureYears to_triedPair to_seats to_slack to_sawInches to_quarrelChance to_people to_forkBits to_unsure to_tried to_triedFedBits tf_seatOf tf_one tf_other tf_kind tf_years tf_sawn tf_pairs tf_gone bd_unsurePair bd_unsureYears bd_triedPair bd_seats bd_slack bd_sawInches bd_quarrelChance bd_people bd_forkBits bd_unsure bd_tried bd_triedFedBits bf_seatOf bf_one bf_other bf_kind bf_years bf_sawn bf_pairs bf_gone nw_seatOf nw_one nw_other nw_kind nw_years nw_sawn nw_pairs nw_gone sc_seatOf sc_handle sc_both sc_slopOf sc_forkBits sc_canBits sc_bestBits sc_bestSlops sl_bits sl_count se_bestRow se_row se_pairAt se_hope se_hopeAt se_slopAt se_farBits se_gain se_worth se_bestWorth se_fresh ch_both ch_cost ch_bit ch_items ch_leastCost ch_leastBits cl_bits cl_count fi_sets fi_count ps_act ps_whom ps_amount ps_next ps_count i0_seatOf i0_one i0_other i0_kind i0_years i0_sawn i0_pairs i0_gone i1_seatOf i1_one i1_other i1_kind i1_years i1_sawn i1_pairs i1_gone i2_seatOf i2_one i2_other i2_kind i2_years i2_sawn i2_pairs i2_gone) H locs → lv_has ls 7 [(0, .ref (ad 58)), (1, .int l1), (3, .ref (ad 21)), (4, .int x1), (5, .int x8)] → W p l e (xR 3 64) s m args below meth c H locs 0 0 (MQ below (xqI E A (wX E ad x_imageCount x_lastTrouble x_lastFault x_lastPlace pa_names pa_faultNumber pa_faultPlace rd_tape rd_length rd_end rd_next rd_sort rd_start rd_value rd_word to_unsurePair to_unsureYears to_triedPair to_seats to_slack to_sawInches to_quarrelChance to_people to_forkBits to_unsure to_tried to_triedFedBits tf_seatOf tf_one tf_other tf_kind tf_years tf_sawn tf_pairs tf_gone bd_unsurePair bd_unsureYears bd_triedPair bd_seats bd_slack bd_sawInches bd_quarrelChance bd_people bd_forkBits bd_unsure bd_tried bd_triedFedBits bf_seatOf bf_one bf_other bf_kind bf_years bf_sawn bf_pairs bf_gone nw_seatOf nw_one nw_other nw_kind nw_years nw_sawn nw_pairs nw_gone sc_seatOf sc_handle sc_both sc_slopOf sc_forkBits sc_canBits sc_bestBits sc_bestSlops sl_bits sl_count se_bestRow se_row se_pairAt se_hope se_hopeAt se_slopAt se_farBits se_gain se_worth se_bestWorth se_fresh ch_both ch_cost ch_bit ch_items ch_leastCost ch_leastBits cl_bits cl_count fi_sets fi_count ps_act ps_whom ps_amount ps_next ps_count i0_seatOf i0_one i0_other i0_kind i0_years i0_sawn i0_pairs i0_gone i1_seatOf i1_one i1_other i1_kind i1_years i1_sawn i1_pairs i1_gone i2_seatOf i2_one i2_other i2_kind i2_years i2_sawn i2_pairs i2_gone) (some .boolean) R0) args s 0 0 A) (F0 m 95 ls []) := by
    intro H locs ls G hl
    refine lv_aload_n hx hb dX2_isSo_95 rfl (lv_at hl 2 rfl) ?_
    refine x_get C G fX2_58 (wX_at21) rfl dX2_isSo_96 ?_
    refine lv_iload hx hb dX2_isSo_99 (lv_at hl 3 rfl) ?_
    have hi := ck_in hf
    have hf := ck_go hf
    refine x_iald C G (wX_at25) hi dX2_isSo_101 ?_
    refine lv_iload hx hb dX2_isSo_102 (lv_at hl 4 rfl) ?_
    refine lv_aload_n hx hb dX2_isSo_104 rfl (lv_at hl 2 rfl) ?_
    refine lv_iload hx hb dX2_isSo_105 (lv_at hl 3 rfl) ?_
    obtain ⟨x9, hc, hf⟩ := bd_go hf
    refine xI_V C G (c_Now_far_bf hc) mX4_far kX2_64 (wX_at21) rfl ⟨Nat.le_of_ble_eq_true rfl, Nat.le_of_ble_eq_true rfl⟩ rfl hl.1 rfl (Nat.le_of_ble_eq_true rfl) ⟨Nat.le_refl _, Nat.le_refl _⟩ dX2_isSo_107 (fun hz H locs G => ?_)
    refine lv_aload_n hx hb dX2_isSo_110 rfl (lv_at hl 0 rfl) ?_
    refine x_get C G fX2_15 (wX_at58) rfl dX2_isSo_111 ?_
    refine x_get C G fX2_67.g (wX_at17) rfl dX2_isSo_114 ?_
    obtain ⟨x10, hc, hf⟩ := bd_go hf
    refine xI_S C G (c_X_reaches_any hc) mX10_reaches kX2_70 ⟨Nat.le_of_ble_eq_true rfl, Nat.le_of_ble_eq_true rfl⟩ rfl hl.1 rfl (Nat.le_of_ble_eq_true rfl) ⟨Nat.le_refl _, Nat.le_refl _⟩ dX2_isSo_117 (fun hz10 H locs G => ?_)
    refine lv_aload_n hx hb dX2_isSo_120 rfl (lv_at hl 0 rfl) ?_
    refine x_get C G fX2_15 (wX_at58) rfl dX2_isSo_121 ?_
    refine x_get C G fX2_74.g (wX_at17) rfl dX2_isSo_124 ?_
    refine lv_iload_n hx hb dX2_isSo_127 rfl (lv_at hl 1 rfl) ?_
    obtain ⟨x11, hc, hf⟩ := bd_go hf
    refine xI_S C G (c_X_has_any hc) mX10_has kX2_52 ⟨Nat.le_of_ble_eq_true rfl, Nat.le_of_ble_eq_true rfl⟩ rfl hl.1 rfl (Nat.le_of_ble_eq_true rfl) ⟨Nat.le_refl _, Nat.le_refl _⟩ dX2_isSo_128 (fun hz11 H locs G => ?_)
    refine lv_icmp_ne (tgt := 138) hx hb dX2_isSo_131 (by decide) (fun h => ?_) (fun h => ?_)
    · have hf := it_f h hf
      refine lv_iconst (v := 0) hx hb dX2_isSo_138 (by decide) ?_
      obtain rfl := Option.some.inj hf
      exact xI_ret (r := (0 : Int32)) C G rfl dX2_isSo_139
    · have hf := it_t h hf
      refine lv_iconst (v := 1) hx hb dX2_isSo_134 (by decide) ?_
      refine lv_goto (tgt := 139) hx hb dX2_isSo_135 (by decide) ?_
      obtain rfl := Option.some.inj hf
      exact xI_ret (r := (1 : Int32)) C G rfl dX2_isSo_139
  exact w_Fitter_isSo_fi_L30 C Jx8 fu _ _ _ _ _ G (lv_sub hl [4, 5, 6, 3, 2, 1, 0] rfl) hr
set_option maxHeartbeats 4000000 in
set_option maxRecDepth 100000 in
theorem w_Fitter_isFit_fi_L2 {p : Program} {l : Launch} {e : Env} {s : State} {m : MethodId} {args : Array Value} {below : List Frame} {meth : Method} {c : Code} {A : Nat → Prop} {E : xE} {ad : Nat → Nat} {x_imageCount x_lastTrouble x_lastFault x_lastPlace pa_faultNumber pa_faultPlace rd_length rd_end rd_next rd_sort rd_start rd_value to_seats to_slack to_sawInches to_quarrelChance to_people to_forkBits to_unsure to_tried to_triedFedBits tf_pairs tf_gone bd_seats bd_slack bd_sawInches bd_quarrelChance bd_people bd_forkBits bd_unsure bd_tried bd_triedFedBits bf_pairs bf_gone nw_pairs nw_gone sc_forkBits sc_canBits sc_bestBits sc_bestSlops sl_count se_bestWorth se_fresh ch_items ch_leastCost ch_leastBits cl_count fi_count ps_next ps_count i0_pairs i0_gone i1_pairs i1_gone i2_pairs i2_gone : Int32} {pa_names : Nat → Int64} {rd_tape to_unsurePair to_unsureYears to_triedPair tf_seatOf tf_one tf_other tf_kind tf_years tf_sawn bd_unsurePair bd_unsureYears bd_triedPair bf_seatOf bf_one bf_other bf_kind bf_years bf_sawn nw_seatOf nw_one nw_other nw_kind nw_years nw_sawn sc_seatOf sc_handle sc_both sc_slopOf sl_bits se_bestRow se_row se_pairAt se_hope se_hopeAt se_slopAt se_farBits se_gain se_worth ch_both ch_cost ch_bit cl_bits fi_sets ps_act ps_whom ps_amount i0_seatOf i0_one i0_other i0_kind i0_years i0_sawn i1_seatOf i1_one i1_other i1_kind i1_years i1_sawn i2_seatOf i2_one i2_other i2_kind i2_years i2_sawn : Nat → Int32} {rd_word : Int64} {l1 : Int32} {o : (Int32) ⊕ (Unit)} {R0 : Int32} (C : xC p s m args meth c cX2_isFit 3 RX2 E A (some .boolean)) (Jr : ∀ r, o = .inl r → r = R0) (J : ∀ t, o = .inr t → ∀ (H : Heap) (locs : List Loc) (ls : Array Slot), xG s E A (wX E ad x_imageCount x_lastTrouble x_lastFault x_lastPlace pa_names pa_faultNumber pa_faultPlace rd_tape rd_length rd_end rd_next rd_sort rd_start rd_value rd_word to_unsurePair to_unsureYears to_triedPair to_seats to_slack to_sawInches to_quarrelChance to_people to_forkBits to_unsure to_tried to_triedFedBits tf_seatOf tf_one tf_other tf_kind tf_years tf_sawn tf_pairs tf_gone bd_unsurePair bd_unsureYears bd_triedPair bd_seats bd_slack bd_sawInches bd_quarrelChance bd_people bd_forkBits bd_unsure bd_tried bd_triedFedBits bf_seatOf bf_one bf_other bf_kind bf_years bf_sawn bf_pairs bf_gone nw_seatOf nw_one nw_other nw_kind nw_years nw_sawn nw_pairs nw_gone sc_seatOf sc_handle sc_both sc_slopOf sc_forkBits sc_canBits sc_bestBits sc_bestSlops sl_bits sl_count se_bestRow se_row se_pairAt se_hope se_hopeAt se_slopAt se_farBits se_gain se_worth se_bestWorth se_fresh ch_both ch_cost ch_bit ch_items ch_leastCost ch_leastBits cl_bits cl_count fi_sets fi_count ps_act ps_whom ps_amount ps_next ps_count i0_seatOf i0_one i0_other i0_kind i0_years i0_sawn i0_pairs i0_gone i1_seatOf i1_one i1_other i1_kind i1_years i1_sawn i1_pairs i1_gone i2_seatOf i2_one i2_other i2_kind i2_years i2_sawn i2_pairs i2_gone) H locs → lv_has ls 3 [] → W p l e (xR 4 90) s m args below meth c H locs 0 0 (MQ below (xqI E A (wX E ad x_imageCount x_lastTrouble x_lastFault x_lastPlace pa_names pa_faultNumber pa_faultPlace rd_tape rd_length rd_end rd_next rd_sort rd_start rd_value rd_word to_unsurePair to_unsureYears to_triedPair to_seats to_slack to_sawInches to_quarrelChance to_people to_forkBits to_unsure to_tried to_triedFedBits tf_seatOf tf_one tf_other tf_kind tf_years tf_sawn tf_pairs tf_gone bd_unsurePair bd_unsureYears bd_triedPair bd_seats bd_slack bd_sawInches bd_quarrelChance bd_people bd_forkBits bd_unsure bd_tried bd_triedFedBits bf_seatOf bf_one bf_other bf_kind bf_years bf_sawn bf_pairs bf_gone nw_seatOf nw_one nw_other nw_kind nw_years nw_sawn nw_pairs nw_gone sc_seatOf sc_handle sc_both sc_slopOf sc_forkBits sc_canBits sc_bestBits sc_bestSlops sl_bits sl_count se_bestRow se_row se_pairAt se_hope se_hopeAt se_slopAt se_farBits se_gain se_worth se_bestWorth se_fresh ch_both ch_cost ch_bit ch_items ch_leastCost ch_leastBits cl_bits cl_count fi_sets fi_count ps_act ps_whom ps_amount ps_next ps_count i0_seatOf i0_one i0_other i0_kind i0_years i0_sawn i0_pairs i0_gone i1_seatOf i1_one i1_other i1_kind i1_years i1_sawn i1_pairs i1_gone i2_seatOf i2_one i2_other i2_kind i2_years i2_sawn i2_pairs i2_gone) (some .boolean) R0) args s 0 0 A) (F0 m 30 ls [])) :
    ∀ (n : Nat) (l2 : Int32) (H : Heap) (locs : List Loc) (ls : Array Slot), xG s E A (wX E ad x_imageCount x_lastTrouble x_lastFault x_lastPlace pa_names pa_faultNumber pa_faultPlace rd_tape rd_length rd_end rd_next rd_sort rd_start rd_value rd_word to_unsurePair to_unsureYears to_triedPair to_seats to_slack to_sawInches to_quarrelChance to_people to_forkBits to_unsure to_tried to_triedFedBits tf_seatOf tf_one tf_other tf_kind tf_years tf_sawn tf_pairs tf_gone bd_unsurePair bd_unsureYears bd_triedPair bd_seats bd_slack bd_sawInches bd_quarrelChance bd_people bd_forkBits bd_unsure bd_tried bd_triedFedBits bf_seatOf bf_one bf_other bf_kind bf_years bf_sawn bf_pairs bf_gone nw_seatOf nw_one nw_other nw_kind nw_years nw_sawn nw_pairs nw_gone sc_seatOf sc_handle sc_both sc_slopOf sc_forkBits sc_canBits sc_bestBits sc_bestSlops sl_bits sl_count se_bestRow se_row se_pairAt se_hope se_hopeAt se_slopAt se_farBits se_gain se_worth se_bestWorth se_fresh ch_both ch_cost ch_bit ch_items ch_leastCost ch_leastBits cl_bits cl_count fi_sets fi_count ps_act ps_whom ps_amount ps_next ps_count i0_seatOf i0_one i0_other i0_kind i0_years i0_sawn i0_pairs i0_gone i1_seatOf i1_one i1_other i1_kind i1_years i1_sawn i1_pairs i1_gone i2_seatOf i2_one i2_other i2_kind i2_years i2_sawn i2_pairs i2_gone) H locs → lv_has ls 3 [(0, .ref (ad 58)), (1, .int l1), (2, .int l2)] → f_Fitter_isFit_L2 l1 bd_unsurePair bd_unsureYears bd_triedPair bd_slack bd_unsure bd_tried bd_triedFedBits bf_seatOf bf_one bf_other bf_kind bf_years bf_sawn n l2 = some o → W p l e (xR 4 90) s m args below meth c H locs 0 0 (MQ below (xqI E A (wX E ad x_imageCount x_lastTrouble x_lastFault x_lastPlace pa_names pa_faultNumber pa_faultPlace rd_tape rd_length rd_end rd_next rd_sort rd_start rd_value rd_word to_unsurePair to_unsureYears to_triedPair to_seats to_slack to_sawInches to_quarrelChance to_people to_forkBits to_unsure to_tried to_triedFedBits tf_seatOf tf_one tf_other tf_kind tf_years tf_sawn tf_pairs tf_gone bd_unsurePair bd_unsureYears bd_triedPair bd_seats bd_slack bd_sawInches bd_quarrelChance bd_people bd_forkBits bd_unsure bd_tried bd_triedFedBits bf_seatOf bf_one bf_other bf_kind bf_years bf_sawn bf_pairs bf_gone nw_seatOf nw_one nw_other nw_kind nw_years nw_sawn nw_pairs nw_gone sc_seatOf sc_handle sc_both sc_slopOf sc_forkBits sc_canBits sc_bestBits sc_bestSlops sl_bits sl_count se_bestRow se_row se_pairAt se_hope se_hopeAt se_slopAt se_farBits se_gain se_worth se_bestWorth se_fresh ch_both ch_cost ch_bit ch_items ch_leastCost ch_leastBits cl_bits cl_count fi_sets fi_count ps_act ps_whom ps_amount ps_next ps_count i0_seatOf i0_one i0_other i0_kind i0_years i0_sawn i0_pairs i0_gone i1_seatOf i1_one i1_other i1_kind i1_years i1_sawn i1_pairs i1_gone i2_seatOf i2_one i2_other i2_kind i2_years i2_sawn i2_pairs i2_gone) (some .boolean) R0) args s 0 0 A) (F0 m 2 ls []) := by
  have hx := C.1
  have hb := C.2.1
  intro n
  induction n with
  | zero =>
    intro l2 H locs ls G hl hf
    exact nomatch (show (none : Option ((Int32) ⊕ (Unit))) = some o from hf)
  | succ n ih =>
    intro l2 H locs ls G hl hf
    rw [f_Fitter_isFit_L2] at hf
    refine lv_iload_n hx hb dX2_isFit_2 rfl (lv_at hl 2 rfl) ?_
    refine lv_aload_n hx hb dX2_isFit_3 rfl (lv_at hl 0 rfl) ?_
    refine x_get C G fX2_15 (wX_at58) rfl dX2_isFit_4 ?_
    refine x_get C G fX2_32.g (wX_at17) rfl dX2_isFit_7 ?_
    refine lv_icmp_ge (tgt := 30) hx hb dX2_isFit_10 (by decide) (fun h => ?_) (fun h => ?_)
    · have hf := it_t h hf
      exact J _ (Option.some.inj hf).symm _ _ _ G (lv_sub hl [] rfl)
    · have hf := it_f h hf
      refine lv_aload_n hx hb dX2_isFit_13 rfl (lv_at hl 0 rfl) ?_
      refine lv_iload_n hx hb dX2_isFit_14 rfl (lv_at hl 2 rfl) ?_
      refine lv_iload_n hx hb dX2_isFit_15 rfl (lv_at hl 1 rfl) ?_
      obtain ⟨x1, hc, hf⟩ := bd_go hf
      refine xI_V C G (c_Fitter_isSo_fi hc) mX2_isSo kX2_35 (wX_at58) rfl ⟨Nat.le_of_ble_eq_true rfl, Nat.le_of_ble_eq_true rfl⟩ rfl hl.1 rfl (Nat.le_of_ble_eq_true rfl) ⟨Nat.le_refl _, Nat.le_refl _⟩ dX2_isFit_16 (fun hz1 H locs G => ?_)
      refine lv_if_ne (tgt := 24) hx hb dX2_isFit_19 (by decide) (fun h => ?_) (fun h => ?_)
      · have hf := it_f h hf
        obtain ⟨x2, ex2⟩ : ∃ z : Int32, z = l2 + (1 : Int32) := ⟨_, rfl⟩
        have hf := lt_go ex2 hf
        refine lv_iinc (v := x2) (lv' := [(2, .int x2), (0, .ref (ad 58)), (1, .int l1)]) hx hb dX2_isFit_24 hl (k := 2) rfl (by rw [ex2]; rfl) (by decide) rfl (fun ls hl => ?_)
        refine lv_goto (tgt := 2) hx hb dX2_isFit_27 (by decide) ?_
        exact ih x2 _ _ _ G (lv_sub hl [1, 2, 0] rfl) hf
      · have hf := it_t h hf
        refine lv_iconst (v := 0) hx hb dX2_isFit_22 (by decide) ?_
        obtain rfl := Jr _ (Option.some.inj hf).symm
        exact xI_ret (r := (0 : Int32)) C G rfl dX2_isFit_23
set_option maxHeartbeats 4000000 in
set_option maxRecDepth 100000 in
theorem c_Fitter_isFit_fi {l : Launch} {E : xE} {ad : Nat → Nat} {x_imageCount x_lastTrouble x_lastFault x_lastPlace pa_faultNumber pa_faultPlace rd_length rd_end rd_next rd_sort rd_start rd_value to_seats to_slack to_sawInches to_quarrelChance to_people to_forkBits to_unsure to_tried to_triedFedBits tf_pairs tf_gone bd_seats bd_slack bd_sawInches bd_quarrelChance bd_people bd_forkBits bd_unsure bd_tried bd_triedFedBits bf_pairs bf_gone nw_pairs nw_gone sc_forkBits sc_canBits sc_bestBits sc_bestSlops sl_count se_bestWorth se_fresh ch_items ch_leastCost ch_leastBits cl_count fi_count ps_next ps_count i0_pairs i0_gone i1_pairs i1_gone i2_pairs i2_gone : Int32} {pa_names : Nat → Int64} {rd_tape to_unsurePair to_unsureYears to_triedPair tf_seatOf tf_one tf_other tf_kind tf_years tf_sawn bd_unsurePair bd_unsureYears bd_triedPair bf_seatOf bf_one bf_other bf_kind bf_years bf_sawn nw_seatOf nw_one nw_other nw_kind nw_years nw_sawn sc_seatOf sc_handle sc_both sc_slopOf sl_bits se_bestRow se_row se_pairAt se_hope se_hopeAt se_slopAt se_farBits se_gain se_worth ch_both ch_cost ch_bit cl_bits fi_sets ps_act ps_whom ps_amount i0_seatOf i0_one i0_other i0_kind i0_years i0_sawn i1_seatOf i1_one i1_other i1_kind i1_years i1_sawn i2_seatOf i2_one i2_other i2_kind i2_years i2_sawn : Nat → Int32} {rd_word : Int64} {l1 : Int32} {R0 : Int32} (hf : f_Fitter_isFit l1 bd_unsurePair bd_unsureYears bd_triedPair bd_slack bd_unsure bd_tried bd_triedFedBits bf_seatOf bf_one bf_other bf_kind bf_years bf_sawn = some R0) : xI l E yX2_isFit cX2_isFit 3 (some .boolean) 4 90 [.ref (ad 58), .int l1] (wX E ad x_imageCount x_lastTrouble x_lastFault x_lastPlace pa_names pa_faultNumber pa_faultPlace rd_tape rd_length rd_end rd_next rd_sort rd_start rd_value rd_word to_unsurePair to_unsureYears to_triedPair to_seats to_slack to_sawInches to_quarrelChance to_people to_forkBits to_unsure to_tried to_triedFedBits tf_seatOf tf_one tf_other tf_kind tf_years tf_sawn tf_pairs tf_gone bd_unsurePair bd_unsureYears bd_triedPair bd_seats bd_slack bd_sawInches bd_quarrelChance bd_people bd_forkBits bd_unsure bd_tried bd_triedFedBits bf_seatOf bf_one bf_other bf_kind bf_years bf_sawn bf_pairs bf_gone nw_seatOf nw_one nw_other nw_kind nw_years nw_sawn nw_pairs nw_gone sc_seatOf sc_handle sc_both sc_slopOf sc_forkBits sc_canBits sc_bestBits sc_bestSlops sl_bits sl_count se_bestRow se_row se_pairAt se_hope se_hopeAt se_slopAt se_farBits se_gain se_worth se_bestWorth se_fresh ch_both ch_cost ch_bit ch_items ch_leastCost ch_leastBits cl_bits cl_count fi_sets fi_count ps_act ps_whom ps_amount ps_next ps_count i0_seatOf i0_one i0_other i0_kind i0_years i0_sawn i0_pairs i0_gone i1_seatOf i1_one i1_other i1_kind i1_years i1_sawn i1_pairs i1_gone i2_seatOf i2_one i2_other i2_kind i2_years i2_sawn i2_pairs i2_gone) (wX E ad x_imageCount x_lastTrouble x_lastFault x_lastPlace pa_names pa_faultNumber pa_faultPlace rd_tape rd_length rd_end rd_next rd_sort rd_start rd_value rd_word to_unsurePair to_unsureYears to_triedPair to_seats to_slack to_sawInches to_quarrelChance to_people to_forkBits to_unsure to_tried to_triedFedBits tf_seatOf tf_one tf_other tf_kind tf_years tf_sawn tf_pairs tf_gone bd_unsurePair bd_unsureYears bd_triedPair bd_seats bd_slack bd_sawInches bd_quarrelChance bd_people bd_forkBits bd_unsure bd_tried bd_triedFedBits bf_seatOf bf_one bf_other bf_kind bf_years bf_sawn bf_pairs bf_gone nw_seatOf nw_one nw_other nw_kind nw_years nw_sawn nw_pairs nw_gone sc_seatOf sc_handle sc_both sc_slopOf sc_forkBits sc_canBits sc_bestBits sc_bestSlops sl_bits sl_count se_bestRow se_row se_pairAt se_hope se_hopeAt se_slopAt se_farBits se_gain se_worth se_bestWorth se_fresh ch_both ch_cost ch_bit ch_items ch_leastCost ch_leastBits cl_bits cl_count fi_sets fi_count ps_act ps_whom ps_amount ps_next ps_count i0_seatOf i0_one i0_other i0_kind i0_years i0_sawn i0_pairs i0_gone i1_seatOf i1_one i1_other i1_kind i1_years i1_sawn i1_pairs i1_gone i2_seatOf i2_one i2_other i2_kind i2_years i2_sawn i2_pairs i2_gone) R0 := by
  refine xI_of (by decide) (Nat.le_of_ble_eq_true rfl) (fun p e s m args below meth c A C ls hl G => ?_)
  have hx := C.1
  have hb := C.2.1
  have hl : lv_has ls 3 [(0, .ref (ad 58)), (1, .int l1)] := hl
  unfold f_Fitter_isFit at hf
  refine lv_iconst (v := 0) hx hb dX2_isFit_0 (by decide) ?_
  refine lv_istore_n (lv' := [(2, .int (0 : Int32)), (0, .ref (ad 58)), (1, .int l1)]) hx hb dX2_isFit_1 rfl hl (by decide) rfl (fun ls hl => ?_)
  obtain ⟨ox3, hr, hf⟩ := bd_go hf
  have Jx3 : ∀ x3, ox3 = .inr x3 → ∀ (H : Heap) (locs : List Loc) (ls : Array Slot), xG s E A (wX E ad x_imageCount x_lastTrouble x_lastFault x_lastPlace pa_names pa_faultNumber pa_faultPlace rd_tape rd_length rd_end rd_next rd_sort rd_start rd_value rd_word to_unsurePair to_unsureYears to_triedPair to_seats to_slack to_sawInches to_quarrelChance to_people to_forkBits to_unsure to_tried to_triedFedBits tf_seatOf tf_one tf_other tf_kind tf_years tf_sawn tf_pairs tf_gone bd_unsurePair bd_unsureYears bd_triedPair bd_seats bd_slack bd_sawInches bd_quarrelChance bd_people bd_forkBits bd_unsure bd_tried bd_triedFedBits bf_seatOf bf_one bf_other bf_kind bf_years bf_sawn bf_pairs bf_gone nw_seatOf nw_one nw_other nw_kind nw_years nw_sawn nw_pairs nw_gone sc_seatOf sc_handle sc_both sc_slopOf sc_forkBits sc_canBits sc_bestBits sc_bestSlops sl_bits sl_count se_bestRow se_row se_pairAt se_hope se_hopeAt se_slopAt se_farBits se_gain se_worth se_bestWorth se_fresh ch_both ch_cost ch_bit ch_items ch_leastCost ch_leastBits cl_bits cl_count fi_sets fi_count ps_act ps_whom ps_amount ps_next ps_count i0_seatOf i0_one i0_other i0_kind i0_years i0_sawn i0_pairs i0_gone i1_seatOf i1_one i1_other i1_kind i1_years i1_sawn i1_pairs i1_gone i2_seatOf i2_one i2_other i2_kind i2_years i2_sawn i2_pairs i2_gone) H locs → lv_has ls 3 [] → W p l e (xR 4 90) s m args below meth c H locs 0 0 (MQ below (xqI E A (wX E ad x_imageCount x_lastTrouble x_lastFault x_lastPlace pa_names pa_faultNumber pa_faultPlace rd_tape rd_length rd_end rd_next rd_sort rd_start rd_value rd_word to_unsurePair to_unsureYears to_triedPair to_seats to_slack to_sawInches to_quarrelChance to_people to_forkBits to_unsure to_tried to_triedFedBits tf_seatOf tf_one tf_other tf_kind tf_years tf_sawn tf_pairs tf_gone bd_unsurePair bd_unsureYears bd_triedPair bd_seats bd_slack bd_sawInches bd_quarrelChance bd_people bd_forkBits bd_unsure bd_tried bd_triedFedBits bf_seatOf bf_one bf_other bf_kind bf_years bf_sawn bf_pairs bf_gone nw_seatOf nw_one nw_other nw_kind nw_years nw_sawn nw_pairs nw_gone sc_seatOf sc_handle sc_both sc_slopOf sc_forkBits sc_canBits sc_bestBits sc_bestSlops sl_bits sl_count se_bestRow se_row se_pairAt se_hope se_hopeAt se_slopAt se_farBits se_gain se_worth se_bestWorth se_fresh ch_both ch_cost ch_bit ch_items ch_leastCost ch_leastBits cl_bits cl_count fi_sets fi_count ps_act ps_whom ps_amount ps_next ps_count i0_seatOf i0_one i0_other i0_kind i0_years i0_sawn i0_pairs i0_gone i1_seatOf i1_one i1_other i1_kind i1_years i1_sawn i1_pairs i1_gone i2_seatOf i2_one i2_other i2_kind i2_years i2_sawn i2_pairs i2_gone) (some .boolean) R0) args s 0 0 A) (F0 m 30 ls []) := by
    intro x3 hq H locs ls G hl
    subst hq
    have hf := sm_r hf
    refine lv_iconst (v := 1) hx hb dX2_isFit_30 (by decide) ?_
    obtain rfl := Option.some.inj hf
    exact xI_ret (r := (1 : Int32)) C G rfl dX2_isFit_31
  have Jrx3 : ∀ r, ox3 = .inl r → r = R0 := by
    intro r hq
    subst hq
    exact Option.some.inj hf
  exact w_Fitter_isFit_fi_L2 C Jrx3 Jx3 fu _ _ _ _ G (lv_sub hl [1, 2, 0] rfl) hr
set_option maxHeartbeats 4000000 in
set_option maxRecDepth 100000 in
theorem w_Fitter_collect_fi_L7 {p : Program} {l : Launch} {e : Env} {s : State} {m : MethodId} {args : Array Value} {below : List Frame} {meth : Method} {c : Code} {A : Nat → Prop} {E : xE} {Q : State → Prop} {ad : Nat → Nat} {x_imageCount x_lastTrouble x_lastFault x_lastPlace pa_faultNumber pa_faultPlace rd_length rd_end rd_next rd_sort rd_start rd_value to_seats to_slack to_sawInches to_quarrelChance to_people to_forkBits to_unsure to_tried to_triedFedBits tf_pairs tf_gone bd_seats bd_slack bd_sawInches bd_quarrelChance bd_people bd_forkBits bd_unsure bd_tried bd_triedFedBits bf_pairs bf_gone nw_pairs nw_gone sc_forkBits sc_canBits sc_bestBits sc_bestSlops sl_count se_bestWorth se_fresh ch_items ch_leastCost ch_leastBits cl_count ps_next ps_count i0_pairs i0_gone i1_pairs i1_gone i2_pairs i2_gone : Int32} {pa_names : Nat → Int64} {rd_tape to_unsurePair to_unsureYears to_triedPair tf_seatOf tf_one tf_other tf_kind tf_years tf_sawn bd_unsurePair bd_unsureYears bd_triedPair bf_seatOf bf_one bf_other bf_kind bf_years bf_sawn nw_seatOf nw_one nw_other nw_kind nw_years nw_sawn sc_seatOf sc_handle sc_both sc_slopOf sl_bits se_bestRow se_row se_pairAt se_hope se_hopeAt se_slopAt se_farBits se_gain se_worth ch_both ch_cost ch_bit cl_bits ps_act ps_whom ps_amount i0_seatOf i0_one i0_other i0_kind i0_years i0_sawn i1_seatOf i1_one i1_other i1_kind i1_years i1_sawn i2_seatOf i2_one i2_other i2_kind i2_years i2_sawn : Nat → Int32} {rd_word : Int64} {o : (Nat → Int32) × Int32} (C : xC p s m args meth c cX2_collect 2 RX2 E A none) (J : ∀ (H : Heap) (locs : List Loc) (ls : Array Slot), xG s E A (wX E ad x_imageCount x_lastTrouble x_lastFault x_lastPlace pa_names pa_faultNumber pa_faultPlace rd_tape rd_length rd_end rd_next rd_sort rd_start rd_value rd_word to_unsurePair to_unsureYears to_triedPair to_seats to_slack to_sawInches to_quarrelChance to_people to_forkBits to_unsure to_tried to_triedFedBits tf_seatOf tf_one tf_other tf_kind tf_years tf_sawn tf_pairs tf_gone bd_unsurePair bd_unsureYears bd_triedPair bd_seats bd_slack bd_sawInches bd_quarrelChance bd_people bd_forkBits bd_unsure bd_tried bd_triedFedBits bf_seatOf bf_one bf_other bf_kind bf_years bf_sawn bf_pairs bf_gone nw_seatOf nw_one nw_other nw_kind nw_years nw_sawn nw_pairs nw_gone sc_seatOf sc_handle sc_both sc_slopOf sc_forkBits sc_canBits sc_bestBits sc_bestSlops sl_bits sl_count se_bestRow se_row se_pairAt se_hope se_hopeAt se_slopAt se_farBits se_gain se_worth se_bestWorth se_fresh ch_both ch_cost ch_bit ch_items ch_leastCost ch_leastBits cl_bits cl_count o.1 o.2 ps_act ps_whom ps_amount ps_next ps_count i0_seatOf i0_one i0_other i0_kind i0_years i0_sawn i0_pairs i0_gone i1_seatOf i1_one i1_other i1_kind i1_years i1_sawn i1_pairs i1_gone i2_seatOf i2_one i2_other i2_kind i2_years i2_sawn i2_pairs i2_gone) H locs → lv_has ls 2 [] → W p l e (xR 5 112) s m args below meth c H locs 0 0 Q (F0 m 63 ls [])) :
    ∀ (n : Nat) (l1 : Int32) (fi_sets : Nat → Int32) (fi_count : Int32) (H : Heap) (locs : List Loc) (ls : Array Slot), xG s E A (wX E ad x_imageCount x_lastTrouble x_lastFault x_lastPlace pa_names pa_faultNumber pa_faultPlace rd_tape rd_length rd_end rd_next rd_sort rd_start rd_value rd_word to_unsurePair to_unsureYears to_triedPair to_seats to_slack to_sawInches to_quarrelChance to_people to_forkBits to_unsure to_tried to_triedFedBits tf_seatOf tf_one tf_other tf_kind tf_years tf_sawn tf_pairs tf_gone bd_unsurePair bd_unsureYears bd_triedPair bd_seats bd_slack bd_sawInches bd_quarrelChance bd_people bd_forkBits bd_unsure bd_tried bd_triedFedBits bf_seatOf bf_one bf_other bf_kind bf_years bf_sawn bf_pairs bf_gone nw_seatOf nw_one nw_other nw_kind nw_years nw_sawn nw_pairs nw_gone sc_seatOf sc_handle sc_both sc_slopOf sc_forkBits sc_canBits sc_bestBits sc_bestSlops sl_bits sl_count se_bestRow se_row se_pairAt se_hope se_hopeAt se_slopAt se_farBits se_gain se_worth se_bestWorth se_fresh ch_both ch_cost ch_bit ch_items ch_leastCost ch_leastBits cl_bits cl_count fi_sets fi_count ps_act ps_whom ps_amount ps_next ps_count i0_seatOf i0_one i0_other i0_kind i0_years i0_sawn i0_pairs i0_gone i1_seatOf i1_one i1_other i1_kind i1_years i1_sawn i1_pairs i1_gone i2_seatOf i2_one i2_other i2_kind i2_years i2_sawn i2_pairs i2_gone) H locs → lv_has ls 2 [(0, .ref (ad 58)), (1, .int l1)] → f_Fitter_collect_L7 bd_unsurePair bd_unsureYears bd_triedPair bd_slack bd_unsure bd_tried bd_triedFedBits bf_seatOf bf_one bf_other bf_kind bf_years bf_sawn n l1 fi_sets fi_count = some o → W p l e (xR 5 112) s m args below meth c H locs 0 0 Q (F0 m 7 ls []) := by
  have hx := C.1
  have hb := C.2.1
  intro n
  induction n with
  | zero =>
    intro l1 fi_sets fi_count H locs ls G hl hf
    exact nomatch (show (none : Option ((Nat → Int32) × Int32)) = some o from hf)
  | succ n ih =>
    intro l1 fi_sets fi_count H locs ls G hl hf
    rw [f_Fitter_collect_L7] at hf
    refine lv_iload_n hx hb dX2_collect_7 rfl (lv_at hl 1 rfl) ?_
    refine lv_iconst (v := 1) hx hb dX2_collect_8 (by decide) ?_
    refine lv_aload_n hx hb dX2_collect_9 rfl (lv_at hl 0 rfl) ?_
    refine x_get C G fX2_15 (wX_at58) rfl dX2_collect_10 ?_
    refine x_get C G fX2_23.g (wX_at17) rfl dX2_collect_13 ?_
    refine lv_ishl hx hb dX2_collect_16 ?_
    obtain ⟨b1, hr, hf⟩ := bd_go hf
    cases b1 with
    | true =>
      have hf := it_t rfl hf
      have J : ∀ (H : Heap) (locs : List Loc), xG s E A (wX E ad x_imageCount x_lastTrouble x_lastFault x_lastPlace pa_names pa_faultNumber pa_faultPlace rd_tape rd_length rd_end rd_next rd_sort rd_start rd_value rd_word to_unsurePair to_unsureYears to_triedPair to_seats to_slack to_sawInches to_quarrelChance to_people to_forkBits to_unsure to_tried to_triedFedBits tf_seatOf tf_one tf_other tf_kind tf_years tf_sawn tf_pairs tf_gone bd_unsurePair bd_unsureYears bd_triedPair bd_seats bd_slack bd_sawInches bd_quarrelChance bd_people bd_forkBits bd_unsure bd_tried bd_triedFedBits bf_seatOf bf_one bf_other bf_kind bf_years bf_sawn bf_pairs bf_gone nw_seatOf nw_one nw_other nw_kind nw_years nw_sawn nw_pairs nw_gone sc_seatOf sc_handle sc_both sc_slopOf sc_forkBits sc_canBits sc_bestBits sc_bestSlops sl_bits sl_count se_bestRow se_row se_pairAt se_hope se_hopeAt se_slopAt se_farBits se_gain se_worth se_bestWorth se_fresh ch_both ch_cost ch_bit ch_items ch_leastCost ch_leastBits cl_bits cl_count fi_sets fi_count ps_act ps_whom ps_amount ps_next ps_count i0_seatOf i0_one i0_other i0_kind i0_years i0_sawn i0_pairs i0_gone i1_seatOf i1_one i1_other i1_kind i1_years i1_sawn i1_pairs i1_gone i2_seatOf i2_one i2_other i2_kind i2_years i2_sawn i2_pairs i2_gone) H locs → W p l e (xR 5 112) s m args below meth c H locs 0 0 Q (F0 m 63 ls []) := by
        intro H locs G
        obtain rfl := Option.some.inj hf
        exact J _ _ _ G (lv_sub hl [] rfl)
      have hf := hr
      clear hr
      refine lv_icmp_ge (tgt := 63) hx hb dX2_collect_17 (by decide) (fun h => ?_) (fun h => ?_)
      · have hf := it_t h hf
        exact J _ _ G
      · have hf := it_f h hf
        refine lv_aload_n hx hb dX2_collect_20 rfl (lv_at hl 0 rfl) ?_
        refine x_get C G fX2_19.g (wX_at58) rfl dX2_collect_21 ?_
        refine lv_bipush (v := 16) hx hb dX2_collect_24 (by decide) ?_
        refine lv_icmp_ge (tgt := 63) hx hb dX2_collect_26 (by decide) (fun h => ?_) (fun h => ?_)
        · have hf := it_t h hf
          exact J _ _ G
        · have hf := it_f h hf
          exact absurd (Option.some.inj hf) (by decide)
    | false =>
      have hf := it_f (by decide) hf
      have J : ∀ (H : Heap) (locs : List Loc), xG s E A (wX E ad x_imageCount x_lastTrouble x_lastFault x_lastPlace pa_names pa_faultNumber pa_faultPlace rd_tape rd_length rd_end rd_next rd_sort rd_start rd_value rd_word to_unsurePair to_unsureYears to_triedPair to_seats to_slack to_sawInches to_quarrelChance to_people to_forkBits to_unsure to_tried to_triedFedBits tf_seatOf tf_one tf_other tf_kind tf_years tf_sawn tf_pairs tf_gone bd_unsurePair bd_unsureYears bd_triedPair bd_seats bd_slack bd_sawInches bd_quarrelChance bd_people bd_forkBits bd_unsure bd_tried bd_triedFedBits bf_seatOf bf_one bf_other bf_kind bf_years bf_sawn bf_pairs bf_gone nw_seatOf nw_one nw_other nw_kind nw_years nw_sawn nw_pairs nw_gone sc_seatOf sc_handle sc_both sc_slopOf sc_forkBits sc_canBits sc_bestBits sc_bestSlops sl_bits sl_count se_bestRow se_row se_pairAt se_hope se_hopeAt se_slopAt se_farBits se_gain se_worth se_bestWorth se_fresh ch_both ch_cost ch_bit ch_items ch_leastCost ch_leastBits cl_bits cl_count fi_sets fi_count ps_act ps_whom ps_amount ps_next ps_count i0_seatOf i0_one i0_other i0_kind i0_years i0_sawn i0_pairs i0_gone i1_seatOf i1_one i1_other i1_kind i1_years i1_sawn i1_pairs i1_gone i2_seatOf i2_one i2_other i2_kind i2_years i2_sawn i2_pairs i2_gone) H locs → W p l e (xR 5 112) s m args below meth c H locs 0 0 Q (F0 m 29 ls []) := by
        intro H locs G
        refine lv_aload_n hx hb dX2_collect_29 rfl (lv_at hl 0 rfl) ?_
        refine lv_iload_n hx hb dX2_collect_30 rfl (lv_at hl 1 rfl) ?_
        obtain ⟨x2, hc, hf⟩ := bd_go hf
        refine xI_V C G (c_Fitter_isFit_fi hc) mX2_isFit kX2_28 (wX_at58) rfl ⟨Nat.le_of_ble_eq_true rfl, Nat.le_of_ble_eq_true rfl⟩ rfl hl.1 rfl (Nat.le_of_ble_eq_true rfl) ⟨Nat.le_refl _, Nat.le_refl _⟩ dX2_collect_31 (fun hz2 H locs G => ?_)
        refine lv_if_eq (tgt := 57) hx hb dX2_collect_34 (by decide) (fun h => ?_) (fun h => ?_)
        · have hf := it_t h hf
          obtain ⟨x3, ex3⟩ : ∃ z : Int32, z = l1 + (1 : Int32) := ⟨_, rfl⟩
          have hf := lt_go ex3 hf
          refine lv_iinc (v := x3) (lv' := [(1, .int x3), (0, .ref (ad 58))]) hx hb dX2_collect_57 hl (k := 1) rfl (by rw [ex3]; rfl) (by decide) rfl (fun ls hl => ?_)
          refine lv_goto (tgt := 7) hx hb dX2_collect_60 (by decide) ?_
          exact ih x3 fi_sets fi_count _ _ _ G (lv_sub hl [1, 0] rfl) hf
        · have hf := it_f h hf
          refine lv_aload_n hx hb dX2_collect_37 rfl (lv_at hl 0 rfl) ?_
          refine x_get C G fX2_9 (wX_at58) rfl dX2_collect_38 ?_
          refine lv_aload_n hx hb dX2_collect_41 rfl (lv_at hl 0 rfl) ?_
          refine x_get C G fX2_19.g (wX_at58) rfl dX2_collect_42 ?_
          refine lv_iload_n hx hb dX2_collect_45 rfl (lv_at hl 1 rfl) ?_
          have hi := ck_in hf
          have hf := ck_go hf
          refine x_iast (ws' := (wX E ad x_imageCount x_lastTrouble x_lastFault x_lastPlace pa_names pa_faultNumber pa_faultPlace rd_tape rd_length rd_end rd_next rd_sort rd_start rd_value rd_word to_unsurePair to_unsureYears to_triedPair to_seats to_slack to_sawInches to_quarrelChance to_people to_forkBits to_unsure to_tried to_triedFedBits tf_seatOf tf_one tf_other tf_kind tf_years tf_sawn tf_pairs tf_gone bd_unsurePair bd_unsureYears bd_triedPair bd_seats bd_slack bd_sawInches bd_quarrelChance bd_people bd_forkBits bd_unsure bd_tried bd_triedFedBits bf_seatOf bf_one bf_other bf_kind bf_years bf_sawn bf_pairs bf_gone nw_seatOf nw_one nw_other nw_kind nw_years nw_sawn nw_pairs nw_gone sc_seatOf sc_handle sc_both sc_slopOf sc_forkBits sc_canBits sc_bestBits sc_bestSlops sl_bits sl_count se_bestRow se_row se_pairAt se_hope se_hopeAt se_slopAt se_farBits se_gain se_worth se_bestWorth se_fresh ch_both ch_cost ch_bit ch_items ch_leastCost ch_leastBits cl_bits cl_count (upd fi_sets fi_count.toNatClampNeg l1) fi_count ps_act ps_whom ps_amount ps_next ps_count i0_seatOf i0_one i0_other i0_kind i0_years i0_sawn i0_pairs i0_gone i1_seatOf i1_one i1_other i1_kind i1_years i1_sawn i1_pairs i1_gone i2_seatOf i2_one i2_other i2_kind i2_years i2_sawn i2_pairs i2_gone)) C G (wX_at59) hi wX_set_fi_sets dX2_collect_46 (fun H locs G => ?_)
          refine lv_aload_n hx hb dX2_collect_47 rfl (lv_at hl 0 rfl) ?_
          refine lv_dup hx hb dX2_collect_48 rfl ?_
          refine x_get C G fX2_19.g (wX_at58) rfl dX2_collect_49 ?_
          refine lv_iconst (v := 1) hx hb dX2_collect_52 (by decide) ?_
          refine lv_iadd hx hb dX2_collect_53 ?_
          refine lv_topi (fun x4 ex4 => ?_)
          have hf := lt_go ex4 hf
          refine x_put (ws' := (wX E ad x_imageCount x_lastTrouble x_lastFault x_lastPlace pa_names pa_faultNumber pa_faultPlace rd_tape rd_length rd_end rd_next rd_sort rd_start rd_value rd_word to_unsurePair to_unsureYears to_triedPair to_seats to_slack to_sawInches to_quarrelChance to_people to_forkBits to_unsure to_tried to_triedFedBits tf_seatOf tf_one tf_other tf_kind tf_years tf_sawn tf_pairs tf_gone bd_unsurePair bd_unsureYears bd_triedPair bd_seats bd_slack bd_sawInches bd_quarrelChance bd_people bd_forkBits bd_unsure bd_tried bd_triedFedBits bf_seatOf bf_one bf_other bf_kind bf_years bf_sawn bf_pairs bf_gone nw_seatOf nw_one nw_other nw_kind nw_years nw_sawn nw_pairs nw_gone sc_seatOf sc_handle sc_both sc_slopOf sc_forkBits sc_canBits sc_bestBits sc_bestSlops sl_bits sl_count se_bestRow se_row se_pairAt se_hope se_hopeAt se_slopAt se_farBits se_gain se_worth se_bestWorth se_fresh ch_both ch_cost ch_bit ch_items ch_leastCost ch_leastBits cl_bits cl_count (upd fi_sets fi_count.toNatClampNeg l1) x4 ps_act ps_whom ps_amount ps_next ps_count i0_seatOf i0_one i0_other i0_kind i0_years i0_sawn i0_pairs i0_gone i1_seatOf i1_one i1_other i1_kind i1_years i1_sawn i1_pairs i1_gone i2_seatOf i2_one i2_other i2_kind i2_years i2_sawn i2_pairs i2_gone)) C G fX2_19 (wX_at58) rfl rfl (Nat.le_of_ble_eq_true rfl) wX_set_fi_count dX2_collect_54 (fun H locs G => ?_)
          obtain ⟨x5, ex5⟩ : ∃ z : Int32, z = l1 + (1 : Int32) := ⟨_, rfl⟩
          have hf := lt_go ex5 hf
          refine lv_iinc (v := x5) (lv' := [(1, .int x5), (0, .ref (ad 58))]) hx hb dX2_collect_57 hl (k := 1) rfl (by rw [ex5]; rfl) (by decide) rfl (fun ls hl => ?_)
          refine lv_goto (tgt := 7) hx hb dX2_collect_60 (by decide) ?_
          exact ih x5 (upd fi_sets fi_count.toNatClampNeg l1) x4 _ _ _ G (lv_sub hl [1, 0] rfl) hf
      have hf := hr
      clear hr
      refine lv_icmp_ge (tgt := 63) hx hb dX2_collect_17 (by decide) (fun h => ?_) (fun h => ?_)
      · have hf := it_t h hf
        exact absurd (Option.some.inj hf) (by decide)
      · have hf := it_f h hf
        refine lv_aload_n hx hb dX2_collect_20 rfl (lv_at hl 0 rfl) ?_
        refine x_get C G fX2_19.g (wX_at58) rfl dX2_collect_21 ?_
        refine lv_bipush (v := 16) hx hb dX2_collect_24 (by decide) ?_
        refine lv_icmp_ge (tgt := 63) hx hb dX2_collect_26 (by decide) (fun h => ?_) (fun h => ?_)
        · have hf := it_t h hf
          exact absurd (Option.some.inj hf) (by decide)
        · have hf := it_f h hf
          exact J _ _ G
set_option maxHeartbeats 4000000 in
set_option maxRecDepth 100000 in
theorem c_Fitter_collect_fi {l : Launch} {E : xE} {ad : Nat → Nat} {x_imageCount x_lastTrouble x_lastFault x_lastPlace pa_faultNumber pa_faultPlace rd_length rd_end rd_next rd_sort rd_start rd_value to_seats to_slack to_sawInches to_quarrelChance to_people to_forkBits to_unsure to_tried to_triedFedBits tf_pairs tf_gone bd_seats bd_slack bd_sawInches bd_quarrelChance bd_people bd_forkBits bd_unsure bd_tried bd_triedFedBits bf_pairs bf_gone nw_pairs nw_gone sc_forkBits sc_canBits sc_bestBits sc_bestSlops sl_count se_bestWorth se_fresh ch_items ch_leastCost ch_leastBits cl_count fi_count ps_next ps_count i0_pairs i0_gone i1_pairs i1_gone i2_pairs i2_gone : Int32} {pa_names : Nat → Int64} {rd_tape to_unsurePair to_unsureYears to_triedPair tf_seatOf tf_one tf_other tf_kind tf_years tf_sawn bd_unsurePair bd_unsureYears bd_triedPair bf_seatOf bf_one bf_other bf_kind bf_years bf_sawn nw_seatOf nw_one nw_other nw_kind nw_years nw_sawn sc_seatOf sc_handle sc_both sc_slopOf sl_bits se_bestRow se_row se_pairAt se_hope se_hopeAt se_slopAt se_farBits se_gain se_worth ch_both ch_cost ch_bit cl_bits fi_sets ps_act ps_whom ps_amount i0_seatOf i0_one i0_other i0_kind i0_years i0_sawn i1_seatOf i1_one i1_other i1_kind i1_years i1_sawn i2_seatOf i2_one i2_other i2_kind i2_years i2_sawn : Nat → Int32} {rd_word : Int64} {R0 : (Nat → Int32) × Int32} (hf : f_Fitter_collect bd_unsurePair bd_unsureYears bd_triedPair bd_slack bd_unsure bd_tried bd_triedFedBits bf_seatOf bf_one bf_other bf_kind bf_years bf_sawn fi_sets = some R0) : xV l E yX2_collect cX2_collect 2 none 5 112 [.ref (ad 58)] (wX E ad x_imageCount x_lastTrouble x_lastFault x_lastPlace pa_names pa_faultNumber pa_faultPlace rd_tape rd_length rd_end rd_next rd_sort rd_start rd_value rd_word to_unsurePair to_unsureYears to_triedPair to_seats to_slack to_sawInches to_quarrelChance to_people to_forkBits to_unsure to_tried to_triedFedBits tf_seatOf tf_one tf_other tf_kind tf_years tf_sawn tf_pairs tf_gone bd_unsurePair bd_unsureYears bd_triedPair bd_seats bd_slack bd_sawInches bd_quarrelChance bd_people bd_forkBits bd_unsure bd_tried bd_triedFedBits bf_seatOf bf_one bf_other bf_kind bf_years bf_sawn bf_pairs bf_gone nw_seatOf nw_one nw_other nw_kind nw_years nw_sawn nw_pairs nw_gone sc_seatOf sc_handle sc_both sc_slopOf sc_forkBits sc_canBits sc_bestBits sc_bestSlops sl_bits sl_count se_bestRow se_row se_pairAt se_hope se_hopeAt se_slopAt se_farBits se_gain se_worth se_bestWorth se_fresh ch_both ch_cost ch_bit ch_items ch_leastCost ch_leastBits cl_bits cl_count fi_sets fi_count ps_act ps_whom ps_amount ps_next ps_count i0_seatOf i0_one i0_other i0_kind i0_years i0_sawn i0_pairs i0_gone i1_seatOf i1_one i1_other i1_kind i1_years i1_sawn i1_pairs i1_gone i2_seatOf i2_one i2_other i2_kind i2_years i2_sawn i2_pairs i2_gone) (wX E ad x_imageCount x_lastTrouble x_lastFault x_lastPlace pa_names pa_faultNumber pa_faultPlace rd_tape rd_length rd_end rd_next rd_sort rd_start rd_value rd_word to_unsurePair to_unsureYears to_triedPair to_seats to_slack to_sawInches to_quarrelChance to_people to_forkBits to_unsure to_tried to_triedFedBits tf_seatOf tf_one tf_other tf_kind tf_years tf_sawn tf_pairs tf_gone bd_unsurePair bd_unsureYears bd_triedPair bd_seats bd_slack bd_sawInches bd_quarrelChance bd_people bd_forkBits bd_unsure bd_tried bd_triedFedBits bf_seatOf bf_one bf_other bf_kind bf_years bf_sawn bf_pairs bf_gone nw_seatOf nw_one nw_other nw_kind nw_years nw_sawn nw_pairs nw_gone sc_seatOf sc_handle sc_both sc_slopOf sc_forkBits sc_canBits sc_bestBits sc_bestSlops sl_bits sl_count se_bestRow se_row se_pairAt se_hope se_hopeAt se_slopAt se_farBits se_gain se_worth se_bestWorth se_fresh ch_both ch_cost ch_bit ch_items ch_leastCost ch_leastBits cl_bits cl_count R0.1 R0.2 ps_act ps_whom ps_amount ps_next ps_count i0_seatOf i0_one i0_other i0_kind i0_years i0_sawn i0_pairs i0_gone i1_seatOf i1_one i1_other i1_kind i1_years i1_sawn i1_pairs i1_gone i2_seatOf i2_one i2_other i2_kind i2_years i2_sawn i2_pairs i2_gone) := by
  refine xV_of (by decide) (Nat.le_of_ble_eq_true rfl) (fun p e s m args below meth c A C ls hl G => ?_)
  have hx := C.1
  have hb := C.2.1
  have hl : lv_has ls 2 [(0, .ref (ad 58))] := hl
  unfold f_Fitter_collect at hf
  refine lv_aload_n hx hb dX2_collect_0 rfl (lv_at hl 0 rfl) ?_
  refine lv_iconst (v := 0) hx hb dX2_collect_1 (by decide) ?_
  refine x_put (ws' := (wX E ad x_imageCount x_lastTrouble x_lastFault x_lastPlace pa_names pa_faultNumber pa_faultPlace rd_tape rd_length rd_end rd_next rd_sort rd_start rd_value rd_word to_unsurePair to_unsureYears to_triedPair to_seats to_slack to_sawInches to_quarrelChance to_people to_forkBits to_unsure to_tried to_triedFedBits tf_seatOf tf_one tf_other tf_kind tf_years tf_sawn tf_pairs tf_gone bd_unsurePair bd_unsureYears bd_triedPair bd_seats bd_slack bd_sawInches bd_quarrelChance bd_people bd_forkBits bd_unsure bd_tried bd_triedFedBits bf_seatOf bf_one bf_other bf_kind bf_years bf_sawn bf_pairs bf_gone nw_seatOf nw_one nw_other nw_kind nw_years nw_sawn nw_pairs nw_gone sc_seatOf sc_handle sc_both sc_slopOf sc_forkBits sc_canBits sc_bestBits sc_bestSlops sl_bits sl_count se_bestRow se_row se_pairAt se_hope se_hopeAt se_slopAt se_farBits se_gain se_worth se_bestWorth se_fresh ch_both ch_cost ch_bit ch_items ch_leastCost ch_leastBits cl_bits cl_count fi_sets (0 : Int32) ps_act ps_whom ps_amount ps_next ps_count i0_seatOf i0_one i0_other i0_kind i0_years i0_sawn i0_pairs i0_gone i1_seatOf i1_one i1_other i1_kind i1_years i1_sawn i1_pairs i1_gone i2_seatOf i2_one i2_other i2_kind i2_years i2_sawn i2_pairs i2_gone)) C G fX2_19 (wX_at58) rfl rfl (Nat.le_of_ble_eq_true rfl) wX_set_fi_count dX2_collect_2 (fun H locs G => ?_)
  refine lv_iconst (v := 0) hx hb dX2_collect_5 (by decide) ?_
  refine lv_istore_n (lv' := [(1, .int (0 : Int32)), (0, .ref (ad 58))]) hx hb dX2_collect_6 rfl hl (by decide) rfl (fun ls hl => ?_)
  obtain ⟨x6, hr, hf⟩ := bd_go hf
  have Jx6 : ∀ (H : Heap) (locs : List Loc) (ls : Array Slot), xG s E A (wX E ad x_imageCount x_lastTrouble x_lastFault x_lastPlace pa_names pa_faultNumber pa_faultPlace rd_tape rd_length rd_end rd_next rd_sort rd_start rd_value rd_word to_unsurePair to_unsureYears to_triedPair to_seats to_slack to_sawInches to_quarrelChance to_people to_forkBits to_unsure to_tried to_triedFedBits tf_seatOf tf_one tf_other tf_kind tf_years tf_sawn tf_pairs tf_gone bd_unsurePair bd_unsureYears bd_triedPair bd_seats bd_slack bd_sawInches bd_quarrelChance bd_people bd_forkBits bd_unsure bd_tried bd_triedFedBits bf_seatOf bf_one bf_other bf_kind bf_years bf_sawn bf_pairs bf_gone nw_seatOf nw_one nw_other nw_kind nw_years nw_sawn nw_pairs nw_gone sc_seatOf sc_handle sc_both sc_slopOf sc_forkBits sc_canBits sc_bestBits sc_bestSlops sl_bits sl_count se_bestRow se_row se_pairAt se_hope se_hopeAt se_slopAt se_farBits se_gain se_worth se_bestWorth se_fresh ch_both ch_cost ch_bit ch_items ch_leastCost ch_leastBits cl_bits cl_count x6.1 x6.2 ps_act ps_whom ps_amount ps_next ps_count i0_seatOf i0_one i0_other i0_kind i0_years i0_sawn i0_pairs i0_gone i1_seatOf i1_one i1_other i1_kind i1_years i1_sawn i1_pairs i1_gone i2_seatOf i2_one i2_other i2_kind i2_years i2_sawn i2_pairs i2_gone) H locs → lv_has ls 2 [] → W p l e (xR 5 112) s m args below meth c H locs 0 0 (MQ below (xqV E A (wX E ad x_imageCount x_lastTrouble x_lastFault x_lastPlace pa_names pa_faultNumber pa_faultPlace rd_tape rd_length rd_end rd_next rd_sort rd_start rd_value rd_word to_unsurePair to_unsureYears to_triedPair to_seats to_slack to_sawInches to_quarrelChance to_people to_forkBits to_unsure to_tried to_triedFedBits tf_seatOf tf_one tf_other tf_kind tf_years tf_sawn tf_pairs tf_gone bd_unsurePair bd_unsureYears bd_triedPair bd_seats bd_slack bd_sawInches bd_quarrelChance bd_people bd_forkBits bd_unsure bd_tried bd_triedFedBits bf_seatOf bf_one bf_other bf_kind bf_years bf_sawn bf_pairs bf_gone nw_seatOf nw_one nw_other nw_kind nw_years nw_sawn nw_pairs nw_gone sc_seatOf sc_handle sc_both sc_slopOf sc_forkBits sc_canBits sc_bestBits sc_bestSlops sl_bits sl_count se_bestRow se_row se_pairAt se_hope se_hopeAt se_slopAt se_farBits se_gain se_worth se_bestWorth se_fresh ch_both ch_cost ch_bit ch_items ch_leastCost ch_leastBits cl_bits cl_count R0.1 R0.2 ps_act ps_whom ps_amount ps_next ps_count i0_seatOf i0_one i0_other i0_kind i0_years i0_sawn i0_pairs i0_gone i1_seatOf i1_one i1_other i1_kind i1_years i1_sawn i1_pairs i1_gone i2_seatOf i2_one i2_other i2_kind i2_years i2_sawn i2_pairs i2_gone)) args s 0 0 A) (F0 m 63 ls []) := by
    intro H locs ls G hl
    obtain rfl := Option.some.inj hf
    exact xV_ret C G dX2_collect_63
  exact w_Fitter_collect_fi_L7 C Jx6 fu _ _ _ _ _ _ G (lv_sub hl [1, 0] rfl) hr
set_option maxHeartbeats 4000000 in
set_option maxRecDepth 100000 in
theorem c_X_fits_x {l : Launch} {E : xE} {ad : Nat → Nat} {x_imageCount x_lastTrouble x_lastFault x_lastPlace pa_faultNumber pa_faultPlace rd_length rd_end rd_next rd_sort rd_start rd_value to_seats to_slack to_sawInches to_quarrelChance to_people to_forkBits to_unsure to_tried to_triedFedBits tf_pairs tf_gone bd_seats bd_slack bd_sawInches bd_quarrelChance bd_people bd_forkBits bd_unsure bd_tried bd_triedFedBits bf_pairs bf_gone nw_pairs nw_gone sc_forkBits sc_canBits sc_bestBits sc_bestSlops sl_count se_bestWorth se_fresh ch_items ch_leastCost ch_leastBits cl_count fi_count ps_next ps_count i0_pairs i0_gone i1_pairs i1_gone i2_pairs i2_gone : Int32} {pa_names : Nat → Int64} {rd_tape to_unsurePair to_unsureYears to_triedPair tf_seatOf tf_one tf_other tf_kind tf_years tf_sawn bd_unsurePair bd_unsureYears bd_triedPair bf_seatOf bf_one bf_other bf_kind bf_years bf_sawn nw_seatOf nw_one nw_other nw_kind nw_years nw_sawn sc_seatOf sc_handle sc_both sc_slopOf sl_bits se_bestRow se_row se_pairAt se_hope se_hopeAt se_slopAt se_farBits se_gain se_worth ch_both ch_cost ch_bit cl_bits fi_sets ps_act ps_whom ps_amount i0_seatOf i0_one i0_other i0_kind i0_years i0_sawn i1_seatOf i1_one i1_other i1_kind i1_years i1_sawn i2_seatOf i2_one i2_other i2_kind i2_years i2_sawn : Nat → Int32} {rd_word : Int64} {R0 : Int32 × Int32 × (Nat → Int32) × Int32} (hf : f_X_fits bd_unsurePair bd_unsureYears bd_triedPair bd_slack bd_people bd_unsure bd_tried bd_triedFedBits bf_seatOf bf_one bf_other bf_kind bf_years bf_sawn fi_sets fi_count = some R0) : xI l E yX10_fits cX10_fits 1 (some .int) 6 133 [.ref (ad 0)] (wX E ad x_imageCount x_lastTrouble x_lastFault x_lastPlace pa_names pa_faultNumber pa_faultPlace rd_tape rd_length rd_end rd_next rd_sort rd_start rd_value rd_word to_unsurePair to_unsureYears to_triedPair to_seats to_slack to_sawInches to_quarrelChance to_people to_forkBits to_unsure to_tried to_triedFedBits tf_seatOf tf_one tf_other tf_kind tf_years tf_sawn tf_pairs tf_gone bd_unsurePair bd_unsureYears bd_triedPair bd_seats bd_slack bd_sawInches bd_quarrelChance bd_people bd_forkBits bd_unsure bd_tried bd_triedFedBits bf_seatOf bf_one bf_other bf_kind bf_years bf_sawn bf_pairs bf_gone nw_seatOf nw_one nw_other nw_kind nw_years nw_sawn nw_pairs nw_gone sc_seatOf sc_handle sc_both sc_slopOf sc_forkBits sc_canBits sc_bestBits sc_bestSlops sl_bits sl_count se_bestRow se_row se_pairAt se_hope se_hopeAt se_slopAt se_farBits se_gain se_worth se_bestWorth se_fresh ch_both ch_cost ch_bit ch_items ch_leastCost ch_leastBits cl_bits cl_count fi_sets fi_count ps_act ps_whom ps_amount ps_next ps_count i0_seatOf i0_one i0_other i0_kind i0_years i0_sawn i0_pairs i0_gone i1_seatOf i1_one i1_other i1_kind i1_years i1_sawn i1_pairs i1_gone i2_seatOf i2_one i2_other i2_kind i2_years i2_sawn i2_pairs i2_gone) (wX E ad x_imageCount R0.2.1 x_lastFault x_lastPlace pa_names pa_faultNumber pa_faultPlace rd_tape rd_length rd_end rd_next rd_sort rd_start rd_value rd_word to_unsurePair to_unsureYears to_triedPair to_seats to_slack to_sawInches to_quarrelChance to_people to_forkBits to_unsure to_tried to_triedFedBits tf_seatOf tf_one tf_other tf_kind tf_years tf_sawn tf_pairs tf_gone bd_unsurePair bd_unsureYears bd_triedPair bd_seats bd_slack bd_sawInches bd_quarrelChance bd_people bd_forkBits bd_unsure bd_tried bd_triedFedBits bf_seatOf bf_one bf_other bf_kind bf_years bf_sawn bf_pairs bf_gone nw_seatOf nw_one nw_other nw_kind nw_years nw_sawn nw_pairs nw_gone sc_seatOf sc_handle sc_both sc_slopOf sc_forkBits sc_canBits sc_bestBits sc_bestSlops sl_bits sl_count se_bestRow se_row se_pairAt se_hope se_hopeAt se_slopAt se_farBits se_gain se_worth se_bestWorth se_fresh ch_both ch_cost ch_bit ch_items ch_leastCost ch_leastBits cl_bits cl_count R0.2.2.1 R0.2.2.2 ps_act ps_whom ps_amount ps_next ps_count i0_seatOf i0_one i0_other i0_kind i0_years i0_sawn i0_pairs i0_gone i1_seatOf i1_one i1_other i1_kind i1_years i1_sawn i1_pairs i1_gone i2_seatOf i2_one i2_other i2_kind i2_years i2_sawn i2_pairs i2_gone) R0.1 := by
  refine xI_of (by decide) (Nat.le_of_ble_eq_true rfl) (fun p e s m args below meth c A C ls hl G => ?_)
  have hx := C.1
  have hb := C.2.1
  have hl : lv_has ls 1 [(0, .ref (ad 0))] := hl
  unfold f_X_fits at hf
  refine lv_aload_n hx hb dX10_fits_0 rfl (lv_at hl 0 rfl) ?_
  obtain ⟨x1, hc, hf⟩ := bd_go hf
  refine xI_V C G (c_X_noTable_x hc) mX10_noTable kX10_187 (wX_at0) rfl ⟨Nat.le_of_ble_eq_true rfl, Nat.le_of_ble_eq_true rfl⟩ rfl hl.1 rfl (Nat.le_of_ble_eq_true rfl) ⟨Nat.le_refl _, Nat.le_refl _⟩ dX10_fits_1 (fun hz1 H locs G => ?_)
  refine lv_if_eq (tgt := 9) hx hb dX10_fits_4 (by decide) (fun h => ?_) (fun h => ?_)
  · have hf := it_t h hf
    refine lv_aload_n hx hb dX10_fits_9 rfl (lv_at hl 0 rfl) ?_
    refine x_get C G fX10_58 (wX_at0) rfl dX10_fits_10 ?_
    obtain ⟨x2, hc, hf⟩ := bd_go hf
    refine xV_V C G (c_Fitter_collect_fi hc) mX2_collect kX10_288 (wX_at58) rfl ⟨Nat.le_of_ble_eq_true rfl, Nat.le_of_ble_eq_true rfl⟩ rfl hl.1 rfl (Nat.le_of_ble_eq_true rfl) ⟨Nat.le_refl _, Nat.le_refl _⟩ dX10_fits_13 (fun H locs G => ?_)
    refine lv_aload_n hx hb dX10_fits_16 rfl (lv_at hl 0 rfl) ?_
    refine x_get C G fX10_58 (wX_at0) rfl dX10_fits_17 ?_
    refine x_get C G fX10_291.g (wX_at58) rfl dX10_fits_20 ?_
    obtain rfl := Option.some.inj hf
    exact xI_ret C G rfl dX10_fits_23
  · have hf := it_f h hf
    refine lv_iconst (v := -1) hx hb dX10_fits_7 (by decide) ?_
    obtain rfl := Option.some.inj hf
    exact xI_ret C G rfl dX10_fits_8
set_option maxHeartbeats 4000000 in
set_option maxRecDepth 100000 in
theorem c_X_fitAt_x {l : Launch} {E : xE} {ad : Nat → Nat} {x_imageCount x_lastTrouble x_lastFault x_lastPlace pa_faultNumber pa_faultPlace rd_length rd_end rd_next rd_sort rd_start rd_value to_seats to_slack to_sawInches to_quarrelChance to_people to_forkBits to_unsure to_tried to_triedFedBits tf_pairs tf_gone bd_seats bd_slack bd_sawInches bd_quarrelChance bd_people bd_forkBits bd_unsure bd_tried bd_triedFedBits bf_pairs bf_gone nw_pairs nw_gone sc_forkBits sc_canBits sc_bestBits sc_bestSlops sl_count se_bestWorth se_fresh ch_items ch_leastCost ch_leastBits cl_count fi_count ps_next ps_count i0_pairs i0_gone i1_pairs i1_gone i2_pairs i2_gone : Int32} {pa_names : Nat → Int64} {rd_tape to_unsurePair to_unsureYears to_triedPair tf_seatOf tf_one tf_other tf_kind tf_years tf_sawn bd_unsurePair bd_unsureYears bd_triedPair bf_seatOf bf_one bf_other bf_kind bf_years bf_sawn nw_seatOf nw_one nw_other nw_kind nw_years nw_sawn sc_seatOf sc_handle sc_both sc_slopOf sl_bits se_bestRow se_row se_pairAt se_hope se_hopeAt se_slopAt se_farBits se_gain se_worth ch_both ch_cost ch_bit cl_bits fi_sets ps_act ps_whom ps_amount i0_seatOf i0_one i0_other i0_kind i0_years i0_sawn i1_seatOf i1_one i1_other i1_kind i1_years i1_sawn i2_seatOf i2_one i2_other i2_kind i2_years i2_sawn : Nat → Int32} {rd_word : Int64} {l1 : Int32} {R0 : Int32 × Int32 × (Nat → Int32) × Int32} (hf : f_X_fitAt l1 bd_unsurePair bd_unsureYears bd_triedPair bd_slack bd_people bd_unsure bd_tried bd_triedFedBits bf_seatOf bf_one bf_other bf_kind bf_years bf_sawn fi_sets fi_count = some R0) : xI l E yX10_fitAt cX10_fitAt 2 (some .int) 6 133 [.ref (ad 0), .int l1] (wX E ad x_imageCount x_lastTrouble x_lastFault x_lastPlace pa_names pa_faultNumber pa_faultPlace rd_tape rd_length rd_end rd_next rd_sort rd_start rd_value rd_word to_unsurePair to_unsureYears to_triedPair to_seats to_slack to_sawInches to_quarrelChance to_people to_forkBits to_unsure to_tried to_triedFedBits tf_seatOf tf_one tf_other tf_kind tf_years tf_sawn tf_pairs tf_gone bd_unsurePair bd_unsureYears bd_triedPair bd_seats bd_slack bd_sawInches bd_quarrelChance bd_people bd_forkBits bd_unsure bd_tried bd_triedFedBits bf_seatOf bf_one bf_other bf_kind bf_years bf_sawn bf_pairs bf_gone nw_seatOf nw_one nw_other nw_kind nw_years nw_sawn nw_pairs nw_gone sc_seatOf sc_handle sc_both sc_slopOf sc_forkBits sc_canBits sc_bestBits sc_bestSlops sl_bits sl_count se_bestRow se_row se_pairAt se_hope se_hopeAt se_slopAt se_farBits se_gain se_worth se_bestWorth se_fresh ch_both ch_cost ch_bit ch_items ch_leastCost ch_leastBits cl_bits cl_count fi_sets fi_count ps_act ps_whom ps_amount ps_next ps_count i0_seatOf i0_one i0_other i0_kind i0_years i0_sawn i0_pairs i0_gone i1_seatOf i1_one i1_other i1_kind i1_years i1_sawn i1_pairs i1_gone i2_seatOf i2_one i2_other i2_kind i2_years i2_sawn i2_pairs i2_gone) (wX E ad x_imageCount R0.2.1 x_lastFault x_lastPlace pa_names pa_faultNumber pa_faultPlace rd_tape rd_length rd_end rd_next rd_sort rd_start rd_value rd_word to_unsurePair to_unsureYears to_triedPair to_seats to_slack to_sawInches to_quarrelChance to_people to_forkBits to_unsure to_tried to_triedFedBits tf_seatOf tf_one tf_other tf_kind tf_years tf_sawn tf_pairs tf_gone bd_unsurePair bd_unsureYears bd_triedPair bd_seats bd_slack bd_sawInches bd_quarrelChance bd_people bd_forkBits bd_unsure bd_tried bd_triedFedBits bf_seatOf bf_one bf_other bf_kind bf_years bf_sawn bf_pairs bf_gone nw_seatOf nw_one nw_other nw_kind nw_years nw_sawn nw_pairs nw_gone sc_seatOf sc_handle sc_both sc_slopOf sc_forkBits sc_canBits sc_bestBits sc_bestSlops sl_bits sl_count se_bestRow se_row se_pairAt se_hope se_hopeAt se_slopAt se_farBits se_gain se_worth se_bestWorth se_fresh ch_both ch_cost ch_bit ch_items ch_leastCost ch_leastBits cl_bits cl_count R0.2.2.1 R0.2.2.2 ps_act ps_whom ps_amount ps_next ps_count i0_seatOf i0_one i0_other i0_kind i0_years i0_sawn i0_pairs i0_gone i1_seatOf i1_one i1_other i1_kind i1_years i1_sawn i1_pairs i1_gone i2_seatOf i2_one i2_other i2_kind i2_years i2_sawn i2_pairs i2_gone) R0.1 := by
  refine xI_of (by decide) (Nat.le_of_ble_eq_true rfl) (fun p e s m args below meth c A C ls hl G => ?_)
  have hx := C.1
  have hb := C.2.1
  have hl : lv_has ls 2 [(0, .ref (ad 0)), (1, .int l1)] := hl
  unfold f_X_fitAt at hf
  refine lv_aload_n hx hb dX10_fitAt_0 rfl (lv_at hl 0 rfl) ?_
  obtain ⟨x1, hc, hf⟩ := bd_go hf
  refine xI_V C G (c_X_noTable_x hc) mX10_noTable kX10_187 (wX_at0) rfl ⟨Nat.le_of_ble_eq_true rfl, Nat.le_of_ble_eq_true rfl⟩ rfl hl.1 rfl (Nat.le_of_ble_eq_true rfl) ⟨Nat.le_refl _, Nat.le_refl _⟩ dX10_fitAt_1 (fun hz1 H locs G => ?_)
  refine lv_if_eq (tgt := 9) hx hb dX10_fitAt_4 (by decide) (fun h => ?_) (fun h => ?_)
  · have hf := it_t h hf
    refine lv_aload_n hx hb dX10_fitAt_9 rfl (lv_at hl 0 rfl) ?_
    refine x_get C G fX10_58 (wX_at0) rfl dX10_fitAt_10 ?_
    obtain ⟨x2, hc, hf⟩ := bd_go hf
    refine xV_V C G (c_Fitter_collect_fi hc) mX2_collect kX10_288 (wX_at58) rfl ⟨Nat.le_of_ble_eq_true rfl, Nat.le_of_ble_eq_true rfl⟩ rfl hl.1 rfl (Nat.le_of_ble_eq_true rfl) ⟨Nat.le_refl _, Nat.le_refl _⟩ dX10_fitAt_13 (fun H locs G => ?_)
    refine lv_iload_n hx hb dX10_fitAt_16 rfl (lv_at hl 1 rfl) ?_
    obtain ⟨b3, hr, hf⟩ := bd_go hf
    cases b3 with
    | true =>
      have hf := it_t rfl hf
      have J : ∀ (H : Heap) (locs : List Loc), xG s E A (wX E ad x_imageCount x1.2 x_lastFault x_lastPlace pa_names pa_faultNumber pa_faultPlace rd_tape rd_length rd_end rd_next rd_sort rd_start rd_value rd_word to_unsurePair to_unsureYears to_triedPair to_seats to_slack to_sawInches to_quarrelChance to_people to_forkBits to_unsure to_tried to_triedFedBits tf_seatOf tf_one tf_other tf_kind tf_years tf_sawn tf_pairs tf_gone bd_unsurePair bd_unsureYears bd_triedPair bd_seats bd_slack bd_sawInches bd_quarrelChance bd_people bd_forkBits bd_unsure bd_tried bd_triedFedBits bf_seatOf bf_one bf_other bf_kind bf_years bf_sawn bf_pairs bf_gone nw_seatOf nw_one nw_other nw_kind nw_years nw_sawn nw_pairs nw_gone sc_seatOf sc_handle sc_both sc_slopOf sc_forkBits sc_canBits sc_bestBits sc_bestSlops sl_bits sl_count se_bestRow se_row se_pairAt se_hope se_hopeAt se_slopAt se_farBits se_gain se_worth se_bestWorth se_fresh ch_both ch_cost ch_bit ch_items ch_leastCost ch_leastBits cl_bits cl_count x2.1 x2.2 ps_act ps_whom ps_amount ps_next ps_count i0_seatOf i0_one i0_other i0_kind i0_years i0_sawn i0_pairs i0_gone i1_seatOf i1_one i1_other i1_kind i1_years i1_sawn i1_pairs i1_gone i2_seatOf i2_one i2_other i2_kind i2_years i2_sawn i2_pairs i2_gone) H locs → W p l e (xR 6 133) s m args below meth c H locs 0 0 (MQ below (xqI E A (wX E ad x_imageCount R0.2.1 x_lastFault x_lastPlace pa_names pa_faultNumber pa_faultPlace rd_tape rd_length rd_end rd_next rd_sort rd_start rd_value rd_word to_unsurePair to_unsureYears to_triedPair to_seats to_slack to_sawInches to_quarrelChance to_people to_forkBits to_unsure to_tried to_triedFedBits tf_seatOf tf_one tf_other tf_kind tf_years tf_sawn tf_pairs tf_gone bd_unsurePair bd_unsureYears bd_triedPair bd_seats bd_slack bd_sawInches bd_quarrelChance bd_people bd_forkBits bd_unsure bd_tried bd_triedFedBits bf_seatOf bf_one bf_other bf_kind bf_years bf_sawn bf_pairs bf_gone nw_seatOf nw_one nw_other nw_kind nw_years nw_sawn nw_pairs nw_gone sc_seatOf sc_handle sc_both sc_slopOf sc_forkBits sc_canBits sc_bestBits sc_bestSlops sl_bits sl_count se_bestRow se_row se_pairAt se_hope se_hopeAt se_slopAt se_farBits se_gain se_worth se_bestWorth se_fresh ch_both ch_cost ch_bit ch_items ch_leastCost ch_leastBits cl_bits cl_count R0.2.2.1 R0.2.2.2 ps_act ps_whom ps_amount ps_next ps_count i0_seatOf i0_one i0_other i0_kind i0_years i0_sawn i0_pairs i0_gone i1_seatOf i1_one i1_other i1_kind i1_years i1_sawn i1_pairs i1_gone i2_seatOf i2_one i2_other i2_kind i2_years i2_sawn i2_pairs i2_gone) (some .int) R0.1) args s 0 0 A) (F0 m 43 ls []) := by
        intro H locs G
        refine lv_aload_n hx hb dX10_fitAt_43 rfl (lv_at hl 0 rfl) ?_
        refine lv_iconst (v := 1) hx hb dX10_fitAt_44 (by decide) ?_
        obtain ⟨x4, hc, hf⟩ := bd_go hf
        refine xI_V C G (c_X_refused_x hc) mX10_refused kX10_87 (wX_at0) rfl ⟨Nat.le_of_ble_eq_true rfl, Nat.le_of_ble_eq_true rfl⟩ rfl hl.1 rfl (Nat.le_of_ble_eq_true rfl) ⟨Nat.le_refl _, Nat.le_refl _⟩ dX10_fitAt_45 (fun hz H locs G => ?_)
        obtain rfl := Option.some.inj hf
        exact xI_ret C G rfl dX10_fitAt_48
      have hf := hr
      clear hr
      refine lv_if_lt (tgt := 43) hx hb dX10_fitAt_17 (by decide) (fun h => ?_) (fun h => ?_)
      · have hf := it_t h hf
        exact J _ _ G
      · have hf := it_f h hf
        refine lv_iload_n hx hb dX10_fitAt_20 rfl (lv_at hl 1 rfl) ?_
        refine lv_aload_n hx hb dX10_fitAt_21 rfl (lv_at hl 0 rfl) ?_
        refine x_get C G fX10_58 (wX_at0) rfl dX10_fitAt_22 ?_
        refine x_get C G fX10_291.g (wX_at58) rfl dX10_fitAt_25 ?_
        refine lv_icmp_ge (tgt := 43) hx hb dX10_fitAt_28 (by decide) (fun h => ?_) (fun h => ?_)
        · have hf := it_t h hf
          exact J _ _ G
        · have hf := it_f h hf
          exact absurd (Option.some.inj hf) (by decide)
    | false =>
      have hf := it_f (by decide) hf
      have J : ∀ (H : Heap) (locs : List Loc), xG s E A (wX E ad x_imageCount x1.2 x_lastFault x_lastPlace pa_names pa_faultNumber pa_faultPlace rd_tape rd_length rd_end rd_next rd_sort rd_start rd_value rd_word to_unsurePair to_unsureYears to_triedPair to_seats to_slack to_sawInches to_quarrelChance to_people to_forkBits to_unsure to_tried to_triedFedBits tf_seatOf tf_one tf_other tf_kind tf_years tf_sawn tf_pairs tf_gone bd_unsurePair bd_unsureYears bd_triedPair bd_seats bd_slack bd_sawInches bd_quarrelChance bd_people bd_forkBits bd_unsure bd_tried bd_triedFedBits bf_seatOf bf_one bf_other bf_kind bf_years bf_sawn bf_pairs bf_gone nw_seatOf nw_one nw_other nw_kind nw_years nw_sawn nw_pairs nw_gone sc_seatOf sc_handle sc_both sc_slopOf sc_forkBits sc_canBits sc_bestBits sc_bestSlops sl_bits sl_count se_bestRow se_row se_pairAt se_hope se_hopeAt se_slopAt se_farBits se_gain se_worth se_bestWorth se_fresh ch_both ch_cost ch_bit ch_items ch_leastCost ch_leastBits cl_bits cl_count x2.1 x2.2 ps_act ps_whom ps_amount ps_next ps_count i0_seatOf i0_one i0_other i0_kind i0_years i0_sawn i0_pairs i0_gone i1_seatOf i1_one i1_other i1_kind i1_years i1_sawn i1_pairs i1_gone i2_seatOf i2_one i2_other i2_kind i2_years i2_sawn i2_pairs i2_gone) H locs → W p l e (xR 6 133) s m args below meth c H locs 0 0 (MQ below (xqI E A (wX E ad x_imageCount R0.2.1 x_lastFault x_lastPlace pa_names pa_faultNumber pa_faultPlace rd_tape rd_length rd_end rd_next rd_sort rd_start rd_value rd_word to_unsurePair to_unsureYears to_triedPair to_seats to_slack to_sawInches to_quarrelChance to_people to_forkBits to_unsure to_tried to_triedFedBits tf_seatOf tf_one tf_other tf_kind tf_years tf_sawn tf_pairs tf_gone bd_unsurePair bd_unsureYears bd_triedPair bd_seats bd_slack bd_sawInches bd_quarrelChance bd_people bd_forkBits bd_unsure bd_tried bd_triedFedBits bf_seatOf bf_one bf_other bf_kind bf_years bf_sawn bf_pairs bf_gone nw_seatOf nw_one nw_other nw_kind nw_years nw_sawn nw_pairs nw_gone sc_seatOf sc_handle sc_both sc_slopOf sc_forkBits sc_canBits sc_bestBits sc_bestSlops sl_bits sl_count se_bestRow se_row se_pairAt se_hope se_hopeAt se_slopAt se_farBits se_gain se_worth se_bestWorth se_fresh ch_both ch_cost ch_bit ch_items ch_leastCost ch_leastBits cl_bits cl_count R0.2.2.1 R0.2.2.2 ps_act ps_whom ps_amount ps_next ps_count i0_seatOf i0_one i0_other i0_kind i0_years i0_sawn i0_pairs i0_gone i1_seatOf i1_one i1_other i1_kind i1_years i1_sawn i1_pairs i1_gone i2_seatOf i2_one i2_other i2_kind i2_years i2_sawn i2_pairs i2_gone) (some .int) R0.1) args s 0 0 A) (F0 m 31 ls []) := by
        intro H locs G
        refine lv_aload_n hx hb dX10_fitAt_31 rfl (lv_at hl 0 rfl) ?_
        refine x_get C G fX10_58 (wX_at0) rfl dX10_fitAt_32 ?_
        refine x_get C G fX10_292 (wX_at58) rfl dX10_fitAt_35 ?_
        refine lv_iload_n hx hb dX10_fitAt_38 rfl (lv_at hl 1 rfl) ?_
        have hi := ck_in hf
        have hf := ck_go hf
        refine x_iald C G (wX_at59) hi dX10_fitAt_39 ?_
        refine lv_goto (tgt := 48) hx hb dX10_fitAt_40 (by decide) ?_
        obtain rfl := Option.some.inj hf
        exact xI_ret C G rfl dX10_fitAt_48
      have hf := hr
      clear hr
      refine lv_if_lt (tgt := 43) hx hb dX10_fitAt_17 (by decide) (fun h => ?_) (fun h => ?_)
      · have hf := it_t h hf
        exact absurd (Option.some.inj hf) (by decide)
      · have hf := it_f h hf
        refine lv_iload_n hx hb dX10_fitAt_20 rfl (lv_at hl 1 rfl) ?_
        refine lv_aload_n hx hb dX10_fitAt_21 rfl (lv_at hl 0 rfl) ?_
        refine x_get C G fX10_58 (wX_at0) rfl dX10_fitAt_22 ?_
        refine x_get C G fX10_291.g (wX_at58) rfl dX10_fitAt_25 ?_
        refine lv_icmp_ge (tgt := 43) hx hb dX10_fitAt_28 (by decide) (fun h => ?_) (fun h => ?_)
        · have hf := it_t h hf
          exact absurd (Option.some.inj hf) (by decide)
        · have hf := it_f h hf
          exact J _ _ G
  · have hf := it_f h hf
    refine lv_iconst (v := -1) hx hb dX10_fitAt_7 (by decide) ?_
    obtain rfl := Option.some.inj hf
    exact xI_ret C G rfl dX10_fitAt_8
set_option maxHeartbeats 4000000 in
set_option maxRecDepth 100000 in
theorem w_X_could_x_L20 {p : Program} {l : Launch} {e : Env} {s : State} {m : MethodId} {args : Array Value} {below : List Frame} {meth : Method} {c : Code} {A : Nat → Prop} {E : xE} {Q : State → Prop} {ad : Nat → Nat} {x_imageCount x_lastTrouble x_lastFault x_lastPlace pa_faultNumber pa_faultPlace rd_length rd_end rd_next rd_sort rd_start rd_value to_seats to_slack to_sawInches to_quarrelChance to_people to_forkBits to_unsure to_tried to_triedFedBits tf_pairs tf_gone bd_seats bd_slack bd_sawInches bd_quarrelChance bd_people bd_forkBits bd_unsure bd_tried bd_triedFedBits bf_pairs bf_gone nw_pairs nw_gone sc_forkBits sc_canBits sc_bestBits sc_bestSlops sl_count se_bestWorth se_fresh ch_items ch_leastCost ch_leastBits cl_count fi_count ps_next ps_count i0_pairs i0_gone i1_pairs i1_gone i2_pairs i2_gone : Int32} {pa_names : Nat → Int64} {rd_tape to_unsurePair to_unsureYears to_triedPair tf_seatOf tf_one tf_other tf_kind tf_years tf_sawn bd_unsurePair bd_unsureYears bd_triedPair bf_seatOf bf_one bf_other bf_kind bf_years bf_sawn nw_seatOf nw_one nw_other nw_kind nw_years nw_sawn sc_seatOf sc_handle sc_both sc_slopOf sl_bits se_bestRow se_row se_pairAt se_hope se_hopeAt se_slopAt se_farBits se_gain se_worth ch_both ch_cost ch_bit cl_bits fi_sets ps_act ps_whom ps_amount i0_seatOf i0_one i0_other i0_kind i0_years i0_sawn i1_seatOf i1_one i1_other i1_kind i1_years i1_sawn i2_seatOf i2_one i2_other i2_kind i2_years i2_sawn : Nat → Int32} {rd_word : Int64} {o : Int32} (C : xC p s m args meth c cX10_could 3 RX10 E A (some .int)) (J : ∀ (H : Heap) (locs : List Loc) (ls : Array Slot), xG s E A (wX E ad x_imageCount x_lastTrouble x_lastFault x_lastPlace pa_names pa_faultNumber pa_faultPlace rd_tape rd_length rd_end rd_next rd_sort rd_start rd_value rd_word to_unsurePair to_unsureYears to_triedPair to_seats to_slack to_sawInches to_quarrelChance to_people to_forkBits to_unsure to_tried to_triedFedBits tf_seatOf tf_one tf_other tf_kind tf_years tf_sawn tf_pairs tf_gone bd_unsurePair bd_unsureYears bd_triedPair bd_seats bd_slack bd_sawInches bd_quarrelChance bd_people bd_forkBits bd_unsure bd_tried bd_triedFedBits bf_seatOf bf_one bf_other bf_kind bf_years bf_sawn bf_pairs bf_gone nw_seatOf nw_one nw_other nw_kind nw_years nw_sawn nw_pairs nw_gone sc_seatOf sc_handle sc_both sc_slopOf sc_forkBits sc_canBits sc_bestBits sc_bestSlops sl_bits sl_count se_bestRow se_row se_pairAt se_hope se_hopeAt se_slopAt se_farBits se_gain se_worth se_bestWorth se_fresh ch_both ch_cost ch_bit ch_items ch_leastCost ch_leastBits cl_bits cl_count fi_sets fi_count ps_act ps_whom ps_amount ps_next ps_count i0_seatOf i0_one i0_other i0_kind i0_years i0_sawn i0_pairs i0_gone i1_seatOf i1_one i1_other i1_kind i1_years i1_sawn i1_pairs i1_gone i2_seatOf i2_one i2_other i2_kind i2_years i2_sawn i2_pairs i2_gone) H locs → lv_has ls 3 [(1, .int o)] → W p l e (xR 6 133) s m args below meth c H locs 0 0 Q (F0 m 49 ls [])) :
    ∀ (n : Nat) (l1 : Int32) (l2 : Int32) (H : Heap) (locs : List Loc) (ls : Array Slot), xG s E A (wX E ad x_imageCount x_lastTrouble x_lastFault x_lastPlace pa_names pa_faultNumber pa_faultPlace rd_tape rd_length rd_end rd_next rd_sort rd_start rd_value rd_word to_unsurePair to_unsureYears to_triedPair to_seats to_slack to_sawInches to_quarrelChance to_people to_forkBits to_unsure to_tried to_triedFedBits tf_seatOf tf_one tf_other tf_kind tf_years tf_sawn tf_pairs tf_gone bd_unsurePair bd_unsureYears bd_triedPair bd_seats bd_slack bd_sawInches bd_quarrelChance bd_people bd_forkBits bd_unsure bd_tried bd_triedFedBits bf_seatOf bf_one bf_other bf_kind bf_years bf_sawn bf_pairs bf_gone nw_seatOf nw_one nw_other nw_kind nw_years nw_sawn nw_pairs nw_gone sc_seatOf sc_handle sc_both sc_slopOf sc_forkBits sc_canBits sc_bestBits sc_bestSlops sl_bits sl_count se_bestRow se_row se_pairAt se_hope se_hopeAt se_slopAt se_farBits se_gain se_worth se_bestWorth se_fresh ch_both ch_cost ch_bit ch_items ch_leastCost ch_leastBits cl_bits cl_count fi_sets fi_count ps_act ps_whom ps_amount ps_next ps_count i0_seatOf i0_one i0_other i0_kind i0_years i0_sawn i0_pairs i0_gone i1_seatOf i1_one i1_other i1_kind i1_years i1_sawn i1_pairs i1_gone i2_seatOf i2_one i2_other i2_kind i2_years i2_sawn i2_pairs i2_gone) H locs → lv_has ls 3 [(0, .ref (ad 0)), (1, .int l1), (2, .int l2)] → f_X_could_L20 fi_sets fi_count n l1 l2 = some o → W p l e (xR 6 133) s m args below meth c H locs 0 0 Q (F0 m 20 ls []) := by
  have hx := C.1
  have hb := C.2.1
  intro n
  induction n with
  | zero =>
    intro l1 l2 H locs ls G hl hf
    exact nomatch (show (none : Option (Int32)) = some o from hf)
  | succ n ih =>
    intro l1 l2 H locs ls G hl hf
    rw [f_X_could_L20] at hf
    refine lv_iload_n hx hb dX10_could_20 rfl (lv_at hl 2 rfl) ?_
    refine lv_aload_n hx hb dX10_could_21 rfl (lv_at hl 0 rfl) ?_
    refine x_get C G fX10_58 (wX_at0) rfl dX10_could_22 ?_
    refine x_get C G fX10_291.g (wX_at58) rfl dX10_could_25 ?_
    refine lv_icmp_ge (tgt := 49) hx hb dX10_could_28 (by decide) (fun h => ?_) (fun h => ?_)
    · have hf := it_t h hf
      obtain rfl := Option.some.inj hf
      exact J _ _ _ G (lv_sub hl [1] rfl)
    · have hf := it_f h hf
      refine lv_iload_n hx hb dX10_could_31 rfl (lv_at hl 1 rfl) ?_
      refine lv_aload_n hx hb dX10_could_32 rfl (lv_at hl 0 rfl) ?_
      refine x_get C G fX10_58 (wX_at0) rfl dX10_could_33 ?_
      refine x_get C G fX10_292 (wX_at58) rfl dX10_could_36 ?_
      refine lv_iload_n hx hb dX10_could_39 rfl (lv_at hl 2 rfl) ?_
      have hi := ck_in hf
      have hf := ck_go hf
      refine x_iald C G (wX_at59) hi dX10_could_40 ?_
      refine lv_ior hx hb dX10_could_41 ?_
      refine lv_topi (fun x3 ex3 => ?_)
      have hf := lt_go ex3 hf
      refine lv_istore_n (lv' := [(1, .int x3), (0, .ref (ad 0)), (2, .int l2)]) hx hb dX10_could_42 rfl hl (by decide) rfl (fun ls hl => ?_)
      obtain ⟨x4, ex4⟩ : ∃ z : Int32, z = l2 + (1 : Int32) := ⟨_, rfl⟩
      have hf := lt_go ex4 hf
      refine lv_iinc (v := x4) (lv' := [(2, .int x4), (1, .int x3), (0, .ref (ad 0))]) hx hb dX10_could_43 hl (k := 2) rfl (by rw [ex4]; rfl) (by decide) rfl (fun ls hl => ?_)
      refine lv_goto (tgt := 20) hx hb dX10_could_46 (by decide) ?_
      exact ih x3 x4 _ _ _ G (lv_sub hl [2, 1, 0] rfl) hf
set_option maxHeartbeats 4000000 in
set_option maxRecDepth 100000 in
theorem c_X_could_x {l : Launch} {E : xE} {ad : Nat → Nat} {x_imageCount x_lastTrouble x_lastFault x_lastPlace pa_faultNumber pa_faultPlace rd_length rd_end rd_next rd_sort rd_start rd_value to_seats to_slack to_sawInches to_quarrelChance to_people to_forkBits to_unsure to_tried to_triedFedBits tf_pairs tf_gone bd_seats bd_slack bd_sawInches bd_quarrelChance bd_people bd_forkBits bd_unsure bd_tried bd_triedFedBits bf_pairs bf_gone nw_pairs nw_gone sc_forkBits sc_canBits sc_bestBits sc_bestSlops sl_count se_bestWorth se_fresh ch_items ch_leastCost ch_leastBits cl_count fi_count ps_next ps_count i0_pairs i0_gone i1_pairs i1_gone i2_pairs i2_gone : Int32} {pa_names : Nat → Int64} {rd_tape to_unsurePair to_unsureYears to_triedPair tf_seatOf tf_one tf_other tf_kind tf_years tf_sawn bd_unsurePair bd_unsureYears bd_triedPair bf_seatOf bf_one bf_other bf_kind bf_years bf_sawn nw_seatOf nw_one nw_other nw_kind nw_years nw_sawn sc_seatOf sc_handle sc_both sc_slopOf sl_bits se_bestRow se_row se_pairAt se_hope se_hopeAt se_slopAt se_farBits se_gain se_worth ch_both ch_cost ch_bit cl_bits fi_sets ps_act ps_whom ps_amount i0_seatOf i0_one i0_other i0_kind i0_years i0_sawn i1_seatOf i1_one i1_other i1_kind i1_years i1_sawn i2_seatOf i2_one i2_other i2_kind i2_years i2_sawn : Nat → Int32} {rd_word : Int64} {R0 : Int32 × Int32 × (Nat → Int32) × Int32} (hf : f_X_could bd_unsurePair bd_unsureYears bd_triedPair bd_slack bd_people bd_unsure bd_tried bd_triedFedBits bf_seatOf bf_one bf_other bf_kind bf_years bf_sawn fi_sets fi_count = some R0) : xI l E yX10_could cX10_could 3 (some .int) 6 133 [.ref (ad 0)] (wX E ad x_imageCount x_lastTrouble x_lastFault x_lastPlace pa_names pa_faultNumber pa_faultPlace rd_tape rd_length rd_end rd_next rd_sort rd_start rd_value rd_word to_unsurePair to_unsureYears to_triedPair to_seats to_slack to_sawInches to_quarrelChance to_people to_forkBits to_unsure to_tried to_triedFedBits tf_seatOf tf_one tf_other tf_kind tf_years tf_sawn tf_pairs tf_gone bd_unsurePair bd_unsureYears bd_triedPair bd_seats bd_slack bd_sawInches bd_quarrelChance bd_people bd_forkBits bd_unsure bd_tried bd_triedFedBits bf_seatOf bf_one bf_other bf_kind bf_years bf_sawn bf_pairs bf_gone nw_seatOf nw_one nw_other nw_kind nw_years nw_sawn nw_pairs nw_gone sc_seatOf sc_handle sc_both sc_slopOf sc_forkBits sc_canBits sc_bestBits sc_bestSlops sl_bits sl_count se_bestRow se_row se_pairAt se_hope se_hopeAt se_slopAt se_farBits se_gain se_worth se_bestWorth se_fresh ch_both ch_cost ch_bit ch_items ch_leastCost ch_leastBits cl_bits cl_count fi_sets fi_count ps_act ps_whom ps_amount ps_next ps_count i0_seatOf i0_one i0_other i0_kind i0_years i0_sawn i0_pairs i0_gone i1_seatOf i1_one i1_other i1_kind i1_years i1_sawn i1_pairs i1_gone i2_seatOf i2_one i2_other i2_kind i2_years i2_sawn i2_pairs i2_gone) (wX E ad x_imageCount R0.2.1 x_lastFault x_lastPlace pa_names pa_faultNumber pa_faultPlace rd_tape rd_length rd_end rd_next rd_sort rd_start rd_value rd_word to_unsurePair to_unsureYears to_triedPair to_seats to_slack to_sawInches to_quarrelChance to_people to_forkBits to_unsure to_tried to_triedFedBits tf_seatOf tf_one tf_other tf_kind tf_years tf_sawn tf_pairs tf_gone bd_unsurePair bd_unsureYears bd_triedPair bd_seats bd_slack bd_sawInches bd_quarrelChance bd_people bd_forkBits bd_unsure bd_tried bd_triedFedBits bf_seatOf bf_one bf_other bf_kind bf_years bf_sawn bf_pairs bf_gone nw_seatOf nw_one nw_other nw_kind nw_years nw_sawn nw_pairs nw_gone sc_seatOf sc_handle sc_both sc_slopOf sc_forkBits sc_canBits sc_bestBits sc_bestSlops sl_bits sl_count se_bestRow se_row se_pairAt se_hope se_hopeAt se_slopAt se_farBits se_gain se_worth se_bestWorth se_fresh ch_both ch_cost ch_bit ch_items ch_leastCost ch_leastBits cl_bits cl_count R0.2.2.1 R0.2.2.2 ps_act ps_whom ps_amount ps_next ps_count i0_seatOf i0_one i0_other i0_kind i0_years i0_sawn i0_pairs i0_gone i1_seatOf i1_one i1_other i1_kind i1_years i1_sawn i1_pairs i1_gone i2_seatOf i2_one i2_other i2_kind i2_years i2_sawn i2_pairs i2_gone) R0.1 := by
  refine xI_of (by decide) (Nat.le_of_ble_eq_true rfl) (fun p e s m args below meth c A C ls hl G => ?_)
  have hx := C.1
  have hb := C.2.1
  have hl : lv_has ls 3 [(0, .ref (ad 0))] := hl
  unfold f_X_could at hf
  refine lv_aload_n hx hb dX10_could_0 rfl (lv_at hl 0 rfl) ?_
  obtain ⟨x1, hc, hf⟩ := bd_go hf
  refine xI_V C G (c_X_noTable_x hc) mX10_noTable kX10_187 (wX_at0) rfl ⟨Nat.le_of_ble_eq_true rfl, Nat.le_of_ble_eq_true rfl⟩ rfl hl.1 rfl (Nat.le_of_ble_eq_true rfl) ⟨Nat.le_refl _, Nat.le_refl _⟩ dX10_could_1 (fun hz1 H locs G => ?_)
  refine lv_if_eq (tgt := 9) hx hb dX10_could_4 (by decide) (fun h => ?_) (fun h => ?_)
  · have hf := it_t h hf
    refine lv_aload_n hx hb dX10_could_9 rfl (lv_at hl 0 rfl) ?_
    refine x_get C G fX10_58 (wX_at0) rfl dX10_could_10 ?_
    obtain ⟨x2, hc, hf⟩ := bd_go hf
    refine xV_V C G (c_Fitter_collect_fi hc) mX2_collect kX10_288 (wX_at58) rfl ⟨Nat.le_of_ble_eq_true rfl, Nat.le_of_ble_eq_true rfl⟩ rfl hl.1 rfl (Nat.le_of_ble_eq_true rfl) ⟨Nat.le_refl _, Nat.le_refl _⟩ dX10_could_13 (fun H locs G => ?_)
    refine lv_iconst (v := 0) hx hb dX10_could_16 (by decide) ?_
    refine lv_istore_n (lv' := [(1, .int (0 : Int32)), (0, .ref (ad 0))]) hx hb dX10_could_17 rfl hl (by decide) rfl (fun ls hl => ?_)
    refine lv_iconst (v := 0) hx hb dX10_could_18 (by decide) ?_
    refine lv_istore_n (lv' := [(2, .int (0 : Int32)), (1, .int (0 : Int32)), (0, .ref (ad 0))]) hx hb dX10_could_19 rfl hl (by decide) rfl (fun ls hl => ?_)
    obtain ⟨x5, hr, hf⟩ := bd_go hf
    have Jx5 : ∀ (H : Heap) (locs : List Loc) (ls : Array Slot), xG s E A (wX E ad x_imageCount x1.2 x_lastFault x_lastPlace pa_names pa_faultNumber pa_faultPlace rd_tape rd_length rd_end rd_next rd_sort rd_start rd_value rd_word to_unsurePair to_unsureYears to_triedPair to_seats to_slack to_sawInches to_quarrelChance to_people to_forkBits to_unsure to_tried to_triedFedBits tf_seatOf tf_one tf_other tf_kind tf_years tf_sawn tf_pairs tf_gone bd_unsurePair bd_unsureYears bd_triedPair bd_seats bd_slack bd_sawInches bd_quarrelChance bd_people bd_forkBits bd_unsure bd_tried bd_triedFedBits bf_seatOf bf_one bf_other bf_kind bf_years bf_sawn bf_pairs bf_gone nw_seatOf nw_one nw_other nw_kind nw_years nw_sawn nw_pairs nw_gone sc_seatOf sc_handle sc_both sc_slopOf sc_forkBits sc_canBits sc_bestBits sc_bestSlops sl_bits sl_count se_bestRow se_row se_pairAt se_hope se_hopeAt se_slopAt se_farBits se_gain se_worth se_bestWorth se_fresh ch_both ch_cost ch_bit ch_items ch_leastCost ch_leastBits cl_bits cl_count x2.1 x2.2 ps_act ps_whom ps_amount ps_next ps_count i0_seatOf i0_one i0_other i0_kind i0_years i0_sawn i0_pairs i0_gone i1_seatOf i1_one i1_other i1_kind i1_years i1_sawn i1_pairs i1_gone i2_seatOf i2_one i2_other i2_kind i2_years i2_sawn i2_pairs i2_gone) H locs → lv_has ls 3 [(1, .int x5)] → W p l e (xR 6 133) s m args below meth c H locs 0 0 (MQ below (xqI E A (wX E ad x_imageCount R0.2.1 x_lastFault x_lastPlace pa_names pa_faultNumber pa_faultPlace rd_tape rd_length rd_end rd_next rd_sort rd_start rd_value rd_word to_unsurePair to_unsureYears to_triedPair to_seats to_slack to_sawInches to_quarrelChance to_people to_forkBits to_unsure to_tried to_triedFedBits tf_seatOf tf_one tf_other tf_kind tf_years tf_sawn tf_pairs tf_gone bd_unsurePair bd_unsureYears bd_triedPair bd_seats bd_slack bd_sawInches bd_quarrelChance bd_people bd_forkBits bd_unsure bd_tried bd_triedFedBits bf_seatOf bf_one bf_other bf_kind bf_years bf_sawn bf_pairs bf_gone nw_seatOf nw_one nw_other nw_kind nw_years nw_sawn nw_pairs nw_gone sc_seatOf sc_handle sc_both sc_slopOf sc_forkBits sc_canBits sc_bestBits sc_bestSlops sl_bits sl_count se_bestRow se_row se_pairAt se_hope se_hopeAt se_slopAt se_farBits se_gain se_worth se_bestWorth se_fresh ch_both ch_cost ch_bit ch_items ch_leastCost ch_leastBits cl_bits cl_count R0.2.2.1 R0.2.2.2 ps_act ps_whom ps_amount ps_next ps_count i0_seatOf i0_one i0_other i0_kind i0_years i0_sawn i0_pairs i0_gone i1_seatOf i1_one i1_other i1_kind i1_years i1_sawn i1_pairs i1_gone i2_seatOf i2_one i2_other i2_kind i2_years i2_sawn i2_pairs i2_gone) (some .int) R0.1) args s 0 0 A) (F0 m 49 ls []) := by
      intro H locs ls G hl
      refine lv_iload_n hx hb dX10_could_49 rfl (lv_at hl 0 rfl) ?_
      obtain rfl := Option.some.inj hf
      exact xI_ret C G rfl dX10_could_50
    exact w_X_could_x_L20 C Jx5 fu _ _ _ _ _ G (lv_sub hl [2, 1, 0] rfl) hr
  · have hf := it_f h hf
    refine lv_iconst (v := -1) hx hb dX10_could_7 (by decide) ?_
    obtain rfl := Option.some.inj hf
    exact xI_ret C G rfl dX10_could_8
set_option maxHeartbeats 4000000 in
set_option maxRecDepth 100000 in
theorem w_X_surely_x_L44 {p : Program} {l : Launch} {e : Env} {s : State} {m : MethodId} {args : Array Value} {below : List Frame} {meth : Method} {c : Code} {A : Nat → Prop} {E : xE} {Q : State → Prop} {ad : Nat → Nat} {x_imageCount x_lastTrouble x_lastFault x_lastPlace pa_faultNumber pa_faultPlace rd_length rd_end rd_next rd_sort rd_start rd_value to_seats to_slack to_sawInches to_quarrelChance to_people to_forkBits to_unsure to_tried to_triedFedBits tf_pairs tf_gone bd_seats bd_slack bd_sawInches bd_quarrelChance bd_people bd_forkBits bd_unsure bd_tried bd_triedFedBits bf_pairs bf_gone nw_pairs nw_gone sc_forkBits sc_canBits sc_bestBits sc_bestSlops sl_count se_bestWorth se_fresh ch_items ch_leastCost ch_leastBits cl_count fi_count ps_next ps_count i0_pairs i0_gone i1_pairs i1_gone i2_pairs i2_gone : Int32} {pa_names : Nat → Int64} {rd_tape to_unsurePair to_unsureYears to_triedPair tf_seatOf tf_one tf_other tf_kind tf_years tf_sawn bd_unsurePair bd_unsureYears bd_triedPair bf_seatOf bf_one bf_other bf_kind bf_years bf_sawn nw_seatOf nw_one nw_other nw_kind nw_years nw_sawn sc_seatOf sc_handle sc_both sc_slopOf sl_bits se_bestRow se_row se_pairAt se_hope se_hopeAt se_slopAt se_farBits se_gain se_worth ch_both ch_cost ch_bit cl_bits fi_sets ps_act ps_whom ps_amount i0_seatOf i0_one i0_other i0_kind i0_years i0_sawn i1_seatOf i1_one i1_other i1_kind i1_years i1_sawn i2_seatOf i2_one i2_other i2_kind i2_years i2_sawn : Nat → Int32} {rd_word : Int64} {o : Int32} (C : xC p s m args meth c cX10_surely 3 RX10 E A (some .int)) (J : ∀ (H : Heap) (locs : List Loc) (ls : Array Slot), xG s E A (wX E ad x_imageCount x_lastTrouble x_lastFault x_lastPlace pa_names pa_faultNumber pa_faultPlace rd_tape rd_length rd_end rd_next rd_sort rd_start rd_value rd_word to_unsurePair to_unsureYears to_triedPair to_seats to_slack to_sawInches to_quarrelChance to_people to_forkBits to_unsure to_tried to_triedFedBits tf_seatOf tf_one tf_other tf_kind tf_years tf_sawn tf_pairs tf_gone bd_unsurePair bd_unsureYears bd_triedPair bd_seats bd_slack bd_sawInches bd_quarrelChance bd_people bd_forkBits bd_unsure bd_tried bd_triedFedBits bf_seatOf bf_one bf_other bf_kind bf_years bf_sawn bf_pairs bf_gone nw_seatOf nw_one nw_other nw_kind nw_years nw_sawn nw_pairs nw_gone sc_seatOf sc_handle sc_both sc_slopOf sc_forkBits sc_canBits sc_bestBits sc_bestSlops sl_bits sl_count se_bestRow se_row se_pairAt se_hope se_hopeAt se_slopAt se_farBits se_gain se_worth se_bestWorth se_fresh ch_both ch_cost ch_bit ch_items ch_leastCost ch_leastBits cl_bits cl_count fi_sets fi_count ps_act ps_whom ps_amount ps_next ps_count i0_seatOf i0_one i0_other i0_kind i0_years i0_sawn i0_pairs i0_gone i1_seatOf i1_one i1_other i1_kind i1_years i1_sawn i1_pairs i1_gone i2_seatOf i2_one i2_other i2_kind i2_years i2_sawn i2_pairs i2_gone) H locs → lv_has ls 3 [(1, .int o)] → W p l e (xR 6 133) s m args below meth c H locs 0 0 Q (F0 m 73 ls [])) :
    ∀ (n : Nat) (l1 : Int32) (l2 : Int32) (H : Heap) (locs : List Loc) (ls : Array Slot), xG s E A (wX E ad x_imageCount x_lastTrouble x_lastFault x_lastPlace pa_names pa_faultNumber pa_faultPlace rd_tape rd_length rd_end rd_next rd_sort rd_start rd_value rd_word to_unsurePair to_unsureYears to_triedPair to_seats to_slack to_sawInches to_quarrelChance to_people to_forkBits to_unsure to_tried to_triedFedBits tf_seatOf tf_one tf_other tf_kind tf_years tf_sawn tf_pairs tf_gone bd_unsurePair bd_unsureYears bd_triedPair bd_seats bd_slack bd_sawInches bd_quarrelChance bd_people bd_forkBits bd_unsure bd_tried bd_triedFedBits bf_seatOf bf_one bf_other bf_kind bf_years bf_sawn bf_pairs bf_gone nw_seatOf nw_one nw_other nw_kind nw_years nw_sawn nw_pairs nw_gone sc_seatOf sc_handle sc_both sc_slopOf sc_forkBits sc_canBits sc_bestBits sc_bestSlops sl_bits sl_count se_bestRow se_row se_pairAt se_hope se_hopeAt se_slopAt se_farBits se_gain se_worth se_bestWorth se_fresh ch_both ch_cost ch_bit ch_items ch_leastCost ch_leastBits cl_bits cl_count fi_sets fi_count ps_act ps_whom ps_amount ps_next ps_count i0_seatOf i0_one i0_other i0_kind i0_years i0_sawn i0_pairs i0_gone i1_seatOf i1_one i1_other i1_kind i1_years i1_sawn i1_pairs i1_gone i2_seatOf i2_one i2_other i2_kind i2_years i2_sawn i2_pairs i2_gone) H locs → lv_has ls 3 [(0, .ref (ad 0)), (1, .int l1), (2, .int l2)] → f_X_surely_L44 fi_sets fi_count n l1 l2 = some o → W p l e (xR 6 133) s m args below meth c H locs 0 0 Q (F0 m 44 ls []) := by
  have hx := C.1
  have hb := C.2.1
  intro n
  induction n with
  | zero =>
    intro l1 l2 H locs ls G hl hf
    exact nomatch (show (none : Option (Int32)) = some o from hf)
  | succ n ih =>
    intro l1 l2 H locs ls G hl hf
    rw [f_X_surely_L44] at hf
    refine lv_iload_n hx hb dX10_surely_44 rfl (lv_at hl 2 rfl) ?_
    refine lv_aload_n hx hb dX10_surely_45 rfl (lv_at hl 0 rfl) ?_
    refine x_get C G fX10_58 (wX_at0) rfl dX10_surely_46 ?_
    refine x_get C G fX10_291.g (wX_at58) rfl dX10_surely_49 ?_
    refine lv_icmp_ge (tgt := 73) hx hb dX10_surely_52 (by decide) (fun h => ?_) (fun h => ?_)
    · have hf := it_t h hf
      obtain rfl := Option.some.inj hf
      exact J _ _ _ G (lv_sub hl [1] rfl)
    · have hf := it_f h hf
      refine lv_iload_n hx hb dX10_surely_55 rfl (lv_at hl 1 rfl) ?_
      refine lv_aload_n hx hb dX10_surely_56 rfl (lv_at hl 0 rfl) ?_
      refine x_get C G fX10_58 (wX_at0) rfl dX10_surely_57 ?_
      refine x_get C G fX10_292 (wX_at58) rfl dX10_surely_60 ?_
      refine lv_iload_n hx hb dX10_surely_63 rfl (lv_at hl 2 rfl) ?_
      have hi := ck_in hf
      have hf := ck_go hf
      refine x_iald C G (wX_at59) hi dX10_surely_64 ?_
      refine lv_iand hx hb dX10_surely_65 ?_
      refine lv_topi (fun x4 ex4 => ?_)
      have hf := lt_go ex4 hf
      refine lv_istore_n (lv' := [(1, .int x4), (0, .ref (ad 0)), (2, .int l2)]) hx hb dX10_surely_66 rfl hl (by decide) rfl (fun ls hl => ?_)
      obtain ⟨x5, ex5⟩ : ∃ z : Int32, z = l2 + (1 : Int32) := ⟨_, rfl⟩
      have hf := lt_go ex5 hf
      refine lv_iinc (v := x5) (lv' := [(2, .int x5), (1, .int x4), (0, .ref (ad 0))]) hx hb dX10_surely_67 hl (k := 2) rfl (by rw [ex5]; rfl) (by decide) rfl (fun ls hl => ?_)
      refine lv_goto (tgt := 44) hx hb dX10_surely_70 (by decide) ?_
      exact ih x4 x5 _ _ _ G (lv_sub hl [2, 1, 0] rfl) hf
set_option maxHeartbeats 4000000 in
set_option maxRecDepth 100000 in
theorem c_X_surely_x {l : Launch} {E : xE} {ad : Nat → Nat} {x_imageCount x_lastTrouble x_lastFault x_lastPlace pa_faultNumber pa_faultPlace rd_length rd_end rd_next rd_sort rd_start rd_value to_seats to_slack to_sawInches to_quarrelChance to_people to_forkBits to_unsure to_tried to_triedFedBits tf_pairs tf_gone bd_seats bd_slack bd_sawInches bd_quarrelChance bd_people bd_forkBits bd_unsure bd_tried bd_triedFedBits bf_pairs bf_gone nw_pairs nw_gone sc_forkBits sc_canBits sc_bestBits sc_bestSlops sl_count se_bestWorth se_fresh ch_items ch_leastCost ch_leastBits cl_count fi_count ps_next ps_count i0_pairs i0_gone i1_pairs i1_gone i2_pairs i2_gone : Int32} {pa_names : Nat → Int64} {rd_tape to_unsurePair to_unsureYears to_triedPair tf_seatOf tf_one tf_other tf_kind tf_years tf_sawn bd_unsurePair bd_unsureYears bd_triedPair bf_seatOf bf_one bf_other bf_kind bf_years bf_sawn nw_seatOf nw_one nw_other nw_kind nw_years nw_sawn sc_seatOf sc_handle sc_both sc_slopOf sl_bits se_bestRow se_row se_pairAt se_hope se_hopeAt se_slopAt se_farBits se_gain se_worth ch_both ch_cost ch_bit cl_bits fi_sets ps_act ps_whom ps_amount i0_seatOf i0_one i0_other i0_kind i0_years i0_sawn i1_seatOf i1_one i1_other i1_kind i1_years i1_sawn i2_seatOf i2_one i2_other i2_kind i2_years i2_sawn : Nat → Int32} {rd_word : Int64} {R0 : Int32 × Int32 × (Nat → Int32) × Int32} (hf : f_X_surely bd_unsurePair bd_unsureYears bd_triedPair bd_slack bd_people bd_unsure bd_tried bd_triedFedBits bf_seatOf bf_one bf_other bf_kind bf_years bf_sawn fi_sets fi_count = some R0) : xI l E yX10_surely cX10_surely 3 (some .int) 6 133 [.ref (ad 0)] (wX E ad x_imageCount x_lastTrouble x_lastFault x_lastPlace pa_names pa_faultNumber pa_faultPlace rd_tape rd_length rd_end rd_next rd_sort rd_start rd_value rd_word to_unsurePair to_unsureYears to_triedPair to_seats to_slack to_sawInches to_quarrelChance to_people to_forkBits to_unsure to_tried to_triedFedBits tf_seatOf tf_one tf_other tf_kind tf_years tf_sawn tf_pairs tf_gone bd_unsurePair bd_unsureYears bd_triedPair bd_seats bd_slack bd_sawInches bd_quarrelChance bd_people bd_forkBits bd_unsure bd_tried bd_triedFedBits bf_seatOf bf_one bf_other bf_kind bf_years bf_sawn bf_pairs bf_gone nw_seatOf nw_one nw_other nw_kind nw_years nw_sawn nw_pairs nw_gone sc_seatOf sc_handle sc_both sc_slopOf sc_forkBits sc_canBits sc_bestBits sc_bestSlops sl_bits sl_count se_bestRow se_row se_pairAt se_hope se_hopeAt se_slopAt se_farBits se_gain se_worth se_bestWorth se_fresh ch_both ch_cost ch_bit ch_items ch_leastCost ch_leastBits cl_bits cl_count fi_sets fi_count ps_act ps_whom ps_amount ps_next ps_count i0_seatOf i0_one i0_other i0_kind i0_years i0_sawn i0_pairs i0_gone i1_seatOf i1_one i1_other i1_kind i1_years i1_sawn i1_pairs i1_gone i2_seatOf i2_one i2_other i2_kind i2_years i2_sawn i2_pairs i2_gone) (wX E ad x_imageCount R0.2.1 x_lastFault x_lastPlace pa_names pa_faultNumber pa_faultPlace rd_tape rd_length rd_end rd_next rd_sort rd_start rd_value rd_word to_unsurePair to_unsureYears to_triedPair to_seats to_slack to_sawInches to_quarrelChance to_people to_forkBits to_unsure to_tried to_triedFedBits tf_seatOf tf_one tf_other tf_kind tf_years tf_sawn tf_pairs tf_gone bd_unsurePair bd_unsureYears bd_triedPair bd_seats bd_slack bd_sawInches bd_quarrelChance bd_people bd_forkBits bd_unsure bd_tried bd_triedFedBits bf_seatOf bf_one bf_other bf_kind bf_years bf_sawn bf_pairs bf_gone nw_seatOf nw_one nw_other nw_kind nw_years nw_sawn nw_pairs nw_gone sc_seatOf sc_handle sc_both sc_slopOf sc_forkBits sc_canBits sc_bestBits sc_bestSlops sl_bits sl_count se_bestRow se_row se_pairAt se_hope se_hopeAt se_slopAt se_farBits se_gain se_worth se_bestWorth se_fresh ch_both ch_cost ch_bit ch_items ch_leastCost ch_leastBits cl_bits cl_count R0.2.2.1 R0.2.2.2 ps_act ps_whom ps_amount ps_next ps_count i0_seatOf i0_one i0_other i0_kind i0_years i0_sawn i0_pairs i0_gone i1_seatOf i1_one i1_other i1_kind i1_years i1_sawn i1_pairs i1_gone i2_seatOf i2_one i2_other i2_kind i2_years i2_sawn i2_pairs i2_gone) R0.1 := by
  refine xI_of (by decide) (Nat.le_of_ble_eq_true rfl) (fun p e s m args below meth c A C ls hl G => ?_)
  have hx := C.1
  have hb := C.2.1
  have hl : lv_has ls 3 [(0, .ref (ad 0))] := hl
  unfold f_X_surely at hf
  refine lv_aload_n hx hb dX10_surely_0 rfl (lv_at hl 0 rfl) ?_
  obtain ⟨x1, hc, hf⟩ := bd_go hf
  refine xI_V C G (c_X_noTable_x hc) mX10_noTable kX10_187 (wX_at0) rfl ⟨Nat.le_of_ble_eq_true rfl, Nat.le_of_ble_eq_true rfl⟩ rfl hl.1 rfl (Nat.le_of_ble_eq_true rfl) ⟨Nat.le_refl _, Nat.le_refl _⟩ dX10_surely_1 (fun hz1 H locs G => ?_)
  refine lv_if_eq (tgt := 9) hx hb dX10_surely_4 (by decide) (fun h => ?_) (fun h => ?_)
  · have hf := it_t h hf
    refine lv_aload_n hx hb dX10_surely_9 rfl (lv_at hl 0 rfl) ?_
    refine x_get C G fX10_58 (wX_at0) rfl dX10_surely_10 ?_
    obtain ⟨x2, hc, hf⟩ := bd_go hf
    refine xV_V C G (c_Fitter_collect_fi hc) mX2_collect kX10_288 (wX_at58) rfl ⟨Nat.le_of_ble_eq_true rfl, Nat.le_of_ble_eq_true rfl⟩ rfl hl.1 rfl (Nat.le_of_ble_eq_true rfl) ⟨Nat.le_refl _, Nat.le_refl _⟩ dX10_surely_13 (fun H locs G => ?_)
    refine lv_aload_n hx hb dX10_surely_16 rfl (lv_at hl 0 rfl) ?_
    refine x_get C G fX10_58 (wX_at0) rfl dX10_surely_17 ?_
    refine x_get C G fX10_291.g (wX_at58) rfl dX10_surely_20 ?_
    obtain ⟨x3, hrx3, hf⟩ := bd_go hf
    have Jx3 : ∀ (H : Heap) (locs : List Loc) (ls : Array Slot), xG s E A (wX E ad x_imageCount x1.2 x_lastFault x_lastPlace pa_names pa_faultNumber pa_faultPlace rd_tape rd_length rd_end rd_next rd_sort rd_start rd_value rd_word to_unsurePair to_unsureYears to_triedPair to_seats to_slack to_sawInches to_quarrelChance to_people to_forkBits to_unsure to_tried to_triedFedBits tf_seatOf tf_one tf_other tf_kind tf_years tf_sawn tf_pairs tf_gone bd_unsurePair bd_unsureYears bd_triedPair bd_seats bd_slack bd_sawInches bd_quarrelChance bd_people bd_forkBits bd_unsure bd_tried bd_triedFedBits bf_seatOf bf_one bf_other bf_kind bf_years bf_sawn bf_pairs bf_gone nw_seatOf nw_one nw_other nw_kind nw_years nw_sawn nw_pairs nw_gone sc_seatOf sc_handle sc_both sc_slopOf sc_forkBits sc_canBits sc_bestBits sc_bestSlops sl_bits sl_count se_bestRow se_row se_pairAt se_hope se_hopeAt se_slopAt se_farBits se_gain se_worth se_bestWorth se_fresh ch_both ch_cost ch_bit ch_items ch_leastCost ch_leastBits cl_bits cl_count x2.1 x2.2 ps_act ps_whom ps_amount ps_next ps_count i0_seatOf i0_one i0_other i0_kind i0_years i0_sawn i0_pairs i0_gone i1_seatOf i1_one i1_other i1_kind i1_years i1_sawn i1_pairs i1_gone i2_seatOf i2_one i2_other i2_kind i2_years i2_sawn i2_pairs i2_gone) H locs → lv_has ls 3 [(0, .ref (ad 0))] → W p l e (xR 6 133) s m args below meth c H locs 0 0 (MQ below (xqI E A (wX E ad x_imageCount R0.2.1 x_lastFault x_lastPlace pa_names pa_faultNumber pa_faultPlace rd_tape rd_length rd_end rd_next rd_sort rd_start rd_value rd_word to_unsurePair to_unsureYears to_triedPair to_seats to_slack to_sawInches to_quarrelChance to_people to_forkBits to_unsure to_tried to_triedFedBits tf_seatOf tf_one tf_other tf_kind tf_years tf_sawn tf_pairs tf_gone bd_unsurePair bd_unsureYears bd_triedPair bd_seats bd_slack bd_sawInches bd_quarrelChance bd_people bd_forkBits bd_unsure bd_tried bd_triedFedBits bf_seatOf bf_one bf_other bf_kind bf_years bf_sawn bf_pairs bf_gone nw_seatOf nw_one nw_other nw_kind nw_years nw_sawn nw_pairs nw_gone sc_seatOf sc_handle sc_both sc_slopOf sc_forkBits sc_canBits sc_bestBits sc_bestSlops sl_bits sl_count se_bestRow se_row se_pairAt se_hope se_hopeAt se_slopAt se_farBits se_gain se_worth se_bestWorth se_fresh ch_both ch_cost ch_bit ch_items ch_leastCost ch_leastBits cl_bits cl_count R0.2.2.1 R0.2.2.2 ps_act ps_whom ps_amount ps_next ps_count i0_seatOf i0_one i0_other i0_kind i0_years i0_sawn i0_pairs i0_gone i1_seatOf i1_one i1_other i1_kind i1_years i1_sawn i1_pairs i1_gone i2_seatOf i2_one i2_other i2_kind i2_years i2_sawn i2_pairs i2_gone) (some .int) R0.1) args s 0 0 A) (F0 m 41 ls [.int x3]) := by
      intro H locs ls G hl
      refine lv_istore_n (lv' := [(1, .int x3), (0, .ref (ad 0))]) hx hb dX10_surely_41 rfl hl (by decide) rfl (fun ls hl => ?_)
      refine lv_iconst (v := 0) hx hb dX10_surely_42 (by decide) ?_
      refine lv_istore_n (lv' := [(2, .int (0 : Int32)), (1, .int x3), (0, .ref (ad 0))]) hx hb dX10_surely_43 rfl hl (by decide) rfl (fun ls hl => ?_)
      obtain ⟨x6, hr, hf⟩ := bd_go hf
      have Jx6 : ∀ (H : Heap) (locs : List Loc) (ls : Array Slot), xG s E A (wX E ad x_imageCount x1.2 x_lastFault x_lastPlace pa_names pa_faultNumber pa_faultPlace rd_tape rd_length rd_end rd_next rd_sort rd_start rd_value rd_word to_unsurePair to_unsureYears to_triedPair to_seats to_slack to_sawInches to_quarrelChance to_people to_forkBits to_unsure to_tried to_triedFedBits tf_seatOf tf_one tf_other tf_kind tf_years tf_sawn tf_pairs tf_gone bd_unsurePair bd_unsureYears bd_triedPair bd_seats bd_slack bd_sawInches bd_quarrelChance bd_people bd_forkBits bd_unsure bd_tried bd_triedFedBits bf_seatOf bf_one bf_other bf_kind bf_years bf_sawn bf_pairs bf_gone nw_seatOf nw_one nw_other nw_kind nw_years nw_sawn nw_pairs nw_gone sc_seatOf sc_handle sc_both sc_slopOf sc_forkBits sc_canBits sc_bestBits sc_bestSlops sl_bits sl_count se_bestRow se_row se_pairAt se_hope se_hopeAt se_slopAt se_farBits se_gain se_worth se_bestWorth se_fresh ch_both ch_cost ch_bit ch_items ch_leastCost ch_leastBits cl_bits cl_count x2.1 x2.2 ps_act ps_whom ps_amount ps_next ps_count i0_seatOf i0_one i0_other i0_kind i0_years i0_sawn i0_pairs i0_gone i1_seatOf i1_one i1_other i1_kind i1_years i1_sawn i1_pairs i1_gone i2_seatOf i2_one i2_other i2_kind i2_years i2_sawn i2_pairs i2_gone) H locs → lv_has ls 3 [(1, .int x6)] → W p l e (xR 6 133) s m args below meth c H locs 0 0 (MQ below (xqI E A (wX E ad x_imageCount R0.2.1 x_lastFault x_lastPlace pa_names pa_faultNumber pa_faultPlace rd_tape rd_length rd_end rd_next rd_sort rd_start rd_value rd_word to_unsurePair to_unsureYears to_triedPair to_seats to_slack to_sawInches to_quarrelChance to_people to_forkBits to_unsure to_tried to_triedFedBits tf_seatOf tf_one tf_other tf_kind tf_years tf_sawn tf_pairs tf_gone bd_unsurePair bd_unsureYears bd_triedPair bd_seats bd_slack bd_sawInches bd_quarrelChance bd_people bd_forkBits bd_unsure bd_tried bd_triedFedBits bf_seatOf bf_one bf_other bf_kind bf_years bf_sawn bf_pairs bf_gone nw_seatOf nw_one nw_other nw_kind nw_years nw_sawn nw_pairs nw_gone sc_seatOf sc_handle sc_both sc_slopOf sc_forkBits sc_canBits sc_bestBits sc_bestSlops sl_bits sl_count se_bestRow se_row se_pairAt se_hope se_hopeAt se_slopAt se_farBits se_gain se_worth se_bestWorth se_fresh ch_both ch_cost ch_bit ch_items ch_leastCost ch_leastBits cl_bits cl_count R0.2.2.1 R0.2.2.2 ps_act ps_whom ps_amount ps_next ps_count i0_seatOf i0_one i0_other i0_kind i0_years i0_sawn i0_pairs i0_gone i1_seatOf i1_one i1_other i1_kind i1_years i1_sawn i1_pairs i1_gone i2_seatOf i2_one i2_other i2_kind i2_years i2_sawn i2_pairs i2_gone) (some .int) R0.1) args s 0 0 A) (F0 m 73 ls []) := by
        intro H locs ls G hl
        refine lv_iload_n hx hb dX10_surely_73 rfl (lv_at hl 0 rfl) ?_
        obtain rfl := Option.some.inj hf
        exact xI_ret C G rfl dX10_surely_74
      exact w_X_surely_x_L44 C Jx6 fu _ _ _ _ _ G (lv_sub hl [2, 1, 0] rfl) hr
    have hf := hrx3
    refine lv_if_ne (tgt := 30) hx hb dX10_surely_23 (by decide) (fun h => ?_) (fun h => ?_)
    · have hf := it_f h hf
      refine lv_iconst (v := 1) hx hb dX10_surely_30 (by decide) ?_
      refine lv_aload_n hx hb dX10_surely_31 rfl (lv_at hl 0 rfl) ?_
      refine x_get C G fX10_22 (wX_at0) rfl dX10_surely_32 ?_
      refine x_get C G fX10_295.g (wX_at17) rfl dX10_surely_35 ?_
      refine lv_ishl hx hb dX10_surely_38 ?_
      refine lv_iconst (v := 1) hx hb dX10_surely_39 (by decide) ?_
      refine lv_isub hx hb dX10_surely_40 ?_
      obtain rfl := Option.some.inj hf
      exact Jx3 _ _ _ G (lv_sub hl [0] rfl)
    · have hf := it_t h hf
      refine lv_iconst (v := 0) hx hb dX10_surely_26 (by decide) ?_
      refine lv_goto (tgt := 41) hx hb dX10_surely_27 (by decide) ?_
      obtain rfl := Option.some.inj hf
      exact Jx3 _ _ _ G (lv_sub hl [0] rfl)
  · have hf := it_f h hf
    refine lv_iconst (v := -1) hx hb dX10_surely_7 (by decide) ?_
    obtain rfl := Option.some.inj hf
    exact xI_ret C G rfl dX10_surely_8
set_option maxHeartbeats 4000000 in
set_option maxRecDepth 100000 in
theorem w_Fitter_mostLeft_fi_L4 {p : Program} {l : Launch} {e : Env} {s : State} {m : MethodId} {args : Array Value} {below : List Frame} {meth : Method} {c : Code} {A : Nat → Prop} {E : xE} {Q : State → Prop} {ad : Nat → Nat} {x_imageCount x_lastTrouble x_lastFault x_lastPlace pa_faultNumber pa_faultPlace rd_length rd_end rd_next rd_sort rd_start rd_value to_seats to_slack to_sawInches to_quarrelChance to_people to_forkBits to_unsure to_tried to_triedFedBits tf_pairs tf_gone bd_seats bd_slack bd_sawInches bd_quarrelChance bd_people bd_forkBits bd_unsure bd_tried bd_triedFedBits bf_pairs bf_gone nw_pairs nw_gone sc_forkBits sc_canBits sc_bestBits sc_bestSlops sl_count se_bestWorth se_fresh ch_items ch_leastCost ch_leastBits cl_count fi_count ps_next ps_count i0_pairs i0_gone i1_pairs i1_gone i2_pairs i2_gone : Int32} {pa_names : Nat → Int64} {rd_tape to_unsurePair to_unsureYears to_triedPair tf_seatOf tf_one tf_other tf_kind tf_years tf_sawn bd_unsurePair bd_unsureYears bd_triedPair bf_seatOf bf_one bf_other bf_kind bf_years bf_sawn nw_seatOf nw_one nw_other nw_kind nw_years nw_sawn sc_seatOf sc_handle sc_both sc_slopOf sl_bits se_bestRow se_row se_pairAt se_hope se_hopeAt se_slopAt se_farBits se_gain se_worth ch_both ch_cost ch_bit cl_bits fi_sets ps_act ps_whom ps_amount i0_seatOf i0_one i0_other i0_kind i0_years i0_sawn i1_seatOf i1_one i1_other i1_kind i1_years i1_sawn i2_seatOf i2_one i2_other i2_kind i2_years i2_sawn : Nat → Int32} {rd_word : Int64} {l1 : Int32} {o : Int32} (C : xC p s m args meth c cX2_mostLeft 4 RX2 E A (some .int)) (J : ∀ (H : Heap) (locs : List Loc) (ls : Array Slot), xG s E A (wX E ad x_imageCount x_lastTrouble x_lastFault x_lastPlace pa_names pa_faultNumber pa_faultPlace rd_tape rd_length rd_end rd_next rd_sort rd_start rd_value rd_word to_unsurePair to_unsureYears to_triedPair to_seats to_slack to_sawInches to_quarrelChance to_people to_forkBits to_unsure to_tried to_triedFedBits tf_seatOf tf_one tf_other tf_kind tf_years tf_sawn tf_pairs tf_gone bd_unsurePair bd_unsureYears bd_triedPair bd_seats bd_slack bd_sawInches bd_quarrelChance bd_people bd_forkBits bd_unsure bd_tried bd_triedFedBits bf_seatOf bf_one bf_other bf_kind bf_years bf_sawn bf_pairs bf_gone nw_seatOf nw_one nw_other nw_kind nw_years nw_sawn nw_pairs nw_gone sc_seatOf sc_handle sc_both sc_slopOf sc_forkBits sc_canBits sc_bestBits sc_bestSlops sl_bits sl_count se_bestRow se_row se_pairAt se_hope se_hopeAt se_slopAt se_farBits se_gain se_worth se_bestWorth se_fresh ch_both ch_cost ch_bit ch_items ch_leastCost ch_leastBits cl_bits cl_count fi_sets fi_count ps_act ps_whom ps_amount ps_next ps_count i0_seatOf i0_one i0_other i0_kind i0_years i0_sawn i0_pairs i0_gone i1_seatOf i1_one i1_other i1_kind i1_years i1_sawn i1_pairs i1_gone i2_seatOf i2_one i2_other i2_kind i2_years i2_sawn i2_pairs i2_gone) H locs → lv_has ls 4 [(0, .ref (ad 58)), (2, .int o)] → W p l e (xR 1 21) s m args below meth c H locs 0 0 Q (F0 m 34 ls [])) :
    ∀ (n : Nat) (l2 : Int32) (l3 : Int32) (H : Heap) (locs : List Loc) (ls : Array Slot), xG s E A (wX E ad x_imageCount x_lastTrouble x_lastFault x_lastPlace pa_names pa_faultNumber pa_faultPlace rd_tape rd_length rd_end rd_next rd_sort rd_start rd_value rd_word to_unsurePair to_unsureYears to_triedPair to_seats to_slack to_sawInches to_quarrelChance to_people to_forkBits to_unsure to_tried to_triedFedBits tf_seatOf tf_one tf_other tf_kind tf_years tf_sawn tf_pairs tf_gone bd_unsurePair bd_unsureYears bd_triedPair bd_seats bd_slack bd_sawInches bd_quarrelChance bd_people bd_forkBits bd_unsure bd_tried bd_triedFedBits bf_seatOf bf_one bf_other bf_kind bf_years bf_sawn bf_pairs bf_gone nw_seatOf nw_one nw_other nw_kind nw_years nw_sawn nw_pairs nw_gone sc_seatOf sc_handle sc_both sc_slopOf sc_forkBits sc_canBits sc_bestBits sc_bestSlops sl_bits sl_count se_bestRow se_row se_pairAt se_hope se_hopeAt se_slopAt se_farBits se_gain se_worth se_bestWorth se_fresh ch_both ch_cost ch_bit ch_items ch_leastCost ch_leastBits cl_bits cl_count fi_sets fi_count ps_act ps_whom ps_amount ps_next ps_count i0_seatOf i0_one i0_other i0_kind i0_years i0_sawn i0_pairs i0_gone i1_seatOf i1_one i1_other i1_kind i1_years i1_sawn i1_pairs i1_gone i2_seatOf i2_one i2_other i2_kind i2_years i2_sawn i2_pairs i2_gone) H locs → lv_has ls 4 [(0, .ref (ad 58)), (1, .int l1), (2, .int l2), (3, .int l3)] → f_Fitter_mostLeft_L4 l1 fi_sets fi_count n l2 l3 = some o → W p l e (xR 1 21) s m args below meth c H locs 0 0 Q (F0 m 4 ls []) := by
  have hx := C.1
  have hb := C.2.1
  intro n
  induction n with
  | zero =>
    intro l2 l3 H locs ls G hl hf
    exact nomatch (show (none : Option (Int32)) = some o from hf)
  | succ n ih =>
    intro l2 l3 H locs ls G hl hf
    rw [f_Fitter_mostLeft_L4] at hf
    refine lv_iload_n hx hb dX2_mostLeft_4 rfl (lv_at hl 3 rfl) ?_
    refine lv_aload_n hx hb dX2_mostLeft_5 rfl (lv_at hl 0 rfl) ?_
    refine x_get C G fX2_19.g (wX_at58) rfl dX2_mostLeft_6 ?_
    refine lv_icmp_ge (tgt := 34) hx hb dX2_mostLeft_9 (by decide) (fun h => ?_) (fun h => ?_)
    · have hf := it_t h hf
      obtain rfl := Option.some.inj hf
      exact J _ _ _ G (lv_sub hl [0, 2] rfl)
    · have hf := it_f h hf
      refine lv_aload_n hx hb dX2_mostLeft_12 rfl (lv_at hl 0 rfl) ?_
      refine x_get C G fX2_9 (wX_at58) rfl dX2_mostLeft_13 ?_
      refine lv_iload_n hx hb dX2_mostLeft_16 rfl (lv_at hl 3 rfl) ?_
      have hi := ck_in hf
      have hf := ck_go hf
      refine x_iald C G (wX_at59) hi dX2_mostLeft_17 ?_
      refine lv_iload_n hx hb dX2_mostLeft_18 rfl (lv_at hl 1 rfl) ?_
      obtain ⟨x1, hc, hf⟩ := bd_go hf
      refine xI_S C G (c_X_has_any hc) mX10_has kX2_52 ⟨Nat.le_of_ble_eq_true rfl, Nat.le_of_ble_eq_true rfl⟩ rfl hl.1 rfl (Nat.le_of_ble_eq_true rfl) ⟨Nat.le_refl _, Nat.le_refl _⟩ dX2_mostLeft_19 (fun hz1 H locs G => ?_)
      refine lv_if_eq (tgt := 28) hx hb dX2_mostLeft_22 (by decide) (fun h => ?_) (fun h => ?_)
      · have hf := it_t h hf
        obtain ⟨x2, ex2⟩ : ∃ z : Int32, z = l3 + (1 : Int32) := ⟨_, rfl⟩
        have hf := lt_go ex2 hf
        refine lv_iinc (v := x2) (lv' := [(3, .int x2), (0, .ref (ad 58)), (1, .int l1), (2, .int l2)]) hx hb dX2_mostLeft_28 hl (k := 3) rfl (by rw [ex2]; rfl) (by decide) rfl (fun ls hl => ?_)
        refine lv_goto (tgt := 4) hx hb dX2_mostLeft_31 (by decide) ?_
        exact ih l2 x2 _ _ _ G (lv_sub hl [1, 2, 3, 0] rfl) hf
      · have hf := it_f h hf
        obtain ⟨x3, ex3⟩ : ∃ z : Int32, z = l2 + (1 : Int32) := ⟨_, rfl⟩
        have hf := lt_go ex3 hf
        refine lv_iinc (v := x3) (lv' := [(2, .int x3), (0, .ref (ad 58)), (1, .int l1), (3, .int l3)]) hx hb dX2_mostLeft_25 hl (k := 2) rfl (by rw [ex3]; rfl) (by decide) rfl (fun ls hl => ?_)
        obtain ⟨x4, ex4⟩ : ∃ z : Int32, z = l3 + (1 : Int32) := ⟨_, rfl⟩
        have hf := lt_go ex4 hf
        refine lv_iinc (v := x4) (lv' := [(3, .int x4), (2, .int x3), (0, .ref (ad 58)), (1, .int l1)]) hx hb dX2_mostLeft_28 hl (k := 3) rfl (by rw [ex4]; rfl) (by decide) rfl (fun ls hl => ?_)
        refine lv_goto (tgt := 4) hx hb dX2_mostLeft_31 (by decide) ?_
        exact ih x3 x4 _ _ _ G (lv_sub hl [2, 3, 1, 0] rfl) hf
set_option maxHeartbeats 4000000 in
set_option maxRecDepth 100000 in
theorem c_Fitter_mostLeft_fi {l : Launch} {E : xE} {ad : Nat → Nat} {x_imageCount x_lastTrouble x_lastFault x_lastPlace pa_faultNumber pa_faultPlace rd_length rd_end rd_next rd_sort rd_start rd_value to_seats to_slack to_sawInches to_quarrelChance to_people to_forkBits to_unsure to_tried to_triedFedBits tf_pairs tf_gone bd_seats bd_slack bd_sawInches bd_quarrelChance bd_people bd_forkBits bd_unsure bd_tried bd_triedFedBits bf_pairs bf_gone nw_pairs nw_gone sc_forkBits sc_canBits sc_bestBits sc_bestSlops sl_count se_bestWorth se_fresh ch_items ch_leastCost ch_leastBits cl_count fi_count ps_next ps_count i0_pairs i0_gone i1_pairs i1_gone i2_pairs i2_gone : Int32} {pa_names : Nat → Int64} {rd_tape to_unsurePair to_unsureYears to_triedPair tf_seatOf tf_one tf_other tf_kind tf_years tf_sawn bd_unsurePair bd_unsureYears bd_triedPair bf_seatOf bf_one bf_other bf_kind bf_years bf_sawn nw_seatOf nw_one nw_other nw_kind nw_years nw_sawn sc_seatOf sc_handle sc_both sc_slopOf sl_bits se_bestRow se_row se_pairAt se_hope se_hopeAt se_slopAt se_farBits se_gain se_worth ch_both ch_cost ch_bit cl_bits fi_sets ps_act ps_whom ps_amount i0_seatOf i0_one i0_other i0_kind i0_years i0_sawn i1_seatOf i1_one i1_other i1_kind i1_years i1_sawn i2_seatOf i2_one i2_other i2_kind i2_years i2_sawn : Nat → Int32} {rd_word : Int64} {l1 : Int32} {R0 : Int32} (hf : f_Fitter_mostLeft l1 fi_sets fi_count = some R0) : xI l E yX2_mostLeft cX2_mostLeft 4 (some .int) 1 21 [.ref (ad 58), .int l1] (wX E ad x_imageCount x_lastTrouble x_lastFault x_lastPlace pa_names pa_faultNumber pa_faultPlace rd_tape rd_length rd_end rd_next rd_sort rd_start rd_value rd_word to_unsurePair to_unsureYears to_triedPair to_seats to_slack to_sawInches to_quarrelChance to_people to_forkBits to_unsure to_tried to_triedFedBits tf_seatOf tf_one tf_other tf_kind tf_years tf_sawn tf_pairs tf_gone bd_unsurePair bd_unsureYears bd_triedPair bd_seats bd_slack bd_sawInches bd_quarrelChance bd_people bd_forkBits bd_unsure bd_tried bd_triedFedBits bf_seatOf bf_one bf_other bf_kind bf_years bf_sawn bf_pairs bf_gone nw_seatOf nw_one nw_other nw_kind nw_years nw_sawn nw_pairs nw_gone sc_seatOf sc_handle sc_both sc_slopOf sc_forkBits sc_canBits sc_bestBits sc_bestSlops sl_bits sl_count se_bestRow se_row se_pairAt se_hope se_hopeAt se_slopAt se_farBits se_gain se_worth se_bestWorth se_fresh ch_both ch_cost ch_bit ch_items ch_leastCost ch_leastBits cl_bits cl_count fi_sets fi_count ps_act ps_whom ps_amount ps_next ps_count i0_seatOf i0_one i0_other i0_kind i0_years i0_sawn i0_pairs i0_gone i1_seatOf i1_one i1_other i1_kind i1_years i1_sawn i1_pairs i1_gone i2_seatOf i2_one i2_other i2_kind i2_years i2_sawn i2_pairs i2_gone) (wX E ad x_imageCount x_lastTrouble x_lastFault x_lastPlace pa_names pa_faultNumber pa_faultPlace rd_tape rd_length rd_end rd_next rd_sort rd_start rd_value rd_word to_unsurePair to_unsureYears to_triedPair to_seats to_slack to_sawInches to_quarrelChance to_people to_forkBits to_unsure to_tried to_triedFedBits tf_seatOf tf_one tf_other tf_kind tf_years tf_sawn tf_pairs tf_gone bd_unsurePair bd_unsureYears bd_triedPair bd_seats bd_slack bd_sawInches bd_quarrelChance bd_people bd_forkBits bd_unsure bd_tried bd_triedFedBits bf_seatOf bf_one bf_other bf_kind bf_years bf_sawn bf_pairs bf_gone nw_seatOf nw_one nw_other nw_kind nw_years nw_sawn nw_pairs nw_gone sc_seatOf sc_handle sc_both sc_slopOf sc_forkBits sc_canBits sc_bestBits sc_bestSlops sl_bits sl_count se_bestRow se_row se_pairAt se_hope se_hopeAt se_slopAt se_farBits se_gain se_worth se_bestWorth se_fresh ch_both ch_cost ch_bit ch_items ch_leastCost ch_leastBits cl_bits cl_count fi_sets fi_count ps_act ps_whom ps_amount ps_next ps_count i0_seatOf i0_one i0_other i0_kind i0_years i0_sawn i0_pairs i0_gone i1_seatOf i1_one i1_other i1_kind i1_years i1_sawn i1_pairs i1_gone i2_seatOf i2_one i2_other i2_kind i2_years i2_sawn i2_pairs i2_gone) R0 := by
  refine xI_of (by decide) (Nat.le_of_ble_eq_true rfl) (fun p e s m args below meth c A C ls hl G => ?_)
  have hx := C.1
  have hb := C.2.1
  have hl : lv_has ls 4 [(0, .ref (ad 58)), (1, .int l1)] := hl
  unfold f_Fitter_mostLeft at hf
  refine lv_iconst (v := 0) hx hb dX2_mostLeft_0 (by decide) ?_
  refine lv_istore_n (lv' := [(2, .int (0 : Int32)), (0, .ref (ad 58)), (1, .int l1)]) hx hb dX2_mostLeft_1 rfl hl (by decide) rfl (fun ls hl => ?_)
  refine lv_iconst (v := 0) hx hb dX2_mostLeft_2 (by decide) ?_
  refine lv_istore_n (lv' := [(3, .int (0 : Int32)), (2, .int (0 : Int32)), (0, .ref (ad 58)), (1, .int l1)]) hx hb dX2_mostLeft_3 rfl hl (by decide) rfl (fun ls hl => ?_)
  obtain ⟨x5, hr, hf⟩ := bd_go hf
  have Jx5 : ∀ (H : Heap) (locs : List Loc) (ls : Array Slot), xG s E A (wX E ad x_imageCount x_lastTrouble x_lastFault x_lastPlace pa_names pa_faultNumber pa_faultPlace rd_tape rd_length rd_end rd_next rd_sort rd_start rd_value rd_word to_unsurePair to_unsureYears to_triedPair to_seats to_slack to_sawInches to_quarrelChance to_people to_forkBits to_unsure to_tried to_triedFedBits tf_seatOf tf_one tf_other tf_kind tf_years tf_sawn tf_pairs tf_gone bd_unsurePair bd_unsureYears bd_triedPair bd_seats bd_slack bd_sawInches bd_quarrelChance bd_people bd_forkBits bd_unsure bd_tried bd_triedFedBits bf_seatOf bf_one bf_other bf_kind bf_years bf_sawn bf_pairs bf_gone nw_seatOf nw_one nw_other nw_kind nw_years nw_sawn nw_pairs nw_gone sc_seatOf sc_handle sc_both sc_slopOf sc_forkBits sc_canBits sc_bestBits sc_bestSlops sl_bits sl_count se_bestRow se_row se_pairAt se_hope se_hopeAt se_slopAt se_farBits se_gain se_worth se_bestWorth se_fresh ch_both ch_cost ch_bit ch_items ch_leastCost ch_leastBits cl_bits cl_count fi_sets fi_count ps_act ps_whom ps_amount ps_next ps_count i0_seatOf i0_one i0_other i0_kind i0_years i0_sawn i0_pairs i0_gone i1_seatOf i1_one i1_other i1_kind i1_years i1_sawn i1_pairs i1_gone i2_seatOf i2_one i2_other i2_kind i2_years i2_sawn i2_pairs i2_gone) H locs → lv_has ls 4 [(0, .ref (ad 58)), (2, .int x5)] → W p l e (xR 1 21) s m args below meth c H locs 0 0 (MQ below (xqI E A (wX E ad x_imageCount x_lastTrouble x_lastFault x_lastPlace pa_names pa_faultNumber pa_faultPlace rd_tape rd_length rd_end rd_next rd_sort rd_start rd_value rd_word to_unsurePair to_unsureYears to_triedPair to_seats to_slack to_sawInches to_quarrelChance to_people to_forkBits to_unsure to_tried to_triedFedBits tf_seatOf tf_one tf_other tf_kind tf_years tf_sawn tf_pairs tf_gone bd_unsurePair bd_unsureYears bd_triedPair bd_seats bd_slack bd_sawInches bd_quarrelChance bd_people bd_forkBits bd_unsure bd_tried bd_triedFedBits bf_seatOf bf_one bf_other bf_kind bf_years bf_sawn bf_pairs bf_gone nw_seatOf nw_one nw_other nw_kind nw_years nw_sawn nw_pairs nw_gone sc_seatOf sc_handle sc_both sc_slopOf sc_forkBits sc_canBits sc_bestBits sc_bestSlops sl_bits sl_count se_bestRow se_row se_pairAt se_hope se_hopeAt se_slopAt se_farBits se_gain se_worth se_bestWorth se_fresh ch_both ch_cost ch_bit ch_items ch_leastCost ch_leastBits cl_bits cl_count fi_sets fi_count ps_act ps_whom ps_amount ps_next ps_count i0_seatOf i0_one i0_other i0_kind i0_years i0_sawn i0_pairs i0_gone i1_seatOf i1_one i1_other i1_kind i1_years i1_sawn i1_pairs i1_gone i2_seatOf i2_one i2_other i2_kind i2_years i2_sawn i2_pairs i2_gone) (some .int) R0) args s 0 0 A) (F0 m 34 ls []) := by
    intro H locs ls G hl
    refine lv_iload_n hx hb dX2_mostLeft_34 rfl (lv_at hl 1 rfl) ?_
    refine lv_aload_n hx hb dX2_mostLeft_35 rfl (lv_at hl 0 rfl) ?_
    refine x_get C G fX2_19.g (wX_at58) rfl dX2_mostLeft_36 ?_
    refine lv_iload_n hx hb dX2_mostLeft_39 rfl (lv_at hl 1 rfl) ?_
    refine lv_isub hx hb dX2_mostLeft_40 ?_
    refine x_max C mMath_max kX2_80 hl.1 (Nat.le_of_ble_eq_true rfl) (Nat.le_of_ble_eq_true rfl) ⟨Nat.le_refl _, Nat.le_refl _⟩ dX2_mostLeft_41 ?_
    obtain rfl := Option.some.inj hf
    exact xI_ret C G rfl dX2_mostLeft_44
  exact w_Fitter_mostLeft_fi_L4 C Jx5 fu _ _ _ _ _ G (lv_sub hl [2, 3, 1, 0] rfl) hr
set_option maxHeartbeats 4000000 in
set_option maxRecDepth 100000 in
theorem w_Fitter_bestQuestion_fi_L7 {p : Program} {l : Launch} {e : Env} {s : State} {m : MethodId} {args : Array Value} {below : List Frame} {meth : Method} {c : Code} {A : Nat → Prop} {E : xE} {Q : State → Prop} {ad : Nat → Nat} {x_imageCount x_lastTrouble x_lastFault x_lastPlace pa_faultNumber pa_faultPlace rd_length rd_end rd_next rd_sort rd_start rd_value to_seats to_slack to_sawInches to_quarrelChance to_people to_forkBits to_unsure to_tried to_triedFedBits tf_pairs tf_gone bd_seats bd_slack bd_sawInches bd_quarrelChance bd_people bd_forkBits bd_unsure bd_tried bd_triedFedBits bf_pairs bf_gone nw_pairs nw_gone sc_forkBits sc_canBits sc_bestBits sc_bestSlops sl_count se_bestWorth se_fresh ch_items ch_leastCost ch_leastBits cl_count fi_count ps_next ps_count i0_pairs i0_gone i1_pairs i1_gone i2_pairs i2_gone : Int32} {pa_names : Nat → Int64} {rd_tape to_unsurePair to_unsureYears to_triedPair tf_seatOf tf_one tf_other tf_kind tf_years tf_sawn bd_unsurePair bd_unsureYears bd_triedPair bf_seatOf bf_one bf_other bf_kind bf_years bf_sawn nw_seatOf nw_one nw_other nw_kind nw_years nw_sawn sc_seatOf sc_handle sc_both sc_slopOf sl_bits se_bestRow se_row se_pairAt se_hope se_hopeAt se_slopAt se_farBits se_gain se_worth ch_both ch_cost ch_bit cl_bits fi_sets ps_act ps_whom ps_amount i0_seatOf i0_one i0_other i0_kind i0_years i0_sawn i1_seatOf i1_one i1_other i1_kind i1_years i1_sawn i2_seatOf i2_one i2_other i2_kind i2_years i2_sawn : Nat → Int32} {rd_word : Int64} {o : Int32} (C : xC p s m args meth c cX2_bestQuestion 5 RX2 E A (some .int)) (J : ∀ (H : Heap) (locs : List Loc) (ls : Array Slot), xG s E A (wX E ad x_imageCount x_lastTrouble x_lastFault x_lastPlace pa_names pa_faultNumber pa_faultPlace rd_tape rd_length rd_end rd_next rd_sort rd_start rd_value rd_word to_unsurePair to_unsureYears to_triedPair to_seats to_slack to_sawInches to_quarrelChance to_people to_forkBits to_unsure to_tried to_triedFedBits tf_seatOf tf_one tf_other tf_kind tf_years tf_sawn tf_pairs tf_gone bd_unsurePair bd_unsureYears bd_triedPair bd_seats bd_slack bd_sawInches bd_quarrelChance bd_people bd_forkBits bd_unsure bd_tried bd_triedFedBits bf_seatOf bf_one bf_other bf_kind bf_years bf_sawn bf_pairs bf_gone nw_seatOf nw_one nw_other nw_kind nw_years nw_sawn nw_pairs nw_gone sc_seatOf sc_handle sc_both sc_slopOf sc_forkBits sc_canBits sc_bestBits sc_bestSlops sl_bits sl_count se_bestRow se_row se_pairAt se_hope se_hopeAt se_slopAt se_farBits se_gain se_worth se_bestWorth se_fresh ch_both ch_cost ch_bit ch_items ch_leastCost ch_leastBits cl_bits cl_count fi_sets fi_count ps_act ps_whom ps_amount ps_next ps_count i0_seatOf i0_one i0_other i0_kind i0_years i0_sawn i0_pairs i0_gone i1_seatOf i1_one i1_other i1_kind i1_years i1_sawn i1_pairs i1_gone i2_seatOf i2_one i2_other i2_kind i2_years i2_sawn i2_pairs i2_gone) H locs → lv_has ls 5 [(1, .int o)] → W p l e (xR 2 44) s m args below meth c H locs 0 0 Q (F0 m 53 ls [])) :
    ∀ (n : Nat) (l1 : Int32) (l2 : Int32) (l3 : Int32) (H : Heap) (locs : List Loc) (ls : Array Slot), xG s E A (wX E ad x_imageCount x_lastTrouble x_lastFault x_lastPlace pa_names pa_faultNumber pa_faultPlace rd_tape rd_length rd_end rd_next rd_sort rd_start rd_value rd_word to_unsurePair to_unsureYears to_triedPair to_seats to_slack to_sawInches to_quarrelChance to_people to_forkBits to_unsure to_tried to_triedFedBits tf_seatOf tf_one tf_other tf_kind tf_years tf_sawn tf_pairs tf_gone bd_unsurePair bd_unsureYears bd_triedPair bd_seats bd_slack bd_sawInches bd_quarrelChance bd_people bd_forkBits bd_unsure bd_tried bd_triedFedBits bf_seatOf bf_one bf_other bf_kind bf_years bf_sawn bf_pairs bf_gone nw_seatOf nw_one nw_other nw_kind nw_years nw_sawn nw_pairs nw_gone sc_seatOf sc_handle sc_both sc_slopOf sc_forkBits sc_canBits sc_bestBits sc_bestSlops sl_bits sl_count se_bestRow se_row se_pairAt se_hope se_hopeAt se_slopAt se_farBits se_gain se_worth se_bestWorth se_fresh ch_both ch_cost ch_bit ch_items ch_leastCost ch_leastBits cl_bits cl_count fi_sets fi_count ps_act ps_whom ps_amount ps_next ps_count i0_seatOf i0_one i0_other i0_kind i0_years i0_sawn i0_pairs i0_gone i1_seatOf i1_one i1_other i1_kind i1_years i1_sawn i1_pairs i1_gone i2_seatOf i2_one i2_other i2_kind i2_years i2_sawn i2_pairs i2_gone) H locs → lv_has ls 5 [(0, .ref (ad 58)), (1, .int l1), (2, .int l2), (3, .int l3)] → f_Fitter_bestQuestion_L7 bd_unsure fi_sets fi_count n l1 l2 l3 = some o → W p l e (xR 2 44) s m args below meth c H locs 0 0 Q (F0 m 7 ls []) := by
  have hx := C.1
  have hb := C.2.1
  intro n
  induction n with
  | zero =>
    intro l1 l2 l3 H locs ls G hl hf
    exact nomatch (show (none : Option (Int32)) = some o from hf)
  | succ n ih =>
    intro l1 l2 l3 H locs ls G hl hf
    rw [f_Fitter_bestQuestion_L7] at hf
    refine lv_iload_n hx hb dX2_bestQuestion_7 rfl (lv_at hl 3 rfl) ?_
    refine lv_aload_n hx hb dX2_bestQuestion_8 rfl (lv_at hl 0 rfl) ?_
    refine x_get C G fX2_15 (wX_at58) rfl dX2_bestQuestion_9 ?_
    refine x_get C G fX2_23.g (wX_at17) rfl dX2_bestQuestion_12 ?_
    obtain ⟨b1, hr, hf⟩ := bd_go hf
    cases b1 with
    | true =>
      have hf := it_t rfl hf
      have J : ∀ (H : Heap) (locs : List Loc), xG s E A (wX E ad x_imageCount x_lastTrouble x_lastFault x_lastPlace pa_names pa_faultNumber pa_faultPlace rd_tape rd_length rd_end rd_next rd_sort rd_start rd_value rd_word to_unsurePair to_unsureYears to_triedPair to_seats to_slack to_sawInches to_quarrelChance to_people to_forkBits to_unsure to_tried to_triedFedBits tf_seatOf tf_one tf_other tf_kind tf_years tf_sawn tf_pairs tf_gone bd_unsurePair bd_unsureYears bd_triedPair bd_seats bd_slack bd_sawInches bd_quarrelChance bd_people bd_forkBits bd_unsure bd_tried bd_triedFedBits bf_seatOf bf_one bf_other bf_kind bf_years bf_sawn bf_pairs bf_gone nw_seatOf nw_one nw_other nw_kind nw_years nw_sawn nw_pairs nw_gone sc_seatOf sc_handle sc_both sc_slopOf sc_forkBits sc_canBits sc_bestBits sc_bestSlops sl_bits sl_count se_bestRow se_row se_pairAt se_hope se_hopeAt se_slopAt se_farBits se_gain se_worth se_bestWorth se_fresh ch_both ch_cost ch_bit ch_items ch_leastCost ch_leastBits cl_bits cl_count fi_sets fi_count ps_act ps_whom ps_amount ps_next ps_count i0_seatOf i0_one i0_other i0_kind i0_years i0_sawn i0_pairs i0_gone i1_seatOf i1_one i1_other i1_kind i1_years i1_sawn i1_pairs i1_gone i2_seatOf i2_one i2_other i2_kind i2_years i2_sawn i2_pairs i2_gone) H locs → W p l e (xR 2 44) s m args below meth c H locs 0 0 Q (F0 m 53 ls []) := by
        intro H locs G
        obtain rfl := Option.some.inj hf
        exact J _ _ _ G (lv_sub hl [1] rfl)
      have hf := hr
      clear hr
      refine lv_icmp_ge (tgt := 53) hx hb dX2_bestQuestion_15 (by decide) (fun h => ?_) (fun h => ?_)
      · have hf := it_t h hf
        exact J _ _ G
      · have hf := it_f h hf
        refine lv_aload_n hx hb dX2_bestQuestion_18 rfl (lv_at hl 0 rfl) ?_
        refine x_get C G fX2_19.g (wX_at58) rfl dX2_bestQuestion_19 ?_
        refine lv_if_le (tgt := 53) hx hb dX2_bestQuestion_22 (by decide) (fun h => ?_) (fun h => ?_)
        · have hf := it_t h hf
          exact J _ _ G
        · have hf := it_f h hf
          exact absurd (Option.some.inj hf) (by decide)
    | false =>
      have hf := it_f (by decide) hf
      have J : ∀ (H : Heap) (locs : List Loc), xG s E A (wX E ad x_imageCount x_lastTrouble x_lastFault x_lastPlace pa_names pa_faultNumber pa_faultPlace rd_tape rd_length rd_end rd_next rd_sort rd_start rd_value rd_word to_unsurePair to_unsureYears to_triedPair to_seats to_slack to_sawInches to_quarrelChance to_people to_forkBits to_unsure to_tried to_triedFedBits tf_seatOf tf_one tf_other tf_kind tf_years tf_sawn tf_pairs tf_gone bd_unsurePair bd_unsureYears bd_triedPair bd_seats bd_slack bd_sawInches bd_quarrelChance bd_people bd_forkBits bd_unsure bd_tried bd_triedFedBits bf_seatOf bf_one bf_other bf_kind bf_years bf_sawn bf_pairs bf_gone nw_seatOf nw_one nw_other nw_kind nw_years nw_sawn nw_pairs nw_gone sc_seatOf sc_handle sc_both sc_slopOf sc_forkBits sc_canBits sc_bestBits sc_bestSlops sl_bits sl_count se_bestRow se_row se_pairAt se_hope se_hopeAt se_slopAt se_farBits se_gain se_worth se_bestWorth se_fresh ch_both ch_cost ch_bit ch_items ch_leastCost ch_leastBits cl_bits cl_count fi_sets fi_count ps_act ps_whom ps_amount ps_next ps_count i0_seatOf i0_one i0_other i0_kind i0_years i0_sawn i0_pairs i0_gone i1_seatOf i1_one i1_other i1_kind i1_years i1_sawn i1_pairs i1_gone i2_seatOf i2_one i2_other i2_kind i2_years i2_sawn i2_pairs i2_gone) H locs → W p l e (xR 2 44) s m args below meth c H locs 0 0 Q (F0 m 25 ls []) := by
        intro H locs G
        refine lv_aload_n hx hb dX2_bestQuestion_25 rfl (lv_at hl 0 rfl) ?_
        refine lv_iload_n hx hb dX2_bestQuestion_26 rfl (lv_at hl 3 rfl) ?_
        obtain ⟨x2, hc, hf⟩ := bd_go hf
        refine xI_V C G (c_Fitter_mostLeft_fi hc) mX2_mostLeft kX2_77 (wX_at58) rfl ⟨Nat.le_of_ble_eq_true rfl, Nat.le_of_ble_eq_true rfl⟩ rfl hl.1 rfl (Nat.le_of_ble_eq_true rfl) ⟨Nat.le_refl _, Nat.le_refl _⟩ dX2_bestQuestion_27 (fun hz H locs G => ?_)
        refine lv_istore (lv' := [(4, .int x2), (0, .ref (ad 58)), (1, .int l1), (2, .int l2), (3, .int l3)]) hx hb dX2_bestQuestion_30 hl (by decide) rfl (fun ls hl => ?_)
        refine lv_iload_n hx hb dX2_bestQuestion_32 rfl (lv_at hl 2 rfl) ?_
        obtain ⟨b3, hr, hf⟩ := bd_go hf
        cases b3 with
        | true =>
          have hf := it_t rfl hf
          have J : ∀ (H : Heap) (locs : List Loc), xG s E A (wX E ad x_imageCount x_lastTrouble x_lastFault x_lastPlace pa_names pa_faultNumber pa_faultPlace rd_tape rd_length rd_end rd_next rd_sort rd_start rd_value rd_word to_unsurePair to_unsureYears to_triedPair to_seats to_slack to_sawInches to_quarrelChance to_people to_forkBits to_unsure to_tried to_triedFedBits tf_seatOf tf_one tf_other tf_kind tf_years tf_sawn tf_pairs tf_gone bd_unsurePair bd_unsureYears bd_triedPair bd_seats bd_slack bd_sawInches bd_quarrelChance bd_people bd_forkBits bd_unsure bd_tried bd_triedFedBits bf_seatOf bf_one bf_other bf_kind bf_years bf_sawn bf_pairs bf_gone nw_seatOf nw_one nw_other nw_kind nw_years nw_sawn nw_pairs nw_gone sc_seatOf sc_handle sc_both sc_slopOf sc_forkBits sc_canBits sc_bestBits sc_bestSlops sl_bits sl_count se_bestRow se_row se_pairAt se_hope se_hopeAt se_slopAt se_farBits se_gain se_worth se_bestWorth se_fresh ch_both ch_cost ch_bit ch_items ch_leastCost ch_leastBits cl_bits cl_count fi_sets fi_count ps_act ps_whom ps_amount ps_next ps_count i0_seatOf i0_one i0_other i0_kind i0_years i0_sawn i0_pairs i0_gone i1_seatOf i1_one i1_other i1_kind i1_years i1_sawn i1_pairs i1_gone i2_seatOf i2_one i2_other i2_kind i2_years i2_sawn i2_pairs i2_gone) H locs → W p l e (xR 2 44) s m args below meth c H locs 0 0 Q (F0 m 42 ls []) := by
            intro H locs G
            refine lv_iload_n hx hb dX2_bestQuestion_42 rfl (lv_at hl 4 rfl) ?_
            refine lv_istore_n (lv' := [(1, .int l3), (4, .int x2), (0, .ref (ad 58)), (2, .int l2), (3, .int l3)]) hx hb dX2_bestQuestion_43 rfl hl (by decide) rfl (fun ls hl => ?_)
            refine lv_iload hx hb dX2_bestQuestion_44 (lv_at hl 1 rfl) ?_
            refine lv_istore_n (lv' := [(2, .int x2), (1, .int l3), (4, .int x2), (0, .ref (ad 58)), (3, .int l3)]) hx hb dX2_bestQuestion_46 rfl hl (by decide) rfl (fun ls hl => ?_)
            obtain ⟨x4, ex4⟩ : ∃ z : Int32, z = l3 + (1 : Int32) := ⟨_, rfl⟩
            have hf := lt_go ex4 hf
            refine lv_iinc (v := x4) (lv' := [(3, .int x4), (2, .int x2), (1, .int l3), (4, .int x2), (0, .ref (ad 58))]) hx hb dX2_bestQuestion_47 hl (k := 4) rfl (by rw [ex4]; rfl) (by decide) rfl (fun ls hl => ?_)
            refine lv_goto (tgt := 7) hx hb dX2_bestQuestion_50 (by decide) ?_
            exact ih l3 x2 x4 _ _ _ G (lv_sub hl [4, 2, 1, 0] rfl) hf
          have hf := hr
          clear hr
          refine lv_if_lt (tgt := 42) hx hb dX2_bestQuestion_33 (by decide) (fun h => ?_) (fun h => ?_)
          · have hf := it_t h hf
            exact J _ _ G
          · have hf := it_f h hf
            refine lv_iload hx hb dX2_bestQuestion_36 (lv_at hl 0 rfl) ?_
            refine lv_iload_n hx hb dX2_bestQuestion_38 rfl (lv_at hl 3 rfl) ?_
            refine lv_icmp_ge (tgt := 47) hx hb dX2_bestQuestion_39 (by decide) (fun h => ?_) (fun h => ?_)
            · have hf := it_t h hf
              exact absurd (Option.some.inj hf) (by decide)
            · have hf := it_f h hf
              exact J _ _ G
        | false =>
          have hf := it_f (by decide) hf
          have J : ∀ (H : Heap) (locs : List Loc), xG s E A (wX E ad x_imageCount x_lastTrouble x_lastFault x_lastPlace pa_names pa_faultNumber pa_faultPlace rd_tape rd_length rd_end rd_next rd_sort rd_start rd_value rd_word to_unsurePair to_unsureYears to_triedPair to_seats to_slack to_sawInches to_quarrelChance to_people to_forkBits to_unsure to_tried to_triedFedBits tf_seatOf tf_one tf_other tf_kind tf_years tf_sawn tf_pairs tf_gone bd_unsurePair bd_unsureYears bd_triedPair bd_seats bd_slack bd_sawInches bd_quarrelChance bd_people bd_forkBits bd_unsure bd_tried bd_triedFedBits bf_seatOf bf_one bf_other bf_kind bf_years bf_sawn bf_pairs bf_gone nw_seatOf nw_one nw_other nw_kind nw_years nw_sawn nw_pairs nw_gone sc_seatOf sc_handle sc_both sc_slopOf sc_forkBits sc_canBits sc_bestBits sc_bestSlops sl_bits sl_count se_bestRow se_row se_pairAt se_hope se_hopeAt se_slopAt se_farBits se_gain se_worth se_bestWorth se_fresh ch_both ch_cost ch_bit ch_items ch_leastCost ch_leastBits cl_bits cl_count fi_sets fi_count ps_act ps_whom ps_amount ps_next ps_count i0_seatOf i0_one i0_other i0_kind i0_years i0_sawn i0_pairs i0_gone i1_seatOf i1_one i1_other i1_kind i1_years i1_sawn i1_pairs i1_gone i2_seatOf i2_one i2_other i2_kind i2_years i2_sawn i2_pairs i2_gone) H locs → W p l e (xR 2 44) s m args below meth c H locs 0 0 Q (F0 m 47 ls []) := by
            intro H locs G
            obtain ⟨x5, ex5⟩ : ∃ z : Int32, z = l3 + (1 : Int32) := ⟨_, rfl⟩
            have hf := lt_go ex5 hf
            refine lv_iinc (v := x5) (lv' := [(3, .int x5), (4, .int x2), (0, .ref (ad 58)), (1, .int l1), (2, .int l2)]) hx hb dX2_bestQuestion_47 hl (k := 4) rfl (by rw [ex5]; rfl) (by decide) rfl (fun ls hl => ?_)
            refine lv_goto (tgt := 7) hx hb dX2_bestQuestion_50 (by decide) ?_
            exact ih l1 l2 x5 _ _ _ G (lv_sub hl [2, 3, 4, 0] rfl) hf
          have hf := hr
          clear hr
          refine lv_if_lt (tgt := 42) hx hb dX2_bestQuestion_33 (by decide) (fun h => ?_) (fun h => ?_)
          · have hf := it_t h hf
            exact absurd (Option.some.inj hf) (by decide)
          · have hf := it_f h hf
            refine lv_iload hx hb dX2_bestQuestion_36 (lv_at hl 0 rfl) ?_
            refine lv_iload_n hx hb dX2_bestQuestion_38 rfl (lv_at hl 3 rfl) ?_
            refine lv_icmp_ge (tgt := 47) hx hb dX2_bestQuestion_39 (by decide) (fun h => ?_) (fun h => ?_)
            · have hf := it_t h hf
              exact J _ _ G
            · have hf := it_f h hf
              exact absurd (Option.some.inj hf) (by decide)
      have hf := hr
      clear hr
      refine lv_icmp_ge (tgt := 53) hx hb dX2_bestQuestion_15 (by decide) (fun h => ?_) (fun h => ?_)
      · have hf := it_t h hf
        exact absurd (Option.some.inj hf) (by decide)
      · have hf := it_f h hf
        refine lv_aload_n hx hb dX2_bestQuestion_18 rfl (lv_at hl 0 rfl) ?_
        refine x_get C G fX2_19.g (wX_at58) rfl dX2_bestQuestion_19 ?_
        refine lv_if_le (tgt := 53) hx hb dX2_bestQuestion_22 (by decide) (fun h => ?_) (fun h => ?_)
        · have hf := it_t h hf
          exact absurd (Option.some.inj hf) (by decide)
        · have hf := it_f h hf
          exact J _ _ G
set_option maxHeartbeats 4000000 in
set_option maxRecDepth 100000 in
theorem c_Fitter_bestQuestion_fi {l : Launch} {E : xE} {ad : Nat → Nat} {x_imageCount x_lastTrouble x_lastFault x_lastPlace pa_faultNumber pa_faultPlace rd_length rd_end rd_next rd_sort rd_start rd_value to_seats to_slack to_sawInches to_quarrelChance to_people to_forkBits to_unsure to_tried to_triedFedBits tf_pairs tf_gone bd_seats bd_slack bd_sawInches bd_quarrelChance bd_people bd_forkBits bd_unsure bd_tried bd_triedFedBits bf_pairs bf_gone nw_pairs nw_gone sc_forkBits sc_canBits sc_bestBits sc_bestSlops sl_count se_bestWorth se_fresh ch_items ch_leastCost ch_leastBits cl_count fi_count ps_next ps_count i0_pairs i0_gone i1_pairs i1_gone i2_pairs i2_gone : Int32} {pa_names : Nat → Int64} {rd_tape to_unsurePair to_unsureYears to_triedPair tf_seatOf tf_one tf_other tf_kind tf_years tf_sawn bd_unsurePair bd_unsureYears bd_triedPair bf_seatOf bf_one bf_other bf_kind bf_years bf_sawn nw_seatOf nw_one nw_other nw_kind nw_years nw_sawn sc_seatOf sc_handle sc_both sc_slopOf sl_bits se_bestRow se_row se_pairAt se_hope se_hopeAt se_slopAt se_farBits se_gain se_worth ch_both ch_cost ch_bit cl_bits fi_sets ps_act ps_whom ps_amount i0_seatOf i0_one i0_other i0_kind i0_years i0_sawn i1_seatOf i1_one i1_other i1_kind i1_years i1_sawn i2_seatOf i2_one i2_other i2_kind i2_years i2_sawn : Nat → Int32} {rd_word : Int64} {R0 : Int32} (hf : f_Fitter_bestQuestion bd_unsure fi_sets fi_count = some R0) : xI l E yX2_bestQuestion cX2_bestQuestion 5 (some .int) 2 44 [.ref (ad 58)] (wX E ad x_imageCount x_lastTrouble x_lastFault x_lastPlace pa_names pa_faultNumber pa_faultPlace rd_tape rd_length rd_end rd_next rd_sort rd_start rd_value rd_word to_unsurePair to_unsureYears to_triedPair to_seats to_slack to_sawInches to_quarrelChance to_people to_forkBits to_unsure to_tried to_triedFedBits tf_seatOf tf_one tf_other tf_kind tf_years tf_sawn tf_pairs tf_gone bd_unsurePair bd_unsureYears bd_triedPair bd_seats bd_slack bd_sawInches bd_quarrelChance bd_people bd_forkBits bd_unsure bd_tried bd_triedFedBits bf_seatOf bf_one bf_other bf_kind bf_years bf_sawn bf_pairs bf_gone nw_seatOf nw_one nw_other nw_kind nw_years nw_sawn nw_pairs nw_gone sc_seatOf sc_handle sc_both sc_slopOf sc_forkBits sc_canBits sc_bestBits sc_bestSlops sl_bits sl_count se_bestRow se_row se_pairAt se_hope se_hopeAt se_slopAt se_farBits se_gain se_worth se_bestWorth se_fresh ch_both ch_cost ch_bit ch_items ch_leastCost ch_leastBits cl_bits cl_count fi_sets fi_count ps_act ps_whom ps_amount ps_next ps_count i0_seatOf i0_one i0_other i0_kind i0_years i0_sawn i0_pairs i0_gone i1_seatOf i1_one i1_other i1_kind i1_years i1_sawn i1_pairs i1_gone i2_seatOf i2_one i2_other i2_kind i2_years i2_sawn i2_pairs i2_gone) (wX E ad x_imageCount x_lastTrouble x_lastFault x_lastPlace pa_names pa_faultNumber pa_faultPlace rd_tape rd_length rd_end rd_next rd_sort rd_start rd_value rd_word to_unsurePair to_unsureYears to_triedPair to_seats to_slack to_sawInches to_quarrelChance to_people to_forkBits to_unsure to_tried to_triedFedBits tf_seatOf tf_one tf_other tf_kind tf_years tf_sawn tf_pairs tf_gone bd_unsurePair bd_unsureYears bd_triedPair bd_seats bd_slack bd_sawInches bd_quarrelChance bd_people bd_forkBits bd_unsure bd_tried bd_triedFedBits bf_seatOf bf_one bf_other bf_kind bf_years bf_sawn bf_pairs bf_gone nw_seatOf nw_one nw_other nw_kind nw_years nw_sawn nw_pairs nw_gone sc_seatOf sc_handle sc_both sc_slopOf sc_forkBits sc_canBits sc_bestBits sc_bestSlops sl_bits sl_count se_bestRow se_row se_pairAt se_hope se_hopeAt se_slopAt se_farBits se_gain se_worth se_bestWorth se_fresh ch_both ch_cost ch_bit ch_items ch_leastCost ch_leastBits cl_bits cl_count fi_sets fi_count ps_act ps_whom ps_amount ps_next ps_count i0_seatOf i0_one i0_other i0_kind i0_years i0_sawn i0_pairs i0_gone i1_seatOf i1_one i1_other i1_kind i1_years i1_sawn i1_pairs i1_gone i2_seatOf i2_one i2_other i2_kind i2_years i2_sawn i2_pairs i2_gone) R0 := by
  refine xI_of (by decide) (Nat.le_of_ble_eq_true rfl) (fun p e s m args below meth c A C ls hl G => ?_)
  have hx := C.1
  have hb := C.2.1
  have hl : lv_has ls 5 [(0, .ref (ad 58))] := hl
  unfold f_Fitter_bestQuestion at hf
  refine lv_bipush (v := -2) hx hb dX2_bestQuestion_0 (by decide) ?_
  refine lv_istore_n (lv' := [(1, .int (-2 : Int32)), (0, .ref (ad 58))]) hx hb dX2_bestQuestion_2 rfl hl (by decide) rfl (fun ls hl => ?_)
  refine lv_iconst (v := 0) hx hb dX2_bestQuestion_3 (by decide) ?_
  refine lv_istore_n (lv' := [(2, .int (0 : Int32)), (1, .int (-2 : Int32)), (0, .ref (ad 58))]) hx hb dX2_bestQuestion_4 rfl hl (by decide) rfl (fun ls hl => ?_)
  refine lv_iconst (v := 0) hx hb dX2_bestQuestion_5 (by decide) ?_
  refine lv_istore_n (lv' := [(3, .int (0 : Int32)), (2, .int (0 : Int32)), (1, .int (-2 : Int32)), (0, .ref (ad 58))]) hx hb dX2_bestQuestion_6 rfl hl (by decide) rfl (fun ls hl => ?_)
  obtain ⟨x6, hr, hf⟩ := bd_go hf
  have Jx6 : ∀ (H : Heap) (locs : List Loc) (ls : Array Slot), xG s E A (wX E ad x_imageCount x_lastTrouble x_lastFault x_lastPlace pa_names pa_faultNumber pa_faultPlace rd_tape rd_length rd_end rd_next rd_sort rd_start rd_value rd_word to_unsurePair to_unsureYears to_triedPair to_seats to_slack to_sawInches to_quarrelChance to_people to_forkBits to_unsure to_tried to_triedFedBits tf_seatOf tf_one tf_other tf_kind tf_years tf_sawn tf_pairs tf_gone bd_unsurePair bd_unsureYears bd_triedPair bd_seats bd_slack bd_sawInches bd_quarrelChance bd_people bd_forkBits bd_unsure bd_tried bd_triedFedBits bf_seatOf bf_one bf_other bf_kind bf_years bf_sawn bf_pairs bf_gone nw_seatOf nw_one nw_other nw_kind nw_years nw_sawn nw_pairs nw_gone sc_seatOf sc_handle sc_both sc_slopOf sc_forkBits sc_canBits sc_bestBits sc_bestSlops sl_bits sl_count se_bestRow se_row se_pairAt se_hope se_hopeAt se_slopAt se_farBits se_gain se_worth se_bestWorth se_fresh ch_both ch_cost ch_bit ch_items ch_leastCost ch_leastBits cl_bits cl_count fi_sets fi_count ps_act ps_whom ps_amount ps_next ps_count i0_seatOf i0_one i0_other i0_kind i0_years i0_sawn i0_pairs i0_gone i1_seatOf i1_one i1_other i1_kind i1_years i1_sawn i1_pairs i1_gone i2_seatOf i2_one i2_other i2_kind i2_years i2_sawn i2_pairs i2_gone) H locs → lv_has ls 5 [(1, .int x6)] → W p l e (xR 2 44) s m args below meth c H locs 0 0 (MQ below (xqI E A (wX E ad x_imageCount x_lastTrouble x_lastFault x_lastPlace pa_names pa_faultNumber pa_faultPlace rd_tape rd_length rd_end rd_next rd_sort rd_start rd_value rd_word to_unsurePair to_unsureYears to_triedPair to_seats to_slack to_sawInches to_quarrelChance to_people to_forkBits to_unsure to_tried to_triedFedBits tf_seatOf tf_one tf_other tf_kind tf_years tf_sawn tf_pairs tf_gone bd_unsurePair bd_unsureYears bd_triedPair bd_seats bd_slack bd_sawInches bd_quarrelChance bd_people bd_forkBits bd_unsure bd_tried bd_triedFedBits bf_seatOf bf_one bf_other bf_kind bf_years bf_sawn bf_pairs bf_gone nw_seatOf nw_one nw_other nw_kind nw_years nw_sawn nw_pairs nw_gone sc_seatOf sc_handle sc_both sc_slopOf sc_forkBits sc_canBits sc_bestBits sc_bestSlops sl_bits sl_count se_bestRow se_row se_pairAt se_hope se_hopeAt se_slopAt se_farBits se_gain se_worth se_bestWorth se_fresh ch_both ch_cost ch_bit ch_items ch_leastCost ch_leastBits cl_bits cl_count fi_sets fi_count ps_act ps_whom ps_amount ps_next ps_count i0_seatOf i0_one i0_other i0_kind i0_years i0_sawn i0_pairs i0_gone i1_seatOf i1_one i1_other i1_kind i1_years i1_sawn i1_pairs i1_gone i2_seatOf i2_one i2_other i2_kind i2_years i2_sawn i2_pairs i2_gone) (some .int) R0) args s 0 0 A) (F0 m 53 ls []) := by
    intro H locs ls G hl
    refine lv_iload_n hx hb dX2_bestQuestion_53 rfl (lv_at hl 0 rfl) ?_
    obtain rfl := Option.some.inj hf
    exact xI_ret C G rfl dX2_bestQuestion_54
  exact w_Fitter_bestQuestion_fi_L7 C Jx6 fu _ _ _ _ _ _ G (lv_sub hl [3, 2, 1, 0] rfl) hr
