set_option maxHeartbeats 4000000 in
set_option maxRecDepth 100000 in
theorem c_X_ask_x {l : Launch} {E : xE} {ad : Nat → Nat} {x_imageCount x_lastTrouble x_lastFault x_lastPlace pa_faultNumber pa_faultPlace rd_length rd_end rd_next rd_sort rd_start rd_value to_seats to_slack to_sawInches to_quarrelChance to_people to_forkBits to_unsure to_tried to_triedFedBits tf_pairs tf_gone bd_seats bd_slack bd_sawInches bd_quarrelChance bd_people bd_forkBits bd_unsure bd_tried bd_triedFedBits bf_pairs bf_gone nw_pairs nw_gone sc_forkBits sc_canBits sc_bestBits sc_bestSlops sl_count se_bestWorth se_fresh ch_items ch_leastCost ch_leastBits cl_count fi_count ps_next ps_count i0_pairs i0_gone i1_pairs i1_gone i2_pairs i2_gone : Int32} {pa_names : Nat → Int64} {rd_tape to_unsurePair to_unsureYears to_triedPair tf_seatOf tf_one tf_other tf_kind tf_years tf_sawn bd_unsurePair bd_unsureYears bd_triedPair bf_seatOf bf_one bf_other bf_kind bf_years bf_sawn nw_seatOf nw_one nw_other nw_kind nw_years nw_sawn sc_seatOf sc_handle sc_both sc_slopOf sl_bits se_bestRow se_row se_pairAt se_hope se_hopeAt se_slopAt se_farBits se_gain se_worth ch_both ch_cost ch_bit cl_bits fi_sets ps_act ps_whom ps_amount i0_seatOf i0_one i0_other i0_kind i0_years i0_sawn i1_seatOf i1_one i1_other i1_kind i1_years i1_sawn i2_seatOf i2_one i2_other i2_kind i2_years i2_sawn : Nat → Int32} {rd_word : Int64} {R0 : Int32 × Int32 × (Nat → Int32) × Int32} (hf : f_X_ask bd_unsurePair bd_unsureYears bd_triedPair bd_slack bd_people bd_unsure bd_tried bd_triedFedBits bf_seatOf bf_one bf_other bf_kind bf_years bf_sawn fi_sets fi_count = some R0) : xI l E yX10_ask cX10_ask 1 (some .int) 6 133 [.ref (ad 0)] (wX E ad x_imageCount x_lastTrouble x_lastFault x_lastPlace pa_names pa_faultNumber pa_faultPlace rd_tape rd_length rd_end rd_next rd_sort rd_start rd_value rd_word to_unsurePair to_unsureYears to_triedPair to_seats to_slack to_sawInches to_quarrelChance to_people to_forkBits to_unsure to_tried to_triedFedBits tf_seatOf tf_one tf_other tf_kind tf_years tf_sawn tf_pairs tf_gone bd_unsurePair bd_unsureYears bd_triedPair bd_seats bd_slack bd_sawInches bd_quarrelChance bd_people bd_forkBits bd_unsure bd_tried bd_triedFedBits bf_seatOf bf_one bf_other bf_kind bf_years bf_sawn bf_pairs bf_gone nw_seatOf nw_one nw_other nw_kind nw_years nw_sawn nw_pairs nw_gone sc_seatOf sc_handle sc_both sc_slopOf sc_forkBits sc_canBits sc_bestBits sc_bestSlops sl_bits sl_count se_bestRow se_row se_pairAt se_hope se_hopeAt se_slopAt se_farBits se_gain se_worth se_bestWorth se_fresh ch_both ch_cost ch_bit ch_items ch_leastCost ch_leastBits cl_bits cl_count fi_sets fi_count ps_act ps_whom ps_amount ps_next ps_count i0_seatOf i0_one i0_other i0_kind i0_years i0_sawn i0_pairs i0_gone i1_seatOf i1_one i1_other i1_kind i1_years i1_sawn i1_pairs i1_gone i2_seatOf i2_one i2_other i2_kind i2_years i2_sawn i2_pairs i2_gone) (wX E ad x_imageCount R0.2.1 x_lastFault x_lastPlace pa_names pa_faultNumber pa_faultPlace rd_tape rd_length rd_end rd_next rd_sort rd_start rd_value rd_word to_unsurePair to_unsureYears to_triedPair to_seats to_slack to_sawInches to_quarrelChance to_people to_forkBits to_unsure to_tried to_triedFedBits tf_seatOf tf_one tf_other tf_kind tf_years tf_sawn tf_pairs tf_gone bd_unsurePair bd_unsureYears bd_triedPair bd_seats bd_slack bd_sawInches bd_quarrelChance bd_people bd_forkBits bd_unsure bd_tried bd_triedFedBits bf_seatOf bf_one bf_other bf_kind bf_years bf_sawn bf_pairs bf_gone nw_seatOf nw_one nw_other nw_kind nw_years nw_sawn nw_pairs nw_gone sc_seatOf sc_handle sc_both sc_slopOf sc_forkBits sc_canBits sc_bestBits sc_bestSlops sl_bits sl_count se_bestRow se_row se_pairAt se_hope se_hopeAt se_slopAt se_farBits se_gain se_worth se_bestWorth se_fresh ch_both ch_cost ch_bit ch_items ch_leastCost ch_leastBits cl_bits cl_count R0.2.2.1 R0.2.2.2 ps_act ps_whom ps_amount ps_next ps_count i0_seatOf i0_one i0_other i0_kind i0_years i0_sawn i0_pairs i0_gone i1_seatOf i1_one i1_other i1_kind i1_years i1_sawn i1_pairs i1_gone i2_seatOf i2_one i2_other i2_kind i2_years i2_sawn i2_pairs i2_gone) R0.1 := by
  refine xI_of (by decide) (Nat.le_of_ble_eq_true rfl) (fun p e s m args below meth c A C ls hl G => ?_)
  have hx := C.1
  have hb := C.2.1
  have hl : lv_has ls 1 [(0, .ref (ad 0))] := hl
  unfold f_X_ask at hf
  refine lv_aload_n hx hb dX10_ask_0 rfl (lv_at hl 0 rfl) ?_
  obtain ⟨x1, hc, hf⟩ := bd_go hf
  refine xI_V C G (c_X_noTable_x hc) mX10_noTable kX10_187 (wX_at0) rfl ⟨Nat.le_of_ble_eq_true rfl, Nat.le_of_ble_eq_true rfl⟩ rfl hl.1 rfl (Nat.le_of_ble_eq_true rfl) ⟨Nat.le_refl _, Nat.le_refl _⟩ dX10_ask_1 (fun hz1 H locs G => ?_)
  refine lv_if_eq (tgt := 9) hx hb dX10_ask_4 (by decide) (fun h => ?_) (fun h => ?_)
  · have hf := it_t h hf
    refine lv_aload_n hx hb dX10_ask_9 rfl (lv_at hl 0 rfl) ?_
    refine x_get C G fX10_58 (wX_at0) rfl dX10_ask_10 ?_
    obtain ⟨x2, hc, hf⟩ := bd_go hf
    refine xV_V C G (c_Fitter_collect_fi hc) mX2_collect kX10_288 (wX_at58) rfl ⟨Nat.le_of_ble_eq_true rfl, Nat.le_of_ble_eq_true rfl⟩ rfl hl.1 rfl (Nat.le_of_ble_eq_true rfl) ⟨Nat.le_refl _, Nat.le_refl _⟩ dX10_ask_13 (fun H locs G => ?_)
    refine lv_aload_n hx hb dX10_ask_16 rfl (lv_at hl 0 rfl) ?_
    refine x_get C G fX10_58 (wX_at0) rfl dX10_ask_17 ?_
    obtain ⟨x3, hc, hf⟩ := bd_go hf
    refine xI_V C G (c_Fitter_bestQuestion_fi hc) mX2_bestQuestion kX10_298 (wX_at58) rfl ⟨Nat.le_of_ble_eq_true rfl, Nat.le_of_ble_eq_true rfl⟩ rfl hl.1 rfl (Nat.le_of_ble_eq_true rfl) ⟨Nat.le_refl _, Nat.le_refl _⟩ dX10_ask_20 (fun hz H locs G => ?_)
    obtain rfl := Option.some.inj hf
    exact xI_ret C G rfl dX10_ask_23
  · have hf := it_f h hf
    refine lv_iconst (v := -1) hx hb dX10_ask_7 (by decide) ?_
    obtain rfl := Option.some.inj hf
    exact xI_ret C G rfl dX10_ask_8
set_option maxHeartbeats 4000000 in
set_option maxRecDepth 100000 in
theorem c_X_askLeaves_x {l : Launch} {E : xE} {ad : Nat → Nat} {x_imageCount x_lastTrouble x_lastFault x_lastPlace pa_faultNumber pa_faultPlace rd_length rd_end rd_next rd_sort rd_start rd_value to_seats to_slack to_sawInches to_quarrelChance to_people to_forkBits to_unsure to_tried to_triedFedBits tf_pairs tf_gone bd_seats bd_slack bd_sawInches bd_quarrelChance bd_people bd_forkBits bd_unsure bd_tried bd_triedFedBits bf_pairs bf_gone nw_pairs nw_gone sc_forkBits sc_canBits sc_bestBits sc_bestSlops sl_count se_bestWorth se_fresh ch_items ch_leastCost ch_leastBits cl_count fi_count ps_next ps_count i0_pairs i0_gone i1_pairs i1_gone i2_pairs i2_gone : Int32} {pa_names : Nat → Int64} {rd_tape to_unsurePair to_unsureYears to_triedPair tf_seatOf tf_one tf_other tf_kind tf_years tf_sawn bd_unsurePair bd_unsureYears bd_triedPair bf_seatOf bf_one bf_other bf_kind bf_years bf_sawn nw_seatOf nw_one nw_other nw_kind nw_years nw_sawn sc_seatOf sc_handle sc_both sc_slopOf sl_bits se_bestRow se_row se_pairAt se_hope se_hopeAt se_slopAt se_farBits se_gain se_worth ch_both ch_cost ch_bit cl_bits fi_sets ps_act ps_whom ps_amount i0_seatOf i0_one i0_other i0_kind i0_years i0_sawn i1_seatOf i1_one i1_other i1_kind i1_years i1_sawn i2_seatOf i2_one i2_other i2_kind i2_years i2_sawn : Nat → Int32} {rd_word : Int64} {R0 : Int32 × Int32 × (Nat → Int32) × Int32} (hf : f_X_askLeaves bd_unsurePair bd_unsureYears bd_triedPair bd_slack bd_people bd_unsure bd_tried bd_triedFedBits bf_seatOf bf_one bf_other bf_kind bf_years bf_sawn fi_sets fi_count = some R0) : xI l E yX10_askLeaves cX10_askLeaves 2 (some .int) 6 133 [.ref (ad 0)] (wX E ad x_imageCount x_lastTrouble x_lastFault x_lastPlace pa_names pa_faultNumber pa_faultPlace rd_tape rd_length rd_end rd_next rd_sort rd_start rd_value rd_word to_unsurePair to_unsureYears to_triedPair to_seats to_slack to_sawInches to_quarrelChance to_people to_forkBits to_unsure to_tried to_triedFedBits tf_seatOf tf_one tf_other tf_kind tf_years tf_sawn tf_pairs tf_gone bd_unsurePair bd_unsureYears bd_triedPair bd_seats bd_slack bd_sawInches bd_quarrelChance bd_people bd_forkBits bd_unsure bd_tried bd_triedFedBits bf_seatOf bf_one bf_other bf_kind bf_years bf_sawn bf_pairs bf_gone nw_seatOf nw_one nw_other nw_kind nw_years nw_sawn nw_pairs nw_gone sc_seatOf sc_handle sc_both sc_slopOf sc_forkBits sc_canBits sc_bestBits sc_bestSlops sl_bits sl_count se_bestRow se_row se_pairAt se_hope se_hopeAt se_slopAt se_farBits se_gain se_worth se_bestWorth se_fresh ch_both ch_cost ch_bit ch_items ch_leastCost ch_leastBits cl_bits cl_count fi_sets fi_count ps_act ps_whom ps_amount ps_next ps_count i0_seatOf i0_one i0_other i0_kind i0_years i0_sawn i0_pairs i0_gone i1_seatOf i1_one i1_other i1_kind i1_years i1_sawn i1_pairs i1_gone i2_seatOf i2_one i2_other i2_kind i2_years i2_sawn i2_pairs i2_gone) (wX E ad x_imageCount R0.2.1 x_lastFault x_lastPlace pa_names pa_faultNumber pa_faultPlace rd_tape rd_length rd_end rd_next rd_sort rd_start rd_value rd_word to_unsurePair to_unsureYears to_triedPair to_seats to_slack to_sawInches to_quarrelChance to_people to_forkBits to_unsure to_tried to_triedFedBits tf_seatOf tf_one tf_other tf_kind tf_years tf_sawn tf_pairs tf_gone bd_unsurePair bd_unsureYears bd_triedPair bd_seats bd_slack bd_sawInches bd_quarrelChance bd_people bd_forkBits bd_unsure bd_tried bd_triedFedBits bf_seatOf bf_one bf_other bf_kind bf_years bf_sawn bf_pairs bf_gone nw_seatOf nw_one nw_other nw_kind nw_years nw_sawn nw_pairs nw_gone sc_seatOf sc_handle sc_both sc_slopOf sc_forkBits sc_canBits sc_bestBits sc_bestSlops sl_bits sl_count se_bestRow se_row se_pairAt se_hope se_hopeAt se_slopAt se_farBits se_gain se_worth se_bestWorth se_fresh ch_both ch_cost ch_bit ch_items ch_leastCost ch_leastBits cl_bits cl_count R0.2.2.1 R0.2.2.2 ps_act ps_whom ps_amount ps_next ps_count i0_seatOf i0_one i0_other i0_kind i0_years i0_sawn i0_pairs i0_gone i1_seatOf i1_one i1_other i1_kind i1_years i1_sawn i1_pairs i1_gone i2_seatOf i2_one i2_other i2_kind i2_years i2_sawn i2_pairs i2_gone) R0.1 := by
  refine xI_of (by decide) (Nat.le_of_ble_eq_true rfl) (fun p e s m args below meth c A C ls hl G => ?_)
  have hx := C.1
  have hb := C.2.1
  have hl : lv_has ls 2 [(0, .ref (ad 0))] := hl
  unfold f_X_askLeaves at hf
  refine lv_aload_n hx hb dX10_askLeaves_0 rfl (lv_at hl 0 rfl) ?_
  obtain ⟨x1, hc, hf⟩ := bd_go hf
  refine xI_V C G (c_X_noTable_x hc) mX10_noTable kX10_187 (wX_at0) rfl ⟨Nat.le_of_ble_eq_true rfl, Nat.le_of_ble_eq_true rfl⟩ rfl hl.1 rfl (Nat.le_of_ble_eq_true rfl) ⟨Nat.le_refl _, Nat.le_refl _⟩ dX10_askLeaves_1 (fun hz1 H locs G => ?_)
  refine lv_if_eq (tgt := 9) hx hb dX10_askLeaves_4 (by decide) (fun h => ?_) (fun h => ?_)
  · have hf := it_t h hf
    refine lv_aload_n hx hb dX10_askLeaves_9 rfl (lv_at hl 0 rfl) ?_
    refine x_get C G fX10_58 (wX_at0) rfl dX10_askLeaves_10 ?_
    obtain ⟨x2, hc, hf⟩ := bd_go hf
    refine xV_V C G (c_Fitter_collect_fi hc) mX2_collect kX10_288 (wX_at58) rfl ⟨Nat.le_of_ble_eq_true rfl, Nat.le_of_ble_eq_true rfl⟩ rfl hl.1 rfl (Nat.le_of_ble_eq_true rfl) ⟨Nat.le_refl _, Nat.le_refl _⟩ dX10_askLeaves_13 (fun H locs G => ?_)
    refine lv_aload_n hx hb dX10_askLeaves_16 rfl (lv_at hl 0 rfl) ?_
    refine x_get C G fX10_58 (wX_at0) rfl dX10_askLeaves_17 ?_
    obtain ⟨x3, hc, hf⟩ := bd_go hf
    refine xI_V C G (c_Fitter_bestQuestion_fi hc) mX2_bestQuestion kX10_298 (wX_at58) rfl ⟨Nat.le_of_ble_eq_true rfl, Nat.le_of_ble_eq_true rfl⟩ rfl hl.1 rfl (Nat.le_of_ble_eq_true rfl) ⟨Nat.le_refl _, Nat.le_refl _⟩ dX10_askLeaves_20 (fun hz H locs G => ?_)
    refine lv_istore_n (lv' := [(1, .int x3), (0, .ref (ad 0))]) hx hb dX10_askLeaves_23 rfl hl (by decide) rfl (fun ls hl => ?_)
    refine lv_iload_n hx hb dX10_askLeaves_24 rfl (lv_at hl 0 rfl) ?_
    refine lv_if_ge (tgt := 33) hx hb dX10_askLeaves_25 (by decide) (fun h => ?_) (fun h => ?_)
    · have hf := it_t h hf
      refine lv_aload_n hx hb dX10_askLeaves_33 rfl (lv_at hl 1 rfl) ?_
      refine x_get C G fX10_58 (wX_at0) rfl dX10_askLeaves_34 ?_
      refine lv_iload_n hx hb dX10_askLeaves_37 rfl (lv_at hl 0 rfl) ?_
      obtain ⟨x4, hc, hf⟩ := bd_go hf
      refine xI_V C G (c_Fitter_mostLeft_fi hc) mX2_mostLeft kX10_301 (wX_at58) rfl ⟨Nat.le_of_ble_eq_true rfl, Nat.le_of_ble_eq_true rfl⟩ rfl hl.1 rfl (Nat.le_of_ble_eq_true rfl) ⟨Nat.le_refl _, Nat.le_refl _⟩ dX10_askLeaves_38 (fun hz H locs G => ?_)
      obtain rfl := Option.some.inj hf
      exact xI_ret C G rfl dX10_askLeaves_41
    · have hf := it_f h hf
      refine lv_bipush (v := -2) hx hb dX10_askLeaves_28 (by decide) ?_
      refine lv_goto (tgt := 41) hx hb dX10_askLeaves_30 (by decide) ?_
      obtain rfl := Option.some.inj hf
      exact xI_ret C G rfl dX10_askLeaves_41
  · have hf := it_f h hf
    refine lv_iconst (v := -1) hx hb dX10_askLeaves_7 (by decide) ?_
    obtain rfl := Option.some.inj hf
    exact xI_ret C G rfl dX10_askLeaves_8
set_option maxHeartbeats 4000000 in
set_option maxRecDepth 100000 in
theorem w_X_judge_x_L11 {p : Program} {l : Launch} {e : Env} {s : State} {m : MethodId} {args : Array Value} {below : List Frame} {meth : Method} {c : Code} {A : Nat → Prop} {E : xE} {ad : Nat → Nat} {x_imageCount x_lastTrouble x_lastFault x_lastPlace pa_faultNumber pa_faultPlace rd_length rd_end rd_next rd_sort rd_start rd_value to_seats to_slack to_sawInches to_quarrelChance to_people to_forkBits to_unsure to_tried to_triedFedBits tf_pairs tf_gone bd_seats bd_slack bd_sawInches bd_quarrelChance bd_people bd_forkBits bd_unsure bd_tried bd_triedFedBits bf_pairs bf_gone nw_pairs nw_gone sc_forkBits sc_canBits sc_bestBits sc_bestSlops sl_count se_bestWorth se_fresh ch_items ch_leastCost ch_leastBits cl_count fi_count ps_next ps_count i0_pairs i0_gone i1_pairs i1_gone i2_pairs i2_gone : Int32} {pa_names : Nat → Int64} {rd_tape to_unsurePair to_unsureYears to_triedPair tf_seatOf tf_one tf_other tf_kind tf_years tf_sawn bd_unsurePair bd_unsureYears bd_triedPair bf_seatOf bf_one bf_other bf_kind bf_years bf_sawn nw_seatOf nw_one nw_other nw_kind nw_years nw_sawn sc_seatOf sc_handle sc_both sc_slopOf sl_bits se_bestRow se_row se_pairAt se_hope se_hopeAt se_slopAt se_farBits se_gain se_worth ch_both ch_cost ch_bit cl_bits fi_sets ps_act ps_whom ps_amount i0_seatOf i0_one i0_other i0_kind i0_years i0_sawn i1_seatOf i1_one i1_other i1_kind i1_years i1_sawn i2_seatOf i2_one i2_other i2_kind i2_years i2_sawn : Nat → Int32} {rd_word : Int64} {o : (Int32 × Int32) ⊕ (Unit)} {R0 : Int32 × Int32} (C : xC p s m args meth c cX10_judge 2 RX10 E A (some .int)) (Jr : ∀ r, o = .inl r → r = R0) (J : ∀ t, o = .inr t → ∀ (H : Heap) (locs : List Loc) (ls : Array Slot), xG s E A (wX E ad x_imageCount x_lastTrouble x_lastFault x_lastPlace pa_names pa_faultNumber pa_faultPlace rd_tape rd_length rd_end rd_next rd_sort rd_start rd_value rd_word to_unsurePair to_unsureYears to_triedPair to_seats to_slack to_sawInches to_quarrelChance to_people to_forkBits to_unsure to_tried to_triedFedBits tf_seatOf tf_one tf_other tf_kind tf_years tf_sawn tf_pairs tf_gone bd_unsurePair bd_unsureYears bd_triedPair bd_seats bd_slack bd_sawInches bd_quarrelChance bd_people bd_forkBits bd_unsure bd_tried bd_triedFedBits bf_seatOf bf_one bf_other bf_kind bf_years bf_sawn bf_pairs bf_gone nw_seatOf nw_one nw_other nw_kind nw_years nw_sawn nw_pairs nw_gone sc_seatOf sc_handle sc_both sc_slopOf sc_forkBits sc_canBits sc_bestBits sc_bestSlops sl_bits sl_count se_bestRow se_row se_pairAt se_hope se_hopeAt se_slopAt se_farBits se_gain se_worth se_bestWorth se_fresh ch_both ch_cost ch_bit ch_items ch_leastCost ch_leastBits cl_bits cl_count fi_sets fi_count ps_act ps_whom ps_amount ps_next ps_count i0_seatOf i0_one i0_other i0_kind i0_years i0_sawn i0_pairs i0_gone i1_seatOf i1_one i1_other i1_kind i1_years i1_sawn i1_pairs i1_gone i2_seatOf i2_one i2_other i2_kind i2_years i2_sawn i2_pairs i2_gone) H locs → lv_has ls 2 [] → W p l e (xR 4 90) s m args below meth c H locs 0 0 (MQ below (xqI E A (wX E ad x_imageCount R0.2 x_lastFault x_lastPlace pa_names pa_faultNumber pa_faultPlace rd_tape rd_length rd_end rd_next rd_sort rd_start rd_value rd_word to_unsurePair to_unsureYears to_triedPair to_seats to_slack to_sawInches to_quarrelChance to_people to_forkBits to_unsure to_tried to_triedFedBits tf_seatOf tf_one tf_other tf_kind tf_years tf_sawn tf_pairs tf_gone bd_unsurePair bd_unsureYears bd_triedPair bd_seats bd_slack bd_sawInches bd_quarrelChance bd_people bd_forkBits bd_unsure bd_tried bd_triedFedBits bf_seatOf bf_one bf_other bf_kind bf_years bf_sawn bf_pairs bf_gone nw_seatOf nw_one nw_other nw_kind nw_years nw_sawn nw_pairs nw_gone sc_seatOf sc_handle sc_both sc_slopOf sc_forkBits sc_canBits sc_bestBits sc_bestSlops sl_bits sl_count se_bestRow se_row se_pairAt se_hope se_hopeAt se_slopAt se_farBits se_gain se_worth se_bestWorth se_fresh ch_both ch_cost ch_bit ch_items ch_leastCost ch_leastBits cl_bits cl_count fi_sets fi_count ps_act ps_whom ps_amount ps_next ps_count i0_seatOf i0_one i0_other i0_kind i0_years i0_sawn i0_pairs i0_gone i1_seatOf i1_one i1_other i1_kind i1_years i1_sawn i1_pairs i1_gone i2_seatOf i2_one i2_other i2_kind i2_years i2_sawn i2_pairs i2_gone) (some .int) R0.1) args s 0 0 A) (F0 m 42 ls [])) :
    ∀ (n : Nat) (l1 : Int32) (H : Heap) (locs : List Loc) (ls : Array Slot), xG s E A (wX E ad x_imageCount x_lastTrouble x_lastFault x_lastPlace pa_names pa_faultNumber pa_faultPlace rd_tape rd_length rd_end rd_next rd_sort rd_start rd_value rd_word to_unsurePair to_unsureYears to_triedPair to_seats to_slack to_sawInches to_quarrelChance to_people to_forkBits to_unsure to_tried to_triedFedBits tf_seatOf tf_one tf_other tf_kind tf_years tf_sawn tf_pairs tf_gone bd_unsurePair bd_unsureYears bd_triedPair bd_seats bd_slack bd_sawInches bd_quarrelChance bd_people bd_forkBits bd_unsure bd_tried bd_triedFedBits bf_seatOf bf_one bf_other bf_kind bf_years bf_sawn bf_pairs bf_gone nw_seatOf nw_one nw_other nw_kind nw_years nw_sawn nw_pairs nw_gone sc_seatOf sc_handle sc_both sc_slopOf sc_forkBits sc_canBits sc_bestBits sc_bestSlops sl_bits sl_count se_bestRow se_row se_pairAt se_hope se_hopeAt se_slopAt se_farBits se_gain se_worth se_bestWorth se_fresh ch_both ch_cost ch_bit ch_items ch_leastCost ch_leastBits cl_bits cl_count fi_sets fi_count ps_act ps_whom ps_amount ps_next ps_count i0_seatOf i0_one i0_other i0_kind i0_years i0_sawn i0_pairs i0_gone i1_seatOf i1_one i1_other i1_kind i1_years i1_sawn i1_pairs i1_gone i2_seatOf i2_one i2_other i2_kind i2_years i2_sawn i2_pairs i2_gone) H locs → lv_has ls 2 [(0, .ref (ad 0)), (1, .int l1)] → f_X_judge_L11 x_lastTrouble bd_unsurePair bd_unsureYears bd_triedPair bd_slack bd_unsure bd_tried bd_triedFedBits bf_seatOf bf_one bf_other bf_kind bf_years bf_sawn n l1 = some o → W p l e (xR 4 90) s m args below meth c H locs 0 0 (MQ below (xqI E A (wX E ad x_imageCount R0.2 x_lastFault x_lastPlace pa_names pa_faultNumber pa_faultPlace rd_tape rd_length rd_end rd_next rd_sort rd_start rd_value rd_word to_unsurePair to_unsureYears to_triedPair to_seats to_slack to_sawInches to_quarrelChance to_people to_forkBits to_unsure to_tried to_triedFedBits tf_seatOf tf_one tf_other tf_kind tf_years tf_sawn tf_pairs tf_gone bd_unsurePair bd_unsureYears bd_triedPair bd_seats bd_slack bd_sawInches bd_quarrelChance bd_people bd_forkBits bd_unsure bd_tried bd_triedFedBits bf_seatOf bf_one bf_other bf_kind bf_years bf_sawn bf_pairs bf_gone nw_seatOf nw_one nw_other nw_kind nw_years nw_sawn nw_pairs nw_gone sc_seatOf sc_handle sc_both sc_slopOf sc_forkBits sc_canBits sc_bestBits sc_bestSlops sl_bits sl_count se_bestRow se_row se_pairAt se_hope se_hopeAt se_slopAt se_farBits se_gain se_worth se_bestWorth se_fresh ch_both ch_cost ch_bit ch_items ch_leastCost ch_leastBits cl_bits cl_count fi_sets fi_count ps_act ps_whom ps_amount ps_next ps_count i0_seatOf i0_one i0_other i0_kind i0_years i0_sawn i0_pairs i0_gone i1_seatOf i1_one i1_other i1_kind i1_years i1_sawn i1_pairs i1_gone i2_seatOf i2_one i2_other i2_kind i2_years i2_sawn i2_pairs i2_gone) (some .int) R0.1) args s 0 0 A) (F0 m 11 ls []) := by
  have hx := C.1
  have hb := C.2.1
  intro n
  induction n with
  | zero =>
    intro l1 H locs ls G hl hf
    exact nomatch (show (none : Option ((Int32 × Int32) ⊕ (Unit))) = some o from hf)
  | succ n ih =>
    intro l1 H locs ls G hl hf
    rw [f_X_judge_L11] at hf
    refine lv_iload_n hx hb dX10_judge_11 rfl (lv_at hl 1 rfl) ?_
    refine lv_aload_n hx hb dX10_judge_12 rfl (lv_at hl 0 rfl) ?_
    refine x_get C G fX10_22 (wX_at0) rfl dX10_judge_13 ?_
    refine x_get C G fX10_304.g (wX_at17) rfl dX10_judge_16 ?_
    refine lv_icmp_ge (tgt := 42) hx hb dX10_judge_19 (by decide) (fun h => ?_) (fun h => ?_)
    · have hf := it_t h hf
      exact J _ (Option.some.inj hf).symm _ _ _ G (lv_sub hl [] rfl)
    · have hf := it_f h hf
      refine lv_aload_n hx hb dX10_judge_22 rfl (lv_at hl 0 rfl) ?_
      refine x_get C G fX10_58 (wX_at0) rfl dX10_judge_23 ?_
      refine lv_iload_n hx hb dX10_judge_26 rfl (lv_at hl 1 rfl) ?_
      refine lv_iconst (v := 0) hx hb dX10_judge_27 (by decide) ?_
      obtain ⟨x2, hc, hf⟩ := bd_go hf
      refine xI_V C G (c_Fitter_isSo_fi hc) mX2_isSo kX10_307 (wX_at58) rfl ⟨Nat.le_of_ble_eq_true rfl, Nat.le_of_ble_eq_true rfl⟩ rfl hl.1 rfl (Nat.le_of_ble_eq_true rfl) ⟨Nat.le_refl _, Nat.le_refl _⟩ dX10_judge_28 (fun hz2 H locs G => ?_)
      refine lv_if_ne (tgt := 36) hx hb dX10_judge_31 (by decide) (fun h => ?_) (fun h => ?_)
      · have hf := it_f h hf
        obtain ⟨x3, ex3⟩ : ∃ z : Int32, z = l1 + (1 : Int32) := ⟨_, rfl⟩
        have hf := lt_go ex3 hf
        refine lv_iinc (v := x3) (lv' := [(1, .int x3), (0, .ref (ad 0))]) hx hb dX10_judge_36 hl (k := 1) rfl (by rw [ex3]; rfl) (by decide) rfl (fun ls hl => ?_)
        refine lv_goto (tgt := 11) hx hb dX10_judge_39 (by decide) ?_
        exact ih x3 _ _ _ G (lv_sub hl [1, 0] rfl) hf
      · have hf := it_t h hf
        refine lv_iload_n hx hb dX10_judge_34 rfl (lv_at hl 1 rfl) ?_
        obtain rfl := Jr _ (Option.some.inj hf).symm
        exact xI_ret C G rfl dX10_judge_35
set_option maxHeartbeats 4000000 in
set_option maxRecDepth 100000 in
theorem c_X_judge_x {l : Launch} {E : xE} {ad : Nat → Nat} {x_imageCount x_lastTrouble x_lastFault x_lastPlace pa_faultNumber pa_faultPlace rd_length rd_end rd_next rd_sort rd_start rd_value to_seats to_slack to_sawInches to_quarrelChance to_people to_forkBits to_unsure to_tried to_triedFedBits tf_pairs tf_gone bd_seats bd_slack bd_sawInches bd_quarrelChance bd_people bd_forkBits bd_unsure bd_tried bd_triedFedBits bf_pairs bf_gone nw_pairs nw_gone sc_forkBits sc_canBits sc_bestBits sc_bestSlops sl_count se_bestWorth se_fresh ch_items ch_leastCost ch_leastBits cl_count fi_count ps_next ps_count i0_pairs i0_gone i1_pairs i1_gone i2_pairs i2_gone : Int32} {pa_names : Nat → Int64} {rd_tape to_unsurePair to_unsureYears to_triedPair tf_seatOf tf_one tf_other tf_kind tf_years tf_sawn bd_unsurePair bd_unsureYears bd_triedPair bf_seatOf bf_one bf_other bf_kind bf_years bf_sawn nw_seatOf nw_one nw_other nw_kind nw_years nw_sawn sc_seatOf sc_handle sc_both sc_slopOf sl_bits se_bestRow se_row se_pairAt se_hope se_hopeAt se_slopAt se_farBits se_gain se_worth ch_both ch_cost ch_bit cl_bits fi_sets ps_act ps_whom ps_amount i0_seatOf i0_one i0_other i0_kind i0_years i0_sawn i1_seatOf i1_one i1_other i1_kind i1_years i1_sawn i2_seatOf i2_one i2_other i2_kind i2_years i2_sawn : Nat → Int32} {rd_word : Int64} {R0 : Int32 × Int32} (hf : f_X_judge bd_unsurePair bd_unsureYears bd_triedPair bd_slack bd_people bd_unsure bd_tried bd_triedFedBits bf_seatOf bf_one bf_other bf_kind bf_years bf_sawn = some R0) : xI l E yX10_judge cX10_judge 2 (some .int) 4 90 [.ref (ad 0)] (wX E ad x_imageCount x_lastTrouble x_lastFault x_lastPlace pa_names pa_faultNumber pa_faultPlace rd_tape rd_length rd_end rd_next rd_sort rd_start rd_value rd_word to_unsurePair to_unsureYears to_triedPair to_seats to_slack to_sawInches to_quarrelChance to_people to_forkBits to_unsure to_tried to_triedFedBits tf_seatOf tf_one tf_other tf_kind tf_years tf_sawn tf_pairs tf_gone bd_unsurePair bd_unsureYears bd_triedPair bd_seats bd_slack bd_sawInches bd_quarrelChance bd_people bd_forkBits bd_unsure bd_tried bd_triedFedBits bf_seatOf bf_one bf_other bf_kind bf_years bf_sawn bf_pairs bf_gone nw_seatOf nw_one nw_other nw_kind nw_years nw_sawn nw_pairs nw_gone sc_seatOf sc_handle sc_both sc_slopOf sc_forkBits sc_canBits sc_bestBits sc_bestSlops sl_bits sl_count se_bestRow se_row se_pairAt se_hope se_hopeAt se_slopAt se_farBits se_gain se_worth se_bestWorth se_fresh ch_both ch_cost ch_bit ch_items ch_leastCost ch_leastBits cl_bits cl_count fi_sets fi_count ps_act ps_whom ps_amount ps_next ps_count i0_seatOf i0_one i0_other i0_kind i0_years i0_sawn i0_pairs i0_gone i1_seatOf i1_one i1_other i1_kind i1_years i1_sawn i1_pairs i1_gone i2_seatOf i2_one i2_other i2_kind i2_years i2_sawn i2_pairs i2_gone) (wX E ad x_imageCount R0.2 x_lastFault x_lastPlace pa_names pa_faultNumber pa_faultPlace rd_tape rd_length rd_end rd_next rd_sort rd_start rd_value rd_word to_unsurePair to_unsureYears to_triedPair to_seats to_slack to_sawInches to_quarrelChance to_people to_forkBits to_unsure to_tried to_triedFedBits tf_seatOf tf_one tf_other tf_kind tf_years tf_sawn tf_pairs tf_gone bd_unsurePair bd_unsureYears bd_triedPair bd_seats bd_slack bd_sawInches bd_quarrelChance bd_people bd_forkBits bd_unsure bd_tried bd_triedFedBits bf_seatOf bf_one bf_other bf_kind bf_years bf_sawn bf_pairs bf_gone nw_seatOf nw_one nw_other nw_kind nw_years nw_sawn nw_pairs nw_gone sc_seatOf sc_handle sc_both sc_slopOf sc_forkBits sc_canBits sc_bestBits sc_bestSlops sl_bits sl_count se_bestRow se_row se_pairAt se_hope se_hopeAt se_slopAt se_farBits se_gain se_worth se_bestWorth se_fresh ch_both ch_cost ch_bit ch_items ch_leastCost ch_leastBits cl_bits cl_count fi_sets fi_count ps_act ps_whom ps_amount ps_next ps_count i0_seatOf i0_one i0_other i0_kind i0_years i0_sawn i0_pairs i0_gone i1_seatOf i1_one i1_other i1_kind i1_years i1_sawn i1_pairs i1_gone i2_seatOf i2_one i2_other i2_kind i2_years i2_sawn i2_pairs i2_gone) R0.1 := by
  refine xI_of (by decide) (Nat.le_of_ble_eq_true rfl) (fun p e s m args below meth c A C ls hl G => ?_)
  have hx := C.1
  have hb := C.2.1
  have hl : lv_has ls 2 [(0, .ref (ad 0))] := hl
  unfold f_X_judge at hf
  refine lv_aload_n hx hb dX10_judge_0 rfl (lv_at hl 0 rfl) ?_
  obtain ⟨x1, hc, hf⟩ := bd_go hf
  refine xI_V C G (c_X_noTable_x hc) mX10_noTable kX10_187 (wX_at0) rfl ⟨Nat.le_of_ble_eq_true rfl, Nat.le_of_ble_eq_true rfl⟩ rfl hl.1 rfl (Nat.le_of_ble_eq_true rfl) ⟨Nat.le_refl _, Nat.le_refl _⟩ dX10_judge_1 (fun hz1 H locs G => ?_)
  refine lv_if_eq (tgt := 9) hx hb dX10_judge_4 (by decide) (fun h => ?_) (fun h => ?_)
  · have hf := it_t h hf
    refine lv_iconst (v := 0) hx hb dX10_judge_9 (by decide) ?_
    refine lv_istore_n (lv' := [(1, .int (0 : Int32)), (0, .ref (ad 0))]) hx hb dX10_judge_10 rfl hl (by decide) rfl (fun ls hl => ?_)
    obtain ⟨ox4, hr, hf⟩ := bd_go hf
    have Jx4 : ∀ x4, ox4 = .inr x4 → ∀ (H : Heap) (locs : List Loc) (ls : Array Slot), xG s E A (wX E ad x_imageCount x1.2 x_lastFault x_lastPlace pa_names pa_faultNumber pa_faultPlace rd_tape rd_length rd_end rd_next rd_sort rd_start rd_value rd_word to_unsurePair to_unsureYears to_triedPair to_seats to_slack to_sawInches to_quarrelChance to_people to_forkBits to_unsure to_tried to_triedFedBits tf_seatOf tf_one tf_other tf_kind tf_years tf_sawn tf_pairs tf_gone bd_unsurePair bd_unsureYears bd_triedPair bd_seats bd_slack bd_sawInches bd_quarrelChance bd_people bd_forkBits bd_unsure bd_tried bd_triedFedBits bf_seatOf bf_one bf_other bf_kind bf_years bf_sawn bf_pairs bf_gone nw_seatOf nw_one nw_other nw_kind nw_years nw_sawn nw_pairs nw_gone sc_seatOf sc_handle sc_both sc_slopOf sc_forkBits sc_canBits sc_bestBits sc_bestSlops sl_bits sl_count se_bestRow se_row se_pairAt se_hope se_hopeAt se_slopAt se_farBits se_gain se_worth se_bestWorth se_fresh ch_both ch_cost ch_bit ch_items ch_leastCost ch_leastBits cl_bits cl_count fi_sets fi_count ps_act ps_whom ps_amount ps_next ps_count i0_seatOf i0_one i0_other i0_kind i0_years i0_sawn i0_pairs i0_gone i1_seatOf i1_one i1_other i1_kind i1_years i1_sawn i1_pairs i1_gone i2_seatOf i2_one i2_other i2_kind i2_years i2_sawn i2_pairs i2_gone) H locs → lv_has ls 2 [] → W p l e (xR 4 90) s m args below meth c H locs 0 0 (MQ below (xqI E A (wX E ad x_imageCount R0.2 x_lastFault x_lastPlace pa_names pa_faultNumber pa_faultPlace rd_tape rd_length rd_end rd_next rd_sort rd_start rd_value rd_word to_unsurePair to_unsureYears to_triedPair to_seats to_slack to_sawInches to_quarrelChance to_people to_forkBits to_unsure to_tried to_triedFedBits tf_seatOf tf_one tf_other tf_kind tf_years tf_sawn tf_pairs tf_gone bd_unsurePair bd_unsureYears bd_triedPair bd_seats bd_slack bd_sawInches bd_quarrelChance bd_people bd_forkBits bd_unsure bd_tried bd_triedFedBits bf_seatOf bf_one bf_other bf_kind bf_years bf_sawn bf_pairs bf_gone nw_seatOf nw_one nw_other nw_kind nw_years nw_sawn nw_pairs nw_gone sc_seatOf sc_handle sc_both sc_slopOf sc_forkBits sc_canBits sc_bestBits sc_bestSlops sl_bits sl_count se_bestRow se_row se_pairAt se_hope se_hopeAt se_slopAt se_farBits se_gain se_worth se_bestWorth se_fresh ch_both ch_cost ch_bit ch_items ch_leastCost ch_leastBits cl_bits cl_count fi_sets fi_count ps_act ps_whom ps_amount ps_next ps_count i0_seatOf i0_one i0_other i0_kind i0_years i0_sawn i0_pairs i0_gone i1_seatOf i1_one i1_other i1_kind i1_years i1_sawn i1_pairs i1_gone i2_seatOf i2_one i2_other i2_kind i2_years i2_sawn i2_pairs i2_gone) (some .int) R0.1) args s 0 0 A) (F0 m 42 ls []) := by
      intro x4 hq H locs ls G hl
      subst hq
      have hf := sm_r hf
      refine lv_bipush (v := -2) hx hb dX10_judge_42 (by decide) ?_
      obtain rfl := Option.some.inj hf
      exact xI_ret C G rfl dX10_judge_44
    have Jrx4 : ∀ r, ox4 = .inl r → r = R0 := by
      intro r hq
      subst hq
      exact Option.some.inj hf
    exact w_X_judge_x_L11 C Jrx4 Jx4 fu _ _ _ _ G (lv_sub hl [1, 0] rfl) hr
  · have hf := it_f h hf
    refine lv_iconst (v := -1) hx hb dX10_judge_7 (by decide) ?_
    obtain rfl := Option.some.inj hf
    exact xI_ret C G rfl dX10_judge_8
set_option maxHeartbeats 4000000 in
set_option maxRecDepth 100000 in
theorem c_X_shareOf_any {l : Launch} {E : xE} {ws : va_W} {l0 : Int32} {l1 : Int32} {l2 : Int32} {R0 : Int32} (hf : f_X_shareOf l0 l1 l2 = some R0) : xI l E yX10_shareOf cX10_shareOf 3 (some .int) 0 0 [.int l0, .int l1, .int l2] ws ws R0 := by
  refine xI_of (by decide) (Nat.le_of_ble_eq_true rfl) (fun p e s m args below meth c A C ls hl G => ?_)
  have hx := C.1
  have hb := C.2.1
  have hl : lv_has ls 3 [(0, .int l0), (1, .int l1), (2, .int l2)] := hl
  unfold f_X_shareOf at hf
  refine lv_iload_n hx hb dX10_shareOf_0 rfl (lv_at hl 1 rfl) ?_
  refine lv_if_eq (tgt := 15) hx hb dX10_shareOf_1 (by decide) (fun h => ?_) (fun h => ?_)
  · have hf := it_t h hf
    refine lv_iload_n hx hb dX10_shareOf_15 rfl (lv_at hl 2 rfl) ?_
    refine lv_if_eq (tgt := 23) hx hb dX10_shareOf_16 (by decide) (fun h => ?_) (fun h => ?_)
    · have hf := it_t h hf
      refine lv_iconst (v := 2) hx hb dX10_shareOf_23 (by decide) ?_
      obtain rfl := Option.some.inj hf
      exact xI_ret C G rfl dX10_shareOf_24
    · have hf := it_f h hf
      refine lv_iconst (v := 4) hx hb dX10_shareOf_19 (by decide) ?_
      refine lv_goto (tgt := 24) hx hb dX10_shareOf_20 (by decide) ?_
      obtain rfl := Option.some.inj hf
      exact xI_ret C G rfl dX10_shareOf_24
  · have hf := it_f h hf
    refine lv_iload_n hx hb dX10_shareOf_4 rfl (lv_at hl 2 rfl) ?_
    refine lv_if_eq (tgt := 13) hx hb dX10_shareOf_5 (by decide) (fun h => ?_) (fun h => ?_)
    · have hf := it_t h hf
      refine lv_iconst (v := 0) hx hb dX10_shareOf_13 (by decide) ?_
      obtain rfl := Option.some.inj hf
      exact xI_ret C G rfl dX10_shareOf_14
    · have hf := it_f h hf
      refine lv_iload_n hx hb dX10_shareOf_8 rfl (lv_at hl 0 rfl) ?_
      refine lv_ineg hx hb dX10_shareOf_9 ?_
      refine lv_goto (tgt := 14) hx hb dX10_shareOf_10 (by decide) ?_
      obtain rfl := Option.some.inj hf
      exact xI_ret C G rfl dX10_shareOf_14
set_option maxHeartbeats 4000000 in
set_option maxRecDepth 100000 in
theorem c_X_saw_x {l : Launch} {E : xE} {ad : Nat → Nat} {x_imageCount x_lastTrouble x_lastFault x_lastPlace pa_faultNumber pa_faultPlace rd_length rd_end rd_next rd_sort rd_start rd_value to_seats to_slack to_sawInches to_quarrelChance to_people to_forkBits to_unsure to_tried to_triedFedBits tf_pairs tf_gone bd_seats bd_slack bd_sawInches bd_quarrelChance bd_people bd_forkBits bd_unsure bd_tried bd_triedFedBits bf_pairs bf_gone nw_pairs nw_gone sc_forkBits sc_canBits sc_bestBits sc_bestSlops sl_count se_bestWorth se_fresh ch_items ch_leastCost ch_leastBits cl_count fi_count ps_next ps_count i0_pairs i0_gone i1_pairs i1_gone i2_pairs i2_gone : Int32} {pa_names : Nat → Int64} {rd_tape to_unsurePair to_unsureYears to_triedPair tf_seatOf tf_one tf_other tf_kind tf_years tf_sawn bd_unsurePair bd_unsureYears bd_triedPair bf_seatOf bf_one bf_other bf_kind bf_years bf_sawn nw_seatOf nw_one nw_other nw_kind nw_years nw_sawn sc_seatOf sc_handle sc_both sc_slopOf sl_bits se_bestRow se_row se_pairAt se_hope se_hopeAt se_slopAt se_farBits se_gain se_worth ch_both ch_cost ch_bit cl_bits fi_sets ps_act ps_whom ps_amount i0_seatOf i0_one i0_other i0_kind i0_years i0_sawn i1_seatOf i1_one i1_other i1_kind i1_years i1_sawn i2_seatOf i2_one i2_other i2_kind i2_years i2_sawn : Nat → Int32} {rd_word : Int64} {l1 : Int32} {l2 : Int32} {l3 : Int32} {l4 : Int32} {R0 : Int32 × Int32} (hf : f_X_saw l1 l2 l3 l4 bd_people = some R0) : xI l E yX10_saw cX10_saw 5 (some .int) 2 41 [.ref (ad 0), .int l1, .int l2, .int l3, .int l4] (wX E ad x_imageCount x_lastTrouble x_lastFault x_lastPlace pa_names pa_faultNumber pa_faultPlace rd_tape rd_length rd_end rd_next rd_sort rd_start rd_value rd_word to_unsurePair to_unsureYears to_triedPair to_seats to_slack to_sawInches to_quarrelChance to_people to_forkBits to_unsure to_tried to_triedFedBits tf_seatOf tf_one tf_other tf_kind tf_years tf_sawn tf_pairs tf_gone bd_unsurePair bd_unsureYears bd_triedPair bd_seats bd_slack bd_sawInches bd_quarrelChance bd_people bd_forkBits bd_unsure bd_tried bd_triedFedBits bf_seatOf bf_one bf_other bf_kind bf_years bf_sawn bf_pairs bf_gone nw_seatOf nw_one nw_other nw_kind nw_years nw_sawn nw_pairs nw_gone sc_seatOf sc_handle sc_both sc_slopOf sc_forkBits sc_canBits sc_bestBits sc_bestSlops sl_bits sl_count se_bestRow se_row se_pairAt se_hope se_hopeAt se_slopAt se_farBits se_gain se_worth se_bestWorth se_fresh ch_both ch_cost ch_bit ch_items ch_leastCost ch_leastBits cl_bits cl_count fi_sets fi_count ps_act ps_whom ps_amount ps_next ps_count i0_seatOf i0_one i0_other i0_kind i0_years i0_sawn i0_pairs i0_gone i1_seatOf i1_one i1_other i1_kind i1_years i1_sawn i1_pairs i1_gone i2_seatOf i2_one i2_other i2_kind i2_years i2_sawn i2_pairs i2_gone) (wX E ad x_imageCount R0.2 x_lastFault x_lastPlace pa_names pa_faultNumber pa_faultPlace rd_tape rd_length rd_end rd_next rd_sort rd_start rd_value rd_word to_unsurePair to_unsureYears to_triedPair to_seats to_slack to_sawInches to_quarrelChance to_people to_forkBits to_unsure to_tried to_triedFedBits tf_seatOf tf_one tf_other tf_kind tf_years tf_sawn tf_pairs tf_gone bd_unsurePair bd_unsureYears bd_triedPair bd_seats bd_slack bd_sawInches bd_quarrelChance bd_people bd_forkBits bd_unsure bd_tried bd_triedFedBits bf_seatOf bf_one bf_other bf_kind bf_years bf_sawn bf_pairs bf_gone nw_seatOf nw_one nw_other nw_kind nw_years nw_sawn nw_pairs nw_gone sc_seatOf sc_handle sc_both sc_slopOf sc_forkBits sc_canBits sc_bestBits sc_bestSlops sl_bits sl_count se_bestRow se_row se_pairAt se_hope se_hopeAt se_slopAt se_farBits se_gain se_worth se_bestWorth se_fresh ch_both ch_cost ch_bit ch_items ch_leastCost ch_leastBits cl_bits cl_count fi_sets fi_count ps_act ps_whom ps_amount ps_next ps_count i0_seatOf i0_one i0_other i0_kind i0_years i0_sawn i0_pairs i0_gone i1_seatOf i1_one i1_other i1_kind i1_years i1_sawn i1_pairs i1_gone i2_seatOf i2_one i2_other i2_kind i2_years i2_sawn i2_pairs i2_gone) R0.1 := by
  refine xI_of (by decide) (Nat.le_of_ble_eq_true rfl) (fun p e s m args below meth c A C ls hl G => ?_)
  have hx := C.1
  have hb := C.2.1
  have hl : lv_has ls 5 [(0, .ref (ad 0)), (1, .int l1), (2, .int l2), (3, .int l3), (4, .int l4)] := hl
  unfold f_X_saw at hf
  refine lv_aload_n hx hb dX10_saw_0 rfl (lv_at hl 0 rfl) ?_
  obtain ⟨x1, hc, hf⟩ := bd_go hf
  refine xI_V C G (c_X_noTable_x hc) mX10_noTable kX10_187 (wX_at0) rfl ⟨Nat.le_of_ble_eq_true rfl, Nat.le_of_ble_eq_true rfl⟩ rfl hl.1 rfl (Nat.le_of_ble_eq_true rfl) ⟨Nat.le_refl _, Nat.le_refl _⟩ dX10_saw_1 (fun hz1 H locs G => ?_)
  refine lv_if_eq (tgt := 10) hx hb dX10_saw_4 (by decide) (fun h => ?_) (fun h => ?_)
  · have hf := it_t h hf
    refine lv_iload_n hx hb dX10_saw_10 rfl (lv_at hl 1 rfl) ?_
    refine lv_bipush (v := 9) hx hb dX10_saw_11 (by decide) ?_
    obtain ⟨x2, hc, hf⟩ := bd_go hf
    refine xI_S C G (c_X_within_any hc) mX10_within kX10_216 ⟨Nat.le_of_ble_eq_true rfl, Nat.le_of_ble_eq_true rfl⟩ rfl hl.1 rfl (Nat.le_of_ble_eq_true rfl) ⟨Nat.le_refl _, Nat.le_refl _⟩ dX10_saw_13 (fun hz2 H locs G => ?_)
    refine lv_if_ne (tgt := 27) hx hb dX10_saw_16 (by decide) (fun h => ?_) (fun h => ?_)
    · have hf := it_f h hf
      refine lv_iload hx hb dX10_saw_27 (lv_at hl 4 rfl) ?_
      refine lv_if_eq (tgt := 41) hx hb dX10_saw_29 (by decide) (fun h => ?_) (fun h => ?_)
      · have hf := it_t h hf
        refine lv_iload_n hx hb dX10_saw_41 rfl (lv_at hl 1 rfl) ?_
        refine lv_iload_n hx hb dX10_saw_42 rfl (lv_at hl 2 rfl) ?_
        refine lv_iload_n hx hb dX10_saw_43 rfl (lv_at hl 3 rfl) ?_
        obtain ⟨x3, hc, hf⟩ := bd_go hf
        refine xI_S C G (c_X_shareOf_any hc) mX10_shareOf kX10_310 ⟨Nat.le_of_ble_eq_true rfl, Nat.le_of_ble_eq_true rfl⟩ rfl hl.1 rfl (Nat.le_of_ble_eq_true rfl) ⟨Nat.le_refl _, Nat.le_refl _⟩ dX10_saw_44 (fun hz H locs G => ?_)
        obtain rfl := Option.some.inj hf
        exact xI_ret C G rfl dX10_saw_47
      · have hf := it_f h hf
        refine lv_iload_n hx hb dX10_saw_32 rfl (lv_at hl 1 rfl) ?_
        refine lv_iload_n hx hb dX10_saw_33 rfl (lv_at hl 3 rfl) ?_
        refine lv_iload_n hx hb dX10_saw_34 rfl (lv_at hl 2 rfl) ?_
        obtain ⟨x4, hc, hf⟩ := bd_go hf
        refine xI_S C G (c_X_shareOf_any hc) mX10_shareOf kX10_310 ⟨Nat.le_of_ble_eq_true rfl, Nat.le_of_ble_eq_true rfl⟩ rfl hl.1 rfl (Nat.le_of_ble_eq_true rfl) ⟨Nat.le_refl _, Nat.le_refl _⟩ dX10_saw_35 (fun hz H locs G => ?_)
        refine lv_goto (tgt := 47) hx hb dX10_saw_38 (by decide) ?_
        obtain rfl := Option.some.inj hf
        exact xI_ret C G rfl dX10_saw_47
    · have hf := it_t h hf
      refine lv_aload_n hx hb dX10_saw_19 rfl (lv_at hl 0 rfl) ?_
      refine lv_iconst (v := 2) hx hb dX10_saw_20 (by decide) ?_
      refine x_put (ws' := (wX E ad x_imageCount (2 : Int32) x_lastFault x_lastPlace pa_names pa_faultNumber pa_faultPlace rd_tape rd_length rd_end rd_next rd_sort rd_start rd_value rd_word to_unsurePair to_unsureYears to_triedPair to_seats to_slack to_sawInches to_quarrelChance to_people to_forkBits to_unsure to_tried to_triedFedBits tf_seatOf tf_one tf_other tf_kind tf_years tf_sawn tf_pairs tf_gone bd_unsurePair bd_unsureYears bd_triedPair bd_seats bd_slack bd_sawInches bd_quarrelChance bd_people bd_forkBits bd_unsure bd_tried bd_triedFedBits bf_seatOf bf_one bf_other bf_kind bf_years bf_sawn bf_pairs bf_gone nw_seatOf nw_one nw_other nw_kind nw_years nw_sawn nw_pairs nw_gone sc_seatOf sc_handle sc_both sc_slopOf sc_forkBits sc_canBits sc_bestBits sc_bestSlops sl_bits sl_count se_bestRow se_row se_pairAt se_hope se_hopeAt se_slopAt se_farBits se_gain se_worth se_bestWorth se_fresh ch_both ch_cost ch_bit ch_items ch_leastCost ch_leastBits cl_bits cl_count fi_sets fi_count ps_act ps_whom ps_amount ps_next ps_count i0_seatOf i0_one i0_other i0_kind i0_years i0_sawn i0_pairs i0_gone i1_seatOf i1_one i1_other i1_kind i1_years i1_sawn i1_pairs i1_gone i2_seatOf i2_one i2_other i2_kind i2_years i2_sawn i2_pairs i2_gone)) C G fX10_107 (wX_at0) rfl rfl (Nat.le_of_ble_eq_true rfl) wX_set_x_lastTrouble dX10_saw_21 (fun H locs G => ?_)
      refine lv_bipush (v := -100) hx hb dX10_saw_24 (by decide) ?_
      obtain rfl := Option.some.inj hf
      exact xI_ret C G rfl dX10_saw_26
  · have hf := it_f h hf
    refine lv_bipush (v := -100) hx hb dX10_saw_7 (by decide) ?_
    obtain rfl := Option.some.inj hf
    exact xI_ret C G rfl dX10_saw_9
set_option maxHeartbeats 4000000 in
set_option maxRecDepth 100000 in
theorem c_X_isRest_any {l : Launch} {E : xE} {ws : va_W} {l0 : Int32} {l1 : Int32} {l2 : Int32} {R0 : Int32} (hf : f_X_isRest l0 l1 l2 = some R0) : xI l E yX10_isRest cX10_isRest 3 (some .boolean) 1 22 [.int l0, .int l1, .int l2] ws ws R0 := by
  refine xI_of (by decide) (Nat.le_of_ble_eq_true rfl) (fun p e s m args below meth c A C ls hl G => ?_)
  have hx := C.1
  have hb := C.2.1
  have hl : lv_has ls 3 [(0, .int l0), (1, .int l1), (2, .int l2)] := hl
  unfold f_X_isRest at hf
  refine lv_iload_n hx hb dX10_isRest_0 rfl (lv_at hl 0 rfl) ?_
  refine lv_iload_n hx hb dX10_isRest_1 rfl (lv_at hl 1 rfl) ?_
  refine lv_iload_n hx hb dX10_isRest_2 rfl (lv_at hl 2 rfl) ?_
  obtain ⟨x1, hc, hf⟩ := bd_go hf
  refine xI_S C G (c_X_shareOf_any hc) mX10_shareOf kX10_310 ⟨Nat.le_of_ble_eq_true rfl, Nat.le_of_ble_eq_true rfl⟩ rfl hl.1 rfl (Nat.le_of_ble_eq_true rfl) ⟨Nat.le_refl _, Nat.le_refl _⟩ dX10_isRest_3 (fun hz H locs G => ?_)
  refine lv_iload_n hx hb dX10_isRest_6 rfl (lv_at hl 0 rfl) ?_
  refine lv_iload_n hx hb dX10_isRest_7 rfl (lv_at hl 1 rfl) ?_
  obtain ⟨x2, hrx2, hf⟩ := bd_go hf
  have Jx2 : ∀ (H : Heap) (locs : List Loc) (ls : Array Slot), xG s E A ws H locs → lv_has ls 3 [(0, .int l0), (1, .int l1), (2, .int l2)] → W p l e (xR 1 22) s m args below meth c H locs 0 0 (MQ below (xqI E A ws (some .boolean) R0) args s 0 0 A) (F0 m 16 ls [.int x2, .int l0, .int x1]) := by
    intro H locs ls G hl
    refine lv_iload_n hx hb dX10_isRest_16 rfl (lv_at hl 2 rfl) ?_
    obtain ⟨x3, hc, hf⟩ := bd_go hf
    refine xI_S C G (c_X_shareOf_any hc) mX10_shareOf kX10_310 ⟨Nat.le_of_ble_eq_true rfl, Nat.le_of_ble_eq_true rfl⟩ rfl hl.1 rfl (Nat.le_of_ble_eq_true rfl) ⟨Nat.le_refl _, Nat.le_refl _⟩ dX10_isRest_17 (fun hz H locs G => ?_)
    refine lv_icmp_lt (tgt := 50) hx hb dX10_isRest_20 (by decide) (fun h => ?_) (fun h => ?_)
    · have hf := it_t h hf
      refine lv_iconst (v := 0) hx hb dX10_isRest_50 (by decide) ?_
      obtain rfl := Option.some.inj hf
      exact xI_ret (r := (0 : Int32)) C G rfl dX10_isRest_51
    · have hf := it_f h hf
      refine lv_iload_n hx hb dX10_isRest_23 rfl (lv_at hl 0 rfl) ?_
      refine lv_iload_n hx hb dX10_isRest_24 rfl (lv_at hl 2 rfl) ?_
      refine lv_iload_n hx hb dX10_isRest_25 rfl (lv_at hl 1 rfl) ?_
      obtain ⟨x4, hc, hf⟩ := bd_go hf
      refine xI_S C G (c_X_shareOf_any hc) mX10_shareOf kX10_310 ⟨Nat.le_of_ble_eq_true rfl, Nat.le_of_ble_eq_true rfl⟩ rfl hl.1 rfl (Nat.le_of_ble_eq_true rfl) ⟨Nat.le_refl _, Nat.le_refl _⟩ dX10_isRest_26 (fun hz H locs G => ?_)
      refine lv_iload_n hx hb dX10_isRest_29 rfl (lv_at hl 0 rfl) ?_
      refine lv_iload_n hx hb dX10_isRest_30 rfl (lv_at hl 2 rfl) ?_
      obtain ⟨x5, hrx5, hf⟩ := bd_go hf
      have Jx5 : ∀ (H : Heap) (locs : List Loc) (ls : Array Slot), xG s E A ws H locs → lv_has ls 3 [(1, .int l1)] → W p l e (xR 1 22) s m args below meth c H locs 0 0 (MQ below (xqI E A ws (some .boolean) R0) args s 0 0 A) (F0 m 39 ls [.int x5, .int l0, .int x4]) := by
        intro H locs ls G hl
        refine lv_iload_n hx hb dX10_isRest_39 rfl (lv_at hl 0 rfl) ?_
        obtain ⟨x6, hc, hf⟩ := bd_go hf
        refine xI_S C G (c_X_shareOf_any hc) mX10_shareOf kX10_310 ⟨Nat.le_of_ble_eq_true rfl, Nat.le_of_ble_eq_true rfl⟩ rfl hl.1 rfl (Nat.le_of_ble_eq_true rfl) ⟨Nat.le_refl _, Nat.le_refl _⟩ dX10_isRest_40 (fun hz H locs G => ?_)
        refine lv_icmp_lt (tgt := 50) hx hb dX10_isRest_43 (by decide) (fun h => ?_) (fun h => ?_)
        · have hf := it_t h hf
          refine lv_iconst (v := 0) hx hb dX10_isRest_50 (by decide) ?_
          obtain rfl := Option.some.inj hf
          exact xI_ret (r := (0 : Int32)) C G rfl dX10_isRest_51
        · have hf := it_f h hf
          refine lv_iconst (v := 1) hx hb dX10_isRest_46 (by decide) ?_
          refine lv_goto (tgt := 51) hx hb dX10_isRest_47 (by decide) ?_
          obtain rfl := Option.some.inj hf
          exact xI_ret (r := (1 : Int32)) C G rfl dX10_isRest_51
      have hf := hrx5
      refine lv_if_ne (tgt := 38) hx hb dX10_isRest_31 (by decide) (fun h => ?_) (fun h => ?_)
      · have hf := it_f h hf
        refine lv_iconst (v := 0) hx hb dX10_isRest_38 (by decide) ?_
        obtain rfl := Option.some.inj hf
        exact Jx5 _ _ _ G (lv_sub hl [1] rfl)
      · have hf := it_t h hf
        refine lv_iconst (v := 1) hx hb dX10_isRest_34 (by decide) ?_
        refine lv_goto (tgt := 39) hx hb dX10_isRest_35 (by decide) ?_
        obtain rfl := Option.some.inj hf
        exact Jx5 _ _ _ G (lv_sub hl [1] rfl)
  have hf := hrx2
  refine lv_if_ne (tgt := 15) hx hb dX10_isRest_8 (by decide) (fun h => ?_) (fun h => ?_)
  · have hf := it_f h hf
    refine lv_iconst (v := 0) hx hb dX10_isRest_15 (by decide) ?_
    obtain rfl := Option.some.inj hf
    exact Jx2 _ _ _ G (lv_sub hl [0, 1, 2] rfl)
  · have hf := it_t h hf
    refine lv_iconst (v := 1) hx hb dX10_isRest_11 (by decide) ?_
    refine lv_goto (tgt := 16) hx hb dX10_isRest_12 (by decide) ?_
    obtain rfl := Option.some.inj hf
    exact Jx2 _ _ _ G (lv_sub hl [0, 1, 2] rfl)
set_option maxHeartbeats 4000000 in
set_option maxRecDepth 100000 in
theorem w_X_rests_x_L28 {p : Program} {l : Launch} {e : Env} {s : State} {m : MethodId} {args : Array Value} {below : List Frame} {meth : Method} {c : Code} {A : Nat → Prop} {E : xE} {Q : State → Prop} {ad : Nat → Nat} {x_imageCount x_lastTrouble x_lastFault x_lastPlace pa_faultNumber pa_faultPlace rd_length rd_end rd_next rd_sort rd_start rd_value to_seats to_slack to_sawInches to_quarrelChance to_people to_forkBits to_unsure to_tried to_triedFedBits tf_pairs tf_gone bd_seats bd_slack bd_sawInches bd_quarrelChance bd_people bd_forkBits bd_unsure bd_tried bd_triedFedBits bf_pairs bf_gone nw_pairs nw_gone sc_forkBits sc_canBits sc_bestBits sc_bestSlops sl_count se_bestWorth se_fresh ch_items ch_leastCost ch_leastBits cl_count fi_count ps_next ps_count i0_pairs i0_gone i1_pairs i1_gone i2_pairs i2_gone : Int32} {pa_names : Nat → Int64} {rd_tape to_unsurePair to_unsureYears to_triedPair tf_seatOf tf_one tf_other tf_kind tf_years tf_sawn bd_unsurePair bd_unsureYears bd_triedPair bf_seatOf bf_one bf_other bf_kind bf_years bf_sawn nw_seatOf nw_one nw_other nw_kind nw_years nw_sawn sc_seatOf sc_handle sc_both sc_slopOf sl_bits se_bestRow se_row se_pairAt se_hope se_hopeAt se_slopAt se_farBits se_gain se_worth ch_both ch_cost ch_bit cl_bits fi_sets ps_act ps_whom ps_amount i0_seatOf i0_one i0_other i0_kind i0_years i0_sawn i1_seatOf i1_one i1_other i1_kind i1_years i1_sawn i2_seatOf i2_one i2_other i2_kind i2_years i2_sawn : Nat → Int32} {rd_word : Int64} {l1 : Int32} {o : Int32} (C : xC p s m args meth c cX10_rests 4 RX10 E A (some .int)) (J : ∀ (H : Heap) (locs : List Loc) (ls : Array Slot), xG s E A (wX E ad x_imageCount x_lastTrouble x_lastFault x_lastPlace pa_names pa_faultNumber pa_faultPlace rd_tape rd_length rd_end rd_next rd_sort rd_start rd_value rd_word to_unsurePair to_unsureYears to_triedPair to_seats to_slack to_sawInches to_quarrelChance to_people to_forkBits to_unsure to_tried to_triedFedBits tf_seatOf tf_one tf_other tf_kind tf_years tf_sawn tf_pairs tf_gone bd_unsurePair bd_unsureYears bd_triedPair bd_seats bd_slack bd_sawInches bd_quarrelChance bd_people bd_forkBits bd_unsure bd_tried bd_triedFedBits bf_seatOf bf_one bf_other bf_kind bf_years bf_sawn bf_pairs bf_gone nw_seatOf nw_one nw_other nw_kind nw_years nw_sawn nw_pairs nw_gone sc_seatOf sc_handle sc_both sc_slopOf sc_forkBits sc_canBits sc_bestBits sc_bestSlops sl_bits sl_count se_bestRow se_row se_pairAt se_hope se_hopeAt se_slopAt se_farBits se_gain se_worth se_bestWorth se_fresh ch_both ch_cost ch_bit ch_items ch_leastCost ch_leastBits cl_bits cl_count fi_sets fi_count ps_act ps_whom ps_amount ps_next ps_count i0_seatOf i0_one i0_other i0_kind i0_years i0_sawn i0_pairs i0_gone i1_seatOf i1_one i1_other i1_kind i1_years i1_sawn i1_pairs i1_gone i2_seatOf i2_one i2_other i2_kind i2_years i2_sawn i2_pairs i2_gone) H locs → lv_has ls 4 [(2, .int o)] → W p l e (xR 2 44) s m args below meth c H locs 0 0 Q (F0 m 59 ls [])) :
    ∀ (n : Nat) (l2 : Int32) (l3 : Int32) (H : Heap) (locs : List Loc) (ls : Array Slot), xG s E A (wX E ad x_imageCount x_lastTrouble x_lastFault x_lastPlace pa_names pa_faultNumber pa_faultPlace rd_tape rd_length rd_end rd_next rd_sort rd_start rd_value rd_word to_unsurePair to_unsureYears to_triedPair to_seats to_slack to_sawInches to_quarrelChance to_people to_forkBits to_unsure to_tried to_triedFedBits tf_seatOf tf_one tf_other tf_kind tf_years tf_sawn tf_pairs tf_gone bd_unsurePair bd_unsureYears bd_triedPair bd_seats bd_slack bd_sawInches bd_quarrelChance bd_people bd_forkBits bd_unsure bd_tried bd_triedFedBits bf_seatOf bf_one bf_other bf_kind bf_years bf_sawn bf_pairs bf_gone nw_seatOf nw_one nw_other nw_kind nw_years nw_sawn nw_pairs nw_gone sc_seatOf sc_handle sc_both sc_slopOf sc_forkBits sc_canBits sc_bestBits sc_bestSlops sl_bits sl_count se_bestRow se_row se_pairAt se_hope se_hopeAt se_slopAt se_farBits se_gain se_worth se_bestWorth se_fresh ch_both ch_cost ch_bit ch_items ch_leastCost ch_leastBits cl_bits cl_count fi_sets fi_count ps_act ps_whom ps_amount ps_next ps_count i0_seatOf i0_one i0_other i0_kind i0_years i0_sawn i0_pairs i0_gone i1_seatOf i1_one i1_other i1_kind i1_years i1_sawn i1_pairs i1_gone i2_seatOf i2_one i2_other i2_kind i2_years i2_sawn i2_pairs i2_gone) H locs → lv_has ls 4 [(1, .int l1), (2, .int l2), (3, .int l3)] → f_X_rests_L28 l1 n l2 l3 = some o → W p l e (xR 2 44) s m args below meth c H locs 0 0 Q (F0 m 28 ls []) := by
  have hx := C.1
  have hb := C.2.1
  intro n
  induction n with
  | zero =>
    intro l2 l3 H locs ls G hl hf
    exact nomatch (show (none : Option (Int32)) = some o from hf)
  | succ n ih =>
    intro l2 l3 H locs ls G hl hf
    rw [f_X_rests_L28] at hf
    refine lv_iload_n hx hb dX10_rests_28 rfl (lv_at hl 2 rfl) ?_
    refine lv_iconst (v := 4) hx hb dX10_rests_29 (by decide) ?_
    refine lv_icmp_ge (tgt := 59) hx hb dX10_rests_30 (by decide) (fun h => ?_) (fun h => ?_)
    · have hf := it_t h hf
      obtain rfl := Option.some.inj hf
      exact J _ _ _ G (lv_sub hl [1] rfl)
    · have hf := it_f h hf
      refine lv_iload_n hx hb dX10_rests_33 rfl (lv_at hl 0 rfl) ?_
      refine lv_iload_n hx hb dX10_rests_34 rfl (lv_at hl 2 rfl) ?_
      refine lv_iconst (v := 1) hx hb dX10_rests_35 (by decide) ?_
      obtain ⟨x3, hc, hf⟩ := bd_go hf
      refine xI_S C G (c_X_has_any hc) mX10_has kX10_257 ⟨Nat.le_of_ble_eq_true rfl, Nat.le_of_ble_eq_true rfl⟩ rfl hl.1 rfl (Nat.le_of_ble_eq_true rfl) ⟨Nat.le_refl _, Nat.le_refl _⟩ dX10_rests_36 (fun hz3 H locs G => ?_)
      refine lv_iload_n hx hb dX10_rests_39 rfl (lv_at hl 2 rfl) ?_
      refine lv_iconst (v := 0) hx hb dX10_rests_40 (by decide) ?_
      obtain ⟨x4, hc, hf⟩ := bd_go hf
      refine xI_S C G (c_X_has_any hc) mX10_has kX10_257 ⟨Nat.le_of_ble_eq_true rfl, Nat.le_of_ble_eq_true rfl⟩ rfl hl.1 rfl (Nat.le_of_ble_eq_true rfl) ⟨Nat.le_refl _, Nat.le_refl _⟩ dX10_rests_41 (fun hz4 H locs G => ?_)
      obtain ⟨x5, hc, hf⟩ := bd_go hf
      refine xI_S C G (c_X_isRest_any hc) mX10_isRest kX10_314 ⟨Nat.le_of_ble_eq_true rfl, Nat.le_of_ble_eq_true rfl⟩ rfl hl.1 rfl (Nat.le_of_ble_eq_true rfl) ⟨Nat.le_refl _, Nat.le_refl _⟩ dX10_rests_44 (fun hz5 H locs G => ?_)
      refine lv_if_eq (tgt := 53) hx hb dX10_rests_47 (by decide) (fun h => ?_) (fun h => ?_)
      · have hf := it_t h hf
        obtain ⟨x6, ex6⟩ : ∃ z : Int32, z = l3 + (1 : Int32) := ⟨_, rfl⟩
        have hf := lt_go ex6 hf
        refine lv_iinc (v := x6) (lv' := [(3, .int x6), (1, .int l1), (2, .int l2)]) hx hb dX10_rests_53 hl (k := 2) rfl (by rw [ex6]; rfl) (by decide) rfl (fun ls hl => ?_)
        refine lv_goto (tgt := 28) hx hb dX10_rests_56 (by decide) ?_
        exact ih l2 x6 _ _ _ G (lv_sub hl [1, 2, 0] rfl) hf
      · have hf := it_f h hf
        obtain ⟨x7, ex7⟩ : ∃ z : Int32, z = l2 + (1 : Int32) := ⟨_, rfl⟩
        have hf := lt_go ex7 hf
        refine lv_iinc (v := x7) (lv' := [(2, .int x7), (1, .int l1), (3, .int l3)]) hx hb dX10_rests_50 hl (k := 1) rfl (by rw [ex7]; rfl) (by decide) rfl (fun ls hl => ?_)
        obtain ⟨x8, ex8⟩ : ∃ z : Int32, z = l3 + (1 : Int32) := ⟨_, rfl⟩
        have hf := lt_go ex8 hf
        refine lv_iinc (v := x8) (lv' := [(3, .int x8), (2, .int x7), (1, .int l1)]) hx hb dX10_rests_53 hl (k := 2) rfl (by rw [ex8]; rfl) (by decide) rfl (fun ls hl => ?_)
        refine lv_goto (tgt := 28) hx hb dX10_rests_56 (by decide) ?_
        exact ih x7 x8 _ _ _ G (lv_sub hl [2, 1, 0] rfl) hf
set_option maxHeartbeats 4000000 in
set_option maxRecDepth 100000 in
theorem c_X_rests_x {l : Launch} {E : xE} {ad : Nat → Nat} {x_imageCount x_lastTrouble x_lastFault x_lastPlace pa_faultNumber pa_faultPlace rd_length rd_end rd_next rd_sort rd_start rd_value to_seats to_slack to_sawInches to_quarrelChance to_people to_forkBits to_unsure to_tried to_triedFedBits tf_pairs tf_gone bd_seats bd_slack bd_sawInches bd_quarrelChance bd_people bd_forkBits bd_unsure bd_tried bd_triedFedBits bf_pairs bf_gone nw_pairs nw_gone sc_forkBits sc_canBits sc_bestBits sc_bestSlops sl_count se_bestWorth se_fresh ch_items ch_leastCost ch_leastBits cl_count fi_count ps_next ps_count i0_pairs i0_gone i1_pairs i1_gone i2_pairs i2_gone : Int32} {pa_names : Nat → Int64} {rd_tape to_unsurePair to_unsureYears to_triedPair tf_seatOf tf_one tf_other tf_kind tf_years tf_sawn bd_unsurePair bd_unsureYears bd_triedPair bf_seatOf bf_one bf_other bf_kind bf_years bf_sawn nw_seatOf nw_one nw_other nw_kind nw_years nw_sawn sc_seatOf sc_handle sc_both sc_slopOf sl_bits se_bestRow se_row se_pairAt se_hope se_hopeAt se_slopAt se_farBits se_gain se_worth ch_both ch_cost ch_bit cl_bits fi_sets ps_act ps_whom ps_amount i0_seatOf i0_one i0_other i0_kind i0_years i0_sawn i1_seatOf i1_one i1_other i1_kind i1_years i1_sawn i2_seatOf i2_one i2_other i2_kind i2_years i2_sawn : Nat → Int32} {rd_word : Int64} {l1 : Int32} {R0 : Int32 × Int32} (hf : f_X_rests l1 bd_people = some R0) : xI l E yX10_rests cX10_rests 4 (some .int) 2 44 [.ref (ad 0), .int l1] (wX E ad x_imageCount x_lastTrouble x_lastFault x_lastPlace pa_names pa_faultNumber pa_faultPlace rd_tape rd_length rd_end rd_next rd_sort rd_start rd_value rd_word to_unsurePair to_unsureYears to_triedPair to_seats to_slack to_sawInches to_quarrelChance to_people to_forkBits to_unsure to_tried to_triedFedBits tf_seatOf tf_one tf_other tf_kind tf_years tf_sawn tf_pairs tf_gone bd_unsurePair bd_unsureYears bd_triedPair bd_seats bd_slack bd_sawInches bd_quarrelChance bd_people bd_forkBits bd_unsure bd_tried bd_triedFedBits bf_seatOf bf_one bf_other bf_kind bf_years bf_sawn bf_pairs bf_gone nw_seatOf nw_one nw_other nw_kind nw_years nw_sawn nw_pairs nw_gone sc_seatOf sc_handle sc_both sc_slopOf sc_forkBits sc_canBits sc_bestBits sc_bestSlops sl_bits sl_count se_bestRow se_row se_pairAt se_hope se_hopeAt se_slopAt se_farBits se_gain se_worth se_bestWorth se_fresh ch_both ch_cost ch_bit ch_items ch_leastCost ch_leastBits cl_bits cl_count fi_sets fi_count ps_act ps_whom ps_amount ps_next ps_count i0_seatOf i0_one i0_other i0_kind i0_years i0_sawn i0_pairs i0_gone i1_seatOf i1_one i1_other i1_kind i1_years i1_sawn i1_pairs i1_gone i2_seatOf i2_one i2_other i2_kind i2_years i2_sawn i2_pairs i2_gone) (wX E ad x_imageCount R0.2 x_lastFault x_lastPlace pa_names pa_faultNumber pa_faultPlace rd_tape rd_length rd_end rd_next rd_sort rd_start rd_value rd_word to_unsurePair to_unsureYears to_triedPair to_seats to_slack to_sawInches to_quarrelChance to_people to_forkBits to_unsure to_tried to_triedFedBits tf_seatOf tf_one tf_other tf_kind tf_years tf_sawn tf_pairs tf_gone bd_unsurePair bd_unsureYears bd_triedPair bd_seats bd_slack bd_sawInches bd_quarrelChance bd_people bd_forkBits bd_unsure bd_tried bd_triedFedBits bf_seatOf bf_one bf_other bf_kind bf_years bf_sawn bf_pairs bf_gone nw_seatOf nw_one nw_other nw_kind nw_years nw_sawn nw_pairs nw_gone sc_seatOf sc_handle sc_both sc_slopOf sc_forkBits sc_canBits sc_bestBits sc_bestSlops sl_bits sl_count se_bestRow se_row se_pairAt se_hope se_hopeAt se_slopAt se_farBits se_gain se_worth se_bestWorth se_fresh ch_both ch_cost ch_bit ch_items ch_leastCost ch_leastBits cl_bits cl_count fi_sets fi_count ps_act ps_whom ps_amount ps_next ps_count i0_seatOf i0_one i0_other i0_kind i0_years i0_sawn i0_pairs i0_gone i1_seatOf i1_one i1_other i1_kind i1_years i1_sawn i1_pairs i1_gone i2_seatOf i2_one i2_other i2_kind i2_years i2_sawn i2_pairs i2_gone) R0.1 := by
  refine xI_of (by decide) (Nat.le_of_ble_eq_true rfl) (fun p e s m args below meth c A C ls hl G => ?_)
  have hx := C.1
  have hb := C.2.1
  have hl : lv_has ls 4 [(0, .ref (ad 0)), (1, .int l1)] := hl
  unfold f_X_rests at hf
  refine lv_aload_n hx hb dX10_rests_0 rfl (lv_at hl 0 rfl) ?_
  obtain ⟨x1, hc, hf⟩ := bd_go hf
  refine xI_V C G (c_X_noTable_x hc) mX10_noTable kX10_187 (wX_at0) rfl ⟨Nat.le_of_ble_eq_true rfl, Nat.le_of_ble_eq_true rfl⟩ rfl hl.1 rfl (Nat.le_of_ble_eq_true rfl) ⟨Nat.le_refl _, Nat.le_refl _⟩ dX10_rests_1 (fun hz1 H locs G => ?_)
  refine lv_if_eq (tgt := 9) hx hb dX10_rests_4 (by decide) (fun h => ?_) (fun h => ?_)
  · have hf := it_t h hf
    refine lv_iload_n hx hb dX10_rests_9 rfl (lv_at hl 1 rfl) ?_
    refine lv_bipush (v := 9) hx hb dX10_rests_10 (by decide) ?_
    obtain ⟨x2, hc, hf⟩ := bd_go hf
    refine xI_S C G (c_X_within_any hc) mX10_within kX10_216 ⟨Nat.le_of_ble_eq_true rfl, Nat.le_of_ble_eq_true rfl⟩ rfl hl.1 rfl (Nat.le_of_ble_eq_true rfl) ⟨Nat.le_refl _, Nat.le_refl _⟩ dX10_rests_12 (fun hz2 H locs G => ?_)
    refine lv_if_ne (tgt := 24) hx hb dX10_rests_15 (by decide) (fun h => ?_) (fun h => ?_)
    · have hf := it_f h hf
      refine lv_iconst (v := 0) hx hb dX10_rests_24 (by decide) ?_
      refine lv_istore_n (lv' := [(2, .int (0 : Int32)), (0, .ref (ad 0)), (1, .int l1)]) hx hb dX10_rests_25 rfl hl (by decide) rfl (fun ls hl => ?_)
      refine lv_iconst (v := 0) hx hb dX10_rests_26 (by decide) ?_
      refine lv_istore_n (lv' := [(3, .int (0 : Int32)), (2, .int (0 : Int32)), (0, .ref (ad 0)), (1, .int l1)]) hx hb dX10_rests_27 rfl hl (by decide) rfl (fun ls hl => ?_)
      obtain ⟨x9, hr, hf⟩ := bd_go hf
      have Jx9 : ∀ (H : Heap) (locs : List Loc) (ls : Array Slot), xG s E A (wX E ad x_imageCount x1.2 x_lastFault x_lastPlace pa_names pa_faultNumber pa_faultPlace rd_tape rd_length rd_end rd_next rd_sort rd_start rd_value rd_word to_unsurePair to_unsureYears to_triedPair to_seats to_slack to_sawInches to_quarrelChance to_people to_forkBits to_unsure to_tried to_triedFedBits tf_seatOf tf_one tf_other tf_kind tf_years tf_sawn tf_pairs tf_gone bd_unsurePair bd_unsureYears bd_triedPair bd_seats bd_slack bd_sawInches bd_quarrelChance bd_people bd_forkBits bd_unsure bd_tried bd_triedFedBits bf_seatOf bf_one bf_other bf_kind bf_years bf_sawn bf_pairs bf_gone nw_seatOf nw_one nw_other nw_kind nw_years nw_sawn nw_pairs nw_gone sc_seatOf sc_handle sc_both sc_slopOf sc_forkBits sc_canBits sc_bestBits sc_bestSlops sl_bits sl_count se_bestRow se_row se_pairAt se_hope se_hopeAt se_slopAt se_farBits se_gain se_worth se_bestWorth se_fresh ch_both ch_cost ch_bit ch_items ch_leastCost ch_leastBits cl_bits cl_count fi_sets fi_count ps_act ps_whom ps_amount ps_next ps_count i0_seatOf i0_one i0_other i0_kind i0_years i0_sawn i0_pairs i0_gone i1_seatOf i1_one i1_other i1_kind i1_years i1_sawn i1_pairs i1_gone i2_seatOf i2_one i2_other i2_kind i2_years i2_sawn i2_pairs i2_gone) H locs → lv_has ls 4 [(2, .int x9)] → W p l e (xR 2 44) s m args below meth c H locs 0 0 (MQ below (xqI E A (wX E ad x_imageCount R0.2 x_lastFault x_lastPlace pa_names pa_faultNumber pa_faultPlace rd_tape rd_length rd_end rd_next rd_sort rd_start rd_value rd_word to_unsurePair to_unsureYears to_triedPair to_seats to_slack to_sawInches to_quarrelChance to_people to_forkBits to_unsure to_tried to_triedFedBits tf_seatOf tf_one tf_other tf_kind tf_years tf_sawn tf_pairs tf_gone bd_unsurePair bd_unsureYears bd_triedPair bd_seats bd_slack bd_sawInches bd_quarrelChance bd_people bd_forkBits bd_unsure bd_tried bd_triedFedBits bf_seatOf bf_one bf_other bf_kind bf_years bf_sawn bf_pairs bf_gone nw_seatOf nw_one nw_other nw_kind nw_years nw_sawn nw_pairs nw_gone sc_seatOf sc_handle sc_both sc_slopOf sc_forkBits sc_canBits sc_bestBits sc_bestSlops sl_bits sl_count se_bestRow se_row se_pairAt se_hope se_hopeAt se_slopAt se_farBits se_gain se_worth se_bestWorth se_fresh ch_both ch_cost ch_bit ch_items ch_leastCost ch_leastBits cl_bits cl_count fi_sets fi_count ps_act ps_whom ps_amount ps_next ps_count i0_seatOf i0_one i0_other i0_kind i0_years i0_sawn i0_pairs i0_gone i1_seatOf i1_one i1_other i1_kind i1_years i1_sawn i1_pairs i1_gone i2_seatOf i2_one i2_other i2_kind i2_years i2_sawn i2_pairs i2_gone) (some .int) R0.1) args s 0 0 A) (F0 m 59 ls []) := by
        intro H locs ls G hl
        refine lv_iload_n hx hb dX10_rests_59 rfl (lv_at hl 0 rfl) ?_
        obtain rfl := Option.some.inj hf
        exact xI_ret C G rfl dX10_rests_60
      exact w_X_rests_x_L28 C Jx9 fu _ _ _ _ _ G (lv_sub hl [3, 1, 0] rfl) hr
    · have hf := it_t h hf
      refine lv_aload_n hx hb dX10_rests_18 rfl (lv_at hl 0 rfl) ?_
      refine lv_iconst (v := 2) hx hb dX10_rests_19 (by decide) ?_
      obtain ⟨x10, hc, hf⟩ := bd_go hf
      refine xI_V C G (c_X_refused_x hc) mX10_refused kX10_87 (wX_at0) rfl ⟨Nat.le_of_ble_eq_true rfl, Nat.le_of_ble_eq_true rfl⟩ rfl hl.1 rfl (Nat.le_of_ble_eq_true rfl) ⟨Nat.le_refl _, Nat.le_refl _⟩ dX10_rests_20 (fun hz H locs G => ?_)
      obtain rfl := Option.some.inj hf
      exact xI_ret C G rfl dX10_rests_23
  · have hf := it_f h hf
    refine lv_iconst (v := -1) hx hb dX10_rests_7 (by decide) ?_
    obtain rfl := Option.some.inj hf
    exact xI_ret C G rfl dX10_rests_8
set_option maxHeartbeats 4000000 in
set_option maxRecDepth 100000 in
theorem w_X_rest_x_L26 {p : Program} {l : Launch} {e : Env} {s : State} {m : MethodId} {args : Array Value} {below : List Frame} {meth : Method} {c : Code} {A : Nat → Prop} {E : xE} {ad : Nat → Nat} {x_imageCount x_lastTrouble x_lastFault x_lastPlace pa_faultNumber pa_faultPlace rd_length rd_end rd_next rd_sort rd_start rd_value to_seats to_slack to_sawInches to_quarrelChance to_people to_forkBits to_unsure to_tried to_triedFedBits tf_pairs tf_gone bd_seats bd_slack bd_sawInches bd_quarrelChance bd_people bd_forkBits bd_unsure bd_tried bd_triedFedBits bf_pairs bf_gone nw_pairs nw_gone sc_forkBits sc_canBits sc_bestBits sc_bestSlops sl_count se_bestWorth se_fresh ch_items ch_leastCost ch_leastBits cl_count fi_count ps_next ps_count i0_pairs i0_gone i1_pairs i1_gone i2_pairs i2_gone : Int32} {pa_names : Nat → Int64} {rd_tape to_unsurePair to_unsureYears to_triedPair tf_seatOf tf_one tf_other tf_kind tf_years tf_sawn bd_unsurePair bd_unsureYears bd_triedPair bf_seatOf bf_one bf_other bf_kind bf_years bf_sawn nw_seatOf nw_one nw_other nw_kind nw_years nw_sawn sc_seatOf sc_handle sc_both sc_slopOf sl_bits se_bestRow se_row se_pairAt se_hope se_hopeAt se_slopAt se_farBits se_gain se_worth ch_both ch_cost ch_bit cl_bits fi_sets ps_act ps_whom ps_amount i0_seatOf i0_one i0_other i0_kind i0_years i0_sawn i1_seatOf i1_one i1_other i1_kind i1_years i1_sawn i2_seatOf i2_one i2_other i2_kind i2_years i2_sawn : Nat → Int32} {rd_word : Int64} {l1 : Int32} {o : (Int32 × Int32) ⊕ (Unit)} {R0 : Int32 × Int32} (C : xC p s m args meth c cX10_rest 5 RX10 E A (some .int)) (Jr : ∀ r, o = .inl r → r = R0) (J : ∀ t, o = .inr t → ∀ (H : Heap) (locs : List Loc) (ls : Array Slot), xG s E A (wX E ad x_imageCount x_lastTrouble x_lastFault x_lastPlace pa_names pa_faultNumber pa_faultPlace rd_tape rd_length rd_end rd_next rd_sort rd_start rd_value rd_word to_unsurePair to_unsureYears to_triedPair to_seats to_slack to_sawInches to_quarrelChance to_people to_forkBits to_unsure to_tried to_triedFedBits tf_seatOf tf_one tf_other tf_kind tf_years tf_sawn tf_pairs tf_gone bd_unsurePair bd_unsureYears bd_triedPair bd_seats bd_slack bd_sawInches bd_quarrelChance bd_people bd_forkBits bd_unsure bd_tried bd_triedFedBits bf_seatOf bf_one bf_other bf_kind bf_years bf_sawn bf_pairs bf_gone nw_seatOf nw_one nw_other nw_kind nw_years nw_sawn nw_pairs nw_gone sc_seatOf sc_handle sc_both sc_slopOf sc_forkBits sc_canBits sc_bestBits sc_bestSlops sl_bits sl_count se_bestRow se_row se_pairAt se_hope se_hopeAt se_slopAt se_farBits se_gain se_worth se_bestWorth se_fresh ch_both ch_cost ch_bit ch_items ch_leastCost ch_leastBits cl_bits cl_count fi_sets fi_count ps_act ps_whom ps_amount ps_next ps_count i0_seatOf i0_one i0_other i0_kind i0_years i0_sawn i0_pairs i0_gone i1_seatOf i1_one i1_other i1_kind i1_years i1_sawn i1_pairs i1_gone i2_seatOf i2_one i2_other i2_kind i2_years i2_sawn i2_pairs i2_gone) H locs → lv_has ls 5 [] → W p l e (xR 2 44) s m args below meth c H locs 0 0 (MQ below (xqI E A (wX E ad x_imageCount R0.2 x_lastFault x_lastPlace pa_names pa_faultNumber pa_faultPlace rd_tape rd_length rd_end rd_next rd_sort rd_start rd_value rd_word to_unsurePair to_unsureYears to_triedPair to_seats to_slack to_sawInches to_quarrelChance to_people to_forkBits to_unsure to_tried to_triedFedBits tf_seatOf tf_one tf_other tf_kind tf_years tf_sawn tf_pairs tf_gone bd_unsurePair bd_unsureYears bd_triedPair bd_seats bd_slack bd_sawInches bd_quarrelChance bd_people bd_forkBits bd_unsure bd_tried bd_triedFedBits bf_seatOf bf_one bf_other bf_kind bf_years bf_sawn bf_pairs bf_gone nw_seatOf nw_one nw_other nw_kind nw_years nw_sawn nw_pairs nw_gone sc_seatOf sc_handle sc_both sc_slopOf sc_forkBits sc_canBits sc_bestBits sc_bestSlops sl_bits sl_count se_bestRow se_row se_pairAt se_hope se_hopeAt se_slopAt se_farBits se_gain se_worth se_bestWorth se_fresh ch_both ch_cost ch_bit ch_items ch_leastCost ch_leastBits cl_bits cl_count fi_sets fi_count ps_act ps_whom ps_amount ps_next ps_count i0_seatOf i0_one i0_other i0_kind i0_years i0_sawn i0_pairs i0_gone i1_seatOf i1_one i1_other i1_kind i1_years i1_sawn i1_pairs i1_gone i2_seatOf i2_one i2_other i2_kind i2_years i2_sawn i2_pairs i2_gone) (some .int) R0.1) args s 0 0 A) (F0 m 82 ls [])) :
    ∀ (n : Nat) (l2 : Int32) (H : Heap) (locs : List Loc) (ls : Array Slot), xG s E A (wX E ad x_imageCount x_lastTrouble x_lastFault x_lastPlace pa_names pa_faultNumber pa_faultPlace rd_tape rd_length rd_end rd_next rd_sort rd_start rd_value rd_word to_unsurePair to_unsureYears to_triedPair to_seats to_slack to_sawInches to_quarrelChance to_people to_forkBits to_unsure to_tried to_triedFedBits tf_seatOf tf_one tf_other tf_kind tf_years tf_sawn tf_pairs tf_gone bd_unsurePair bd_unsureYears bd_triedPair bd_seats bd_slack bd_sawInches bd_quarrelChance bd_people bd_forkBits bd_unsure bd_tried bd_triedFedBits bf_seatOf bf_one bf_other bf_kind bf_years bf_sawn bf_pairs bf_gone nw_seatOf nw_one nw_other nw_kind nw_years nw_sawn nw_pairs nw_gone sc_seatOf sc_handle sc_both sc_slopOf sc_forkBits sc_canBits sc_bestBits sc_bestSlops sl_bits sl_count se_bestRow se_row se_pairAt se_hope se_hopeAt se_slopAt se_farBits se_gain se_worth se_bestWorth se_fresh ch_both ch_cost ch_bit ch_items ch_leastCost ch_leastBits cl_bits cl_count fi_sets fi_count ps_act ps_whom ps_amount ps_next ps_count i0_seatOf i0_one i0_other i0_kind i0_years i0_sawn i0_pairs i0_gone i1_seatOf i1_one i1_other i1_kind i1_years i1_sawn i1_pairs i1_gone i2_seatOf i2_one i2_other i2_kind i2_years i2_sawn i2_pairs i2_gone) H locs → lv_has ls 5 [(1, .int l1), (2, .int l2)] → f_X_rest_L26 l1 x_lastTrouble n l2 = some o → W p l e (xR 2 44) s m args below meth c H locs 0 0 (MQ below (xqI E A (wX E ad x_imageCount R0.2 x_lastFault x_lastPlace pa_names pa_faultNumber pa_faultPlace rd_tape rd_length rd_end rd_next rd_sort rd_start rd_value rd_word to_unsurePair to_unsureYears to_triedPair to_seats to_slack to_sawInches to_quarrelChance to_people to_forkBits to_unsure to_tried to_triedFedBits tf_seatOf tf_one tf_other tf_kind tf_years tf_sawn tf_pairs tf_gone bd_unsurePair bd_unsureYears bd_triedPair bd_seats bd_slack bd_sawInches bd_quarrelChance bd_people bd_forkBits bd_unsure bd_tried bd_triedFedBits bf_seatOf bf_one bf_other bf_kind bf_years bf_sawn bf_pairs bf_gone nw_seatOf nw_one nw_other nw_kind nw_years nw_sawn nw_pairs nw_gone sc_seatOf sc_handle sc_both sc_slopOf sc_forkBits sc_canBits sc_bestBits sc_bestSlops sl_bits sl_count se_bestRow se_row se_pairAt se_hope se_hopeAt se_slopAt se_farBits se_gain se_worth se_bestWorth se_fresh ch_both ch_cost ch_bit ch_items ch_leastCost ch_leastBits cl_bits cl_count fi_sets fi_count ps_act ps_whom ps_amount ps_next ps_count i0_seatOf i0_one i0_other i0_kind i0_years i0_sawn i0_pairs i0_gone i1_seatOf i1_one i1_other i1_kind i1_years i1_sawn i1_pairs i1_gone i2_seatOf i2_one i2_other i2_kind i2_years i2_sawn i2_pairs i2_gone) (some .int) R0.1) args s 0 0 A) (F0 m 26 ls []) := by
  have hx := C.1
  have hb := C.2.1
  intro n
  induction n with
  | zero =>
    intro l2 H locs ls G hl hf
    exact nomatch (show (none : Option ((Int32 × Int32) ⊕ (Unit))) = some o from hf)
  | succ n ih =>
    intro l2 H locs ls G hl hf
    rw [f_X_rest_L26] at hf
    refine lv_iload_n hx hb dX10_rest_26 rfl (lv_at hl 1 rfl) ?_
    refine lv_iconst (v := 4) hx hb dX10_rest_27 (by decide) ?_
    refine lv_icmp_ge (tgt := 82) hx hb dX10_rest_28 (by decide) (fun h => ?_) (fun h => ?_)
    · have hf := it_t h hf
      exact J _ (Option.some.inj hf).symm _ _ _ G (lv_sub hl [] rfl)
    · have hf := it_f h hf
      refine lv_iload_n hx hb dX10_rest_31 rfl (lv_at hl 1 rfl) ?_
      refine lv_iconst (v := 1) hx hb dX10_rest_32 (by decide) ?_
      obtain ⟨x3, hc, hf⟩ := bd_go hf
      refine xI_S C G (c_X_has_any hc) mX10_has kX10_257 ⟨Nat.le_of_ble_eq_true rfl, Nat.le_of_ble_eq_true rfl⟩ rfl hl.1 rfl (Nat.le_of_ble_eq_true rfl) ⟨Nat.le_refl _, Nat.le_refl _⟩ dX10_rest_33 (fun hz3 H locs G => ?_)
      refine lv_istore_n (lv' := [(3, .int x3), (1, .int l1), (2, .int l2)]) hx hb dX10_rest_36 rfl hl (by decide) rfl (fun ls hl => ?_)
      refine lv_iload_n hx hb dX10_rest_37 rfl (lv_at hl 2 rfl) ?_
      refine lv_iconst (v := 0) hx hb dX10_rest_38 (by decide) ?_
      obtain ⟨x4, hc, hf⟩ := bd_go hf
      refine xI_S C G (c_X_has_any hc) mX10_has kX10_257 ⟨Nat.le_of_ble_eq_true rfl, Nat.le_of_ble_eq_true rfl⟩ rfl hl.1 rfl (Nat.le_of_ble_eq_true rfl) ⟨Nat.le_refl _, Nat.le_refl _⟩ dX10_rest_39 (fun hz4 H locs G => ?_)
      refine lv_istore (lv' := [(4, .int x4), (3, .int x3), (1, .int l1), (2, .int l2)]) hx hb dX10_rest_42 hl (by decide) rfl (fun ls hl => ?_)
      refine lv_iload_n hx hb dX10_rest_44 rfl (lv_at hl 2 rfl) ?_
      refine lv_iload_n hx hb dX10_rest_45 rfl (lv_at hl 1 rfl) ?_
      refine lv_iload hx hb dX10_rest_46 (lv_at hl 0 rfl) ?_
      obtain ⟨x5, hc, hf⟩ := bd_go hf
      refine xI_S C G (c_X_isRest_any hc) mX10_isRest kX10_314 ⟨Nat.le_of_ble_eq_true rfl, Nat.le_of_ble_eq_true rfl⟩ rfl hl.1 rfl (Nat.le_of_ble_eq_true rfl) ⟨Nat.le_refl _, Nat.le_refl _⟩ dX10_rest_48 (fun hz5 H locs G => ?_)
      refine lv_if_eq (tgt := 76) hx hb dX10_rest_51 (by decide) (fun h => ?_) (fun h => ?_)
      · have hf := it_t h hf
        obtain ⟨x6, ex6⟩ : ∃ z : Int32, z = l2 + (1 : Int32) := ⟨_, rfl⟩
        have hf := lt_go ex6 hf
        refine lv_iinc (v := x6) (lv' := [(2, .int x6), (4, .int x4), (3, .int x3), (1, .int l1)]) hx hb dX10_rest_76 hl (k := 3) rfl (by rw [ex6]; rfl) (by decide) rfl (fun ls hl => ?_)
        refine lv_goto (tgt := 26) hx hb dX10_rest_79 (by decide) ?_
        exact ih x6 _ _ _ G (lv_sub hl [3, 0] rfl) hf
      · have hf := it_f h hf
        refine lv_iload_n hx hb dX10_rest_54 rfl (lv_at hl 1 rfl) ?_
        obtain ⟨x7, hrx7, hf⟩ := bd_go hf
        have Jx7 : ∀ (H : Heap) (locs : List Loc) (ls : Array Slot), xG s E A (wX E ad x_imageCount x_lastTrouble x_lastFault x_lastPlace pa_names pa_faultNumber pa_faultPlace rd_tape rd_length rd_end rd_next rd_sort rd_start rd_value rd_word to_unsurePair to_unsureYears to_triedPair to_seats to_slack to_sawInches to_quarrelChance to_people to_forkBits to_unsure to_tried to_triedFedBits tf_seatOf tf_one tf_other tf_kind tf_years tf_sawn tf_pairs tf_gone bd_unsurePair bd_unsureYears bd_triedPair bd_seats bd_slack bd_sawInches bd_quarrelChance bd_people bd_forkBits bd_unsure bd_tried bd_triedFedBits bf_seatOf bf_one bf_other bf_kind bf_years bf_sawn bf_pairs bf_gone nw_seatOf nw_one nw_other nw_kind nw_years nw_sawn nw_pairs nw_gone sc_seatOf sc_handle sc_both sc_slopOf sc_forkBits sc_canBits sc_bestBits sc_bestSlops sl_bits sl_count se_bestRow se_row se_pairAt se_hope se_hopeAt se_slopAt se_farBits se_gain se_worth se_bestWorth se_fresh ch_both ch_cost ch_bit ch_items ch_leastCost ch_leastBits cl_bits cl_count fi_sets fi_count ps_act ps_whom ps_amount ps_next ps_count i0_seatOf i0_one i0_other i0_kind i0_years i0_sawn i0_pairs i0_gone i1_seatOf i1_one i1_other i1_kind i1_years i1_sawn i1_pairs i1_gone i2_seatOf i2_one i2_other i2_kind i2_years i2_sawn i2_pairs i2_gone) H locs → lv_has ls 5 [(4, .int x4)] → W p l e (xR 2 44) s m args below meth c H locs 0 0 (MQ below (xqI E A (wX E ad x_imageCount R0.2 x_lastFault x_lastPlace pa_names pa_faultNumber pa_faultPlace rd_tape rd_length rd_end rd_next rd_sort rd_start rd_value rd_word to_unsurePair to_unsureYears to_triedPair to_seats to_slack to_sawInches to_quarrelChance to_people to_forkBits to_unsure to_tried to_triedFedBits tf_seatOf tf_one tf_other tf_kind tf_years tf_sawn tf_pairs tf_gone bd_unsurePair bd_unsureYears bd_triedPair bd_seats bd_slack bd_sawInches bd_quarrelChance bd_people bd_forkBits bd_unsure bd_tried bd_triedFedBits bf_seatOf bf_one bf_other bf_kind bf_years bf_sawn bf_pairs bf_gone nw_seatOf nw_one nw_other nw_kind nw_years nw_sawn nw_pairs nw_gone sc_seatOf sc_handle sc_both sc_slopOf sc_forkBits sc_canBits sc_bestBits sc_bestSlops sl_bits sl_count se_bestRow se_row se_pairAt se_hope se_hopeAt se_slopAt se_farBits se_gain se_worth se_bestWorth se_fresh ch_both ch_cost ch_bit ch_items ch_leastCost ch_leastBits cl_bits cl_count fi_sets fi_count ps_act ps_whom ps_amount ps_next ps_count i0_seatOf i0_one i0_other i0_kind i0_years i0_sawn i0_pairs i0_gone i1_seatOf i1_one i1_other i1_kind i1_years i1_sawn i1_pairs i1_gone i2_seatOf i2_one i2_other i2_kind i2_years i2_sawn i2_pairs i2_gone) (some .int) R0.1) args s 0 0 A) (F0 m 64 ls [.int x7]) := by
          intro H locs ls G hl
          refine lv_iload hx hb dX10_rest_64 (lv_at hl 0 rfl) ?_
          refine lv_if_eq (tgt := 73) hx hb dX10_rest_66 (by decide) (fun h => ?_) (fun h => ?_)
          · have hf := it_t h hf
            refine lv_iconst (v := 0) hx hb dX10_rest_73 (by decide) ?_
            refine lv_iadd hx hb dX10_rest_74 ?_
            obtain rfl := Jr _ (Option.some.inj hf).symm
            exact xI_ret C G rfl dX10_rest_75
          · have hf := it_f h hf
            refine lv_iconst (v := 1) hx hb dX10_rest_69 (by decide) ?_
            refine lv_goto (tgt := 74) hx hb dX10_rest_70 (by decide) ?_
            refine lv_iadd hx hb dX10_rest_74 ?_
            obtain rfl := Jr _ (Option.some.inj hf).symm
            exact xI_ret C G rfl dX10_rest_75
        have hf := hrx7
        refine lv_if_eq (tgt := 63) hx hb dX10_rest_55 (by decide) (fun h => ?_) (fun h => ?_)
        · have hf := it_t h hf
          refine lv_iconst (v := 0) hx hb dX10_rest_63 (by decide) ?_
          obtain rfl := Option.some.inj hf
          exact Jx7 _ _ _ G (lv_sub hl [0] rfl)
        · have hf := it_f h hf
          refine lv_bipush (v := 10) hx hb dX10_rest_58 (by decide) ?_
          refine lv_goto (tgt := 64) hx hb dX10_rest_60 (by decide) ?_
          obtain rfl := Option.some.inj hf
          exact Jx7 _ _ _ G (lv_sub hl [0] rfl)
set_option maxHeartbeats 4000000 in
set_option maxRecDepth 100000 in
theorem c_X_rest_x {l : Launch} {E : xE} {ad : Nat → Nat} {x_imageCount x_lastTrouble x_lastFault x_lastPlace pa_faultNumber pa_faultPlace rd_length rd_end rd_next rd_sort rd_start rd_value to_seats to_slack to_sawInches to_quarrelChance to_people to_forkBits to_unsure to_tried to_triedFedBits tf_pairs tf_gone bd_seats bd_slack bd_sawInches bd_quarrelChance bd_people bd_forkBits bd_unsure bd_tried bd_triedFedBits bf_pairs bf_gone nw_pairs nw_gone sc_forkBits sc_canBits sc_bestBits sc_bestSlops sl_count se_bestWorth se_fresh ch_items ch_leastCost ch_leastBits cl_count fi_count ps_next ps_count i0_pairs i0_gone i1_pairs i1_gone i2_pairs i2_gone : Int32} {pa_names : Nat → Int64} {rd_tape to_unsurePair to_unsureYears to_triedPair tf_seatOf tf_one tf_other tf_kind tf_years tf_sawn bd_unsurePair bd_unsureYears bd_triedPair bf_seatOf bf_one bf_other bf_kind bf_years bf_sawn nw_seatOf nw_one nw_other nw_kind nw_years nw_sawn sc_seatOf sc_handle sc_both sc_slopOf sl_bits se_bestRow se_row se_pairAt se_hope se_hopeAt se_slopAt se_farBits se_gain se_worth ch_both ch_cost ch_bit cl_bits fi_sets ps_act ps_whom ps_amount i0_seatOf i0_one i0_other i0_kind i0_years i0_sawn i1_seatOf i1_one i1_other i1_kind i1_years i1_sawn i2_seatOf i2_one i2_other i2_kind i2_years i2_sawn : Nat → Int32} {rd_word : Int64} {l1 : Int32} {R0 : Int32 × Int32} (hf : f_X_rest l1 bd_people = some R0) : xI l E yX10_rest cX10_rest 5 (some .int) 2 44 [.ref (ad 0), .int l1] (wX E ad x_imageCount x_lastTrouble x_lastFault x_lastPlace pa_names pa_faultNumber pa_faultPlace rd_tape rd_length rd_end rd_next rd_sort rd_start rd_value rd_word to_unsurePair to_unsureYears to_triedPair to_seats to_slack to_sawInches to_quarrelChance to_people to_forkBits to_unsure to_tried to_triedFedBits tf_seatOf tf_one tf_other tf_kind tf_years tf_sawn tf_pairs tf_gone bd_unsurePair bd_unsureYears bd_triedPair bd_seats bd_slack bd_sawInches bd_quarrelChance bd_people bd_forkBits bd_unsure bd_tried bd_triedFedBits bf_seatOf bf_one bf_other bf_kind bf_years bf_sawn bf_pairs bf_gone nw_seatOf nw_one nw_other nw_kind nw_years nw_sawn nw_pairs nw_gone sc_seatOf sc_handle sc_both sc_slopOf sc_forkBits sc_canBits sc_bestBits sc_bestSlops sl_bits sl_count se_bestRow se_row se_pairAt se_hope se_hopeAt se_slopAt se_farBits se_gain se_worth se_bestWorth se_fresh ch_both ch_cost ch_bit ch_items ch_leastCost ch_leastBits cl_bits cl_count fi_sets fi_count ps_act ps_whom ps_amount ps_next ps_count i0_seatOf i0_one i0_other i0_kind i0_years i0_sawn i0_pairs i0_gone i1_seatOf i1_one i1_other i1_kind i1_years i1_sawn i1_pairs i1_gone i2_seatOf i2_one i2_other i2_kind i2_years i2_sawn i2_pairs i2_gone) (wX E ad x_imageCount R0.2 x_lastFault x_lastPlace pa_names pa_faultNumber pa_faultPlace rd_tape rd_length rd_end rd_next rd_sort rd_start rd_value rd_word to_unsurePair to_unsureYears to_triedPair to_seats to_slack to_sawInches to_quarrelChance to_people to_forkBits to_unsure to_tried to_triedFedBits tf_seatOf tf_one tf_other tf_kind tf_years tf_sawn tf_pairs tf_gone bd_unsurePair bd_unsureYears bd_triedPair bd_seats bd_slack bd_sawInches bd_quarrelChance bd_people bd_forkBits bd_unsure bd_tried bd_triedFedBits bf_seatOf bf_one bf_other bf_kind bf_years bf_sawn bf_pairs bf_gone nw_seatOf nw_one nw_other nw_kind nw_years nw_sawn nw_pairs nw_gone sc_seatOf sc_handle sc_both sc_slopOf sc_forkBits sc_canBits sc_bestBits sc_bestSlops sl_bits sl_count se_bestRow se_row se_pairAt se_hope se_hopeAt se_slopAt se_farBits se_gain se_worth se_bestWorth se_fresh ch_both ch_cost ch_bit ch_items ch_leastCost ch_leastBits cl_bits cl_count fi_sets fi_count ps_act ps_whom ps_amount ps_next ps_count i0_seatOf i0_one i0_other i0_kind i0_years i0_sawn i0_pairs i0_gone i1_seatOf i1_one i1_other i1_kind i1_years i1_sawn i1_pairs i1_gone i2_seatOf i2_one i2_other i2_kind i2_years i2_sawn i2_pairs i2_gone) R0.1 := by
  refine xI_of (by decide) (Nat.le_of_ble_eq_true rfl) (fun p e s m args below meth c A C ls hl G => ?_)
  have hx := C.1
  have hb := C.2.1
  have hl : lv_has ls 5 [(0, .ref (ad 0)), (1, .int l1)] := hl
  unfold f_X_rest at hf
  refine lv_aload_n hx hb dX10_rest_0 rfl (lv_at hl 0 rfl) ?_
  obtain ⟨x1, hc, hf⟩ := bd_go hf
  refine xI_V C G (c_X_noTable_x hc) mX10_noTable kX10_187 (wX_at0) rfl ⟨Nat.le_of_ble_eq_true rfl, Nat.le_of_ble_eq_true rfl⟩ rfl hl.1 rfl (Nat.le_of_ble_eq_true rfl) ⟨Nat.le_refl _, Nat.le_refl _⟩ dX10_rest_1 (fun hz1 H locs G => ?_)
  refine lv_if_eq (tgt := 9) hx hb dX10_rest_4 (by decide) (fun h => ?_) (fun h => ?_)
  · have hf := it_t h hf
    refine lv_iload_n hx hb dX10_rest_9 rfl (lv_at hl 1 rfl) ?_
    refine lv_bipush (v := 9) hx hb dX10_rest_10 (by decide) ?_
    obtain ⟨x2, hc, hf⟩ := bd_go hf
    refine xI_S C G (c_X_within_any hc) mX10_within kX10_216 ⟨Nat.le_of_ble_eq_true rfl, Nat.le_of_ble_eq_true rfl⟩ rfl hl.1 rfl (Nat.le_of_ble_eq_true rfl) ⟨Nat.le_refl _, Nat.le_refl _⟩ dX10_rest_12 (fun hz2 H locs G => ?_)
    refine lv_if_ne (tgt := 24) hx hb dX10_rest_15 (by decide) (fun h => ?_) (fun h => ?_)
    · have hf := it_f h hf
      refine lv_iconst (v := 0) hx hb dX10_rest_24 (by decide) ?_
      refine lv_istore_n (lv' := [(2, .int (0 : Int32)), (0, .ref (ad 0)), (1, .int l1)]) hx hb dX10_rest_25 rfl hl (by decide) rfl (fun ls hl => ?_)
      obtain ⟨ox8, hr, hf⟩ := bd_go hf
      have Jx8 : ∀ x8, ox8 = .inr x8 → ∀ (H : Heap) (locs : List Loc) (ls : Array Slot), xG s E A (wX E ad x_imageCount x1.2 x_lastFault x_lastPlace pa_names pa_faultNumber pa_faultPlace rd_tape rd_length rd_end rd_next rd_sort rd_start rd_value rd_word to_unsurePair to_unsureYears to_triedPair to_seats to_slack to_sawInches to_quarrelChance to_people to_forkBits to_unsure to_tried to_triedFedBits tf_seatOf tf_one tf_other tf_kind tf_years tf_sawn tf_pairs tf_gone bd_unsurePair bd_unsureYears bd_triedPair bd_seats bd_slack bd_sawInches bd_quarrelChance bd_people bd_forkBits bd_unsure bd_tried bd_triedFedBits bf_seatOf bf_one bf_other bf_kind bf_years bf_sawn bf_pairs bf_gone nw_seatOf nw_one nw_other nw_kind nw_years nw_sawn nw_pairs nw_gone sc_seatOf sc_handle sc_both sc_slopOf sc_forkBits sc_canBits sc_bestBits sc_bestSlops sl_bits sl_count se_bestRow se_row se_pairAt se_hope se_hopeAt se_slopAt se_farBits se_gain se_worth se_bestWorth se_fresh ch_both ch_cost ch_bit ch_items ch_leastCost ch_leastBits cl_bits cl_count fi_sets fi_count ps_act ps_whom ps_amount ps_next ps_count i0_seatOf i0_one i0_other i0_kind i0_years i0_sawn i0_pairs i0_gone i1_seatOf i1_one i1_other i1_kind i1_years i1_sawn i1_pairs i1_gone i2_seatOf i2_one i2_other i2_kind i2_years i2_sawn i2_pairs i2_gone) H locs → lv_has ls 5 [] → W p l e (xR 2 44) s m args below meth c H locs 0 0 (MQ below (xqI E A (wX E ad x_imageCount R0.2 x_lastFault x_lastPlace pa_names pa_faultNumber pa_faultPlace rd_tape rd_length rd_end rd_next rd_sort rd_start rd_value rd_word to_unsurePair to_unsureYears to_triedPair to_seats to_slack to_sawInches to_quarrelChance to_people to_forkBits to_unsure to_tried to_triedFedBits tf_seatOf tf_one tf_other tf_kind tf_years tf_sawn tf_pairs tf_gone bd_unsurePair bd_unsureYears bd_triedPair bd_seats bd_slack bd_sawInches bd_quarrelChance bd_people bd_forkBits bd_unsure bd_tried bd_triedFedBits bf_seatOf bf_one bf_other bf_kind bf_years bf_sawn bf_pairs bf_gone nw_seatOf nw_one nw_other nw_kind nw_years nw_sawn nw_pairs nw_gone sc_seatOf sc_handle sc_both sc_slopOf sc_forkBits sc_canBits sc_bestBits sc_bestSlops sl_bits sl_count se_bestRow se_row se_pairAt se_hope se_hopeAt se_slopAt se_farBits se_gain se_worth se_bestWorth se_fresh ch_both ch_cost ch_bit ch_items ch_leastCost ch_leastBits cl_bits cl_count fi_sets fi_count ps_act ps_whom ps_amount ps_next ps_count i0_seatOf i0_one i0_other i0_kind i0_years i0_sawn i0_pairs i0_gone i1_seatOf i1_one i1_other i1_kind i1_years i1_sawn i1_pairs i1_gone i2_seatOf i2_one i2_other i2_kind i2_years i2_sawn i2_pairs i2_gone) (some .int) R0.1) args s 0 0 A) (F0 m 82 ls []) := by
        intro x8 hq H locs ls G hl
        subst hq
        have hf := sm_r hf
        refine lv_bipush (v := -2) hx hb dX10_rest_82 (by decide) ?_
        obtain rfl := Option.some.inj hf
        exact xI_ret C G rfl dX10_rest_84
      have Jrx8 : ∀ r, ox8 = .inl r → r = R0 := by
        intro r hq
        subst hq
        exact Option.some.inj hf
      exact w_X_rest_x_L26 C Jrx8 Jx8 fu _ _ _ _ G (lv_sub hl [2, 0] rfl) hr
    · have hf := it_t h hf
      refine lv_aload_n hx hb dX10_rest_18 rfl (lv_at hl 0 rfl) ?_
      refine lv_iconst (v := 2) hx hb dX10_rest_19 (by decide) ?_
      obtain ⟨x9, hc, hf⟩ := bd_go hf
      refine xI_V C G (c_X_refused_x hc) mX10_refused kX10_87 (wX_at0) rfl ⟨Nat.le_of_ble_eq_true rfl, Nat.le_of_ble_eq_true rfl⟩ rfl hl.1 rfl (Nat.le_of_ble_eq_true rfl) ⟨Nat.le_refl _, Nat.le_refl _⟩ dX10_rest_20 (fun hz H locs G => ?_)
      obtain rfl := Option.some.inj hf
      exact xI_ret C G rfl dX10_rest_23
  · have hf := it_f h hf
    refine lv_iconst (v := -1) hx hb dX10_rest_7 (by decide) ?_
    obtain rfl := Option.some.inj hf
    exact xI_ret C G rfl dX10_rest_8
set_option maxHeartbeats 4000000 in
set_option maxRecDepth 100000 in
theorem c_X_expected_x {l : Launch} {E : xE} {ad : Nat → Nat} : ∀ (n : Nat), ∀ {x_imageCount x_lastTrouble x_lastFault x_lastPlace pa_faultNumber pa_faultPlace rd_length rd_end rd_next rd_sort rd_start rd_value to_seats to_slack to_sawInches to_quarrelChance to_people to_forkBits to_unsure to_tried to_triedFedBits tf_pairs tf_gone bd_seats bd_slack bd_sawInches bd_quarrelChance bd_people bd_forkBits bd_unsure bd_tried bd_triedFedBits bf_pairs bf_gone nw_pairs nw_gone sc_forkBits sc_canBits sc_bestBits sc_bestSlops sl_count se_bestWorth se_fresh ch_items ch_leastCost ch_leastBits cl_count fi_count ps_next ps_count i0_pairs i0_gone i1_pairs i1_gone i2_pairs i2_gone : Int32} {pa_names : Nat → Int64} {rd_tape to_unsurePair to_unsureYears to_triedPair tf_seatOf tf_one tf_other tf_kind tf_years tf_sawn bd_unsurePair bd_unsureYears bd_triedPair bf_seatOf bf_one bf_other bf_kind bf_years bf_sawn nw_seatOf nw_one nw_other nw_kind nw_years nw_sawn sc_seatOf sc_handle sc_both sc_slopOf sl_bits se_bestRow se_row se_pairAt se_hope se_hopeAt se_slopAt se_farBits se_gain se_worth ch_both ch_cost ch_bit cl_bits fi_sets ps_act ps_whom ps_amount i0_seatOf i0_one i0_other i0_kind i0_years i0_sawn i1_seatOf i1_one i1_other i1_kind i1_years i1_sawn i2_seatOf i2_one i2_other i2_kind i2_years i2_sawn : Nat → Int32} {rd_word : Int64} {l1 : Int32} {l2 : Int32} {l3 : Int32} {l4 : Int32} {R0 : Int64}, f_X_expected n l1 l2 l3 l4 bd_slack bd_sawInches bd_quarrelChance nw_seatOf nw_one nw_other nw_kind = some R0 → xL l E yX10_expected cX10_expected 9 (some .long) (n + 2) (n * 28 + 44) [.ref (ad 0), .int l1, .int l2, .int l3, .int l4] (wX E ad x_imageCount x_lastTrouble x_lastFault x_lastPlace pa_names pa_faultNumber pa_faultPlace rd_tape rd_length rd_end rd_next rd_sort rd_start rd_value rd_word to_unsurePair to_unsureYears to_triedPair to_seats to_slack to_sawInches to_quarrelChance to_people to_forkBits to_unsure to_tried to_triedFedBits tf_seatOf tf_one tf_other tf_kind tf_years tf_sawn tf_pairs tf_gone bd_unsurePair bd_unsureYears bd_triedPair bd_seats bd_slack bd_sawInches bd_quarrelChance bd_people bd_forkBits bd_unsure bd_tried bd_triedFedBits bf_seatOf bf_one bf_other bf_kind bf_years bf_sawn bf_pairs bf_gone nw_seatOf nw_one nw_other nw_kind nw_years nw_sawn nw_pairs nw_gone sc_seatOf sc_handle sc_both sc_slopOf sc_forkBits sc_canBits sc_bestBits sc_bestSlops sl_bits sl_count se_bestRow se_row se_pairAt se_hope se_hopeAt se_slopAt se_farBits se_gain se_worth se_bestWorth se_fresh ch_both ch_cost ch_bit ch_items ch_leastCost ch_leastBits cl_bits cl_count fi_sets fi_count ps_act ps_whom ps_amount ps_next ps_count i0_seatOf i0_one i0_other i0_kind i0_years i0_sawn i0_pairs i0_gone i1_seatOf i1_one i1_other i1_kind i1_years i1_sawn i1_pairs i1_gone i2_seatOf i2_one i2_other i2_kind i2_years i2_sawn i2_pairs i2_gone) (wX E ad x_imageCount x_lastTrouble x_lastFault x_lastPlace pa_names pa_faultNumber pa_faultPlace rd_tape rd_length rd_end rd_next rd_sort rd_start rd_value rd_word to_unsurePair to_unsureYears to_triedPair to_seats to_slack to_sawInches to_quarrelChance to_people to_forkBits to_unsure to_tried to_triedFedBits tf_seatOf tf_one tf_other tf_kind tf_years tf_sawn tf_pairs tf_gone bd_unsurePair bd_unsureYears bd_triedPair bd_seats bd_slack bd_sawInches bd_quarrelChance bd_people bd_forkBits bd_unsure bd_tried bd_triedFedBits bf_seatOf bf_one bf_other bf_kind bf_years bf_sawn bf_pairs bf_gone nw_seatOf nw_one nw_other nw_kind nw_years nw_sawn nw_pairs nw_gone sc_seatOf sc_handle sc_both sc_slopOf sc_forkBits sc_canBits sc_bestBits sc_bestSlops sl_bits sl_count se_bestRow se_row se_pairAt se_hope se_hopeAt se_slopAt se_farBits se_gain se_worth se_bestWorth se_fresh ch_both ch_cost ch_bit ch_items ch_leastCost ch_leastBits cl_bits cl_count fi_sets fi_count ps_act ps_whom ps_amount ps_next ps_count i0_seatOf i0_one i0_other i0_kind i0_years i0_sawn i0_pairs i0_gone i1_seatOf i1_one i1_other i1_kind i1_years i1_sawn i1_pairs i1_gone i2_seatOf i2_one i2_other i2_kind i2_years i2_sawn i2_pairs i2_gone) R0 := by
  intro n
  induction n with
  | zero =>
    intro x_imageCount x_lastTrouble x_lastFault x_lastPlace pa_faultNumber pa_faultPlace rd_length rd_end rd_next rd_sort rd_start rd_value to_seats to_slack to_sawInches to_quarrelChance to_people to_forkBits to_unsure to_tried to_triedFedBits tf_pairs tf_gone bd_seats bd_slack bd_sawInches bd_quarrelChance bd_people bd_forkBits bd_unsure bd_tried bd_triedFedBits bf_pairs bf_gone nw_pairs nw_gone sc_forkBits sc_canBits sc_bestBits sc_bestSlops sl_count se_bestWorth se_fresh ch_items ch_leastCost ch_leastBits cl_count fi_count ps_next ps_count i0_pairs i0_gone i1_pairs i1_gone i2_pairs i2_gone pa_names rd_tape to_unsurePair to_unsureYears to_triedPair tf_seatOf tf_one tf_other tf_kind tf_years tf_sawn bd_unsurePair bd_unsureYears bd_triedPair bf_seatOf bf_one bf_other bf_kind bf_years bf_sawn nw_seatOf nw_one nw_other nw_kind nw_years nw_sawn sc_seatOf sc_handle sc_both sc_slopOf sl_bits se_bestRow se_row se_pairAt se_hope se_hopeAt se_slopAt se_farBits se_gain se_worth ch_both ch_cost ch_bit cl_bits fi_sets ps_act ps_whom ps_amount i0_seatOf i0_one i0_other i0_kind i0_years i0_sawn i1_seatOf i1_one i1_other i1_kind i1_years i1_sawn i2_seatOf i2_one i2_other i2_kind i2_years i2_sawn rd_word l1 l2 l3 l4 R0 hf
    exact nomatch (show (none : Option (Int64)) = some R0 from hf)
  | succ n0 ih =>
    intro x_imageCount x_lastTrouble x_lastFault x_lastPlace pa_faultNumber pa_faultPlace rd_length rd_end rd_next rd_sort rd_start rd_value to_seats to_slack to_sawInches to_quarrelChance to_people to_forkBits to_unsure to_tried to_triedFedBits tf_pairs tf_gone bd_seats bd_slack bd_sawInches bd_quarrelChance bd_people bd_forkBits bd_unsure bd_tried bd_triedFedBits bf_pairs bf_gone nw_pairs nw_gone sc_forkBits sc_canBits sc_bestBits sc_bestSlops sl_count se_bestWorth se_fresh ch_items ch_leastCost ch_leastBits cl_count fi_count ps_next ps_count i0_pairs i0_gone i1_pairs i1_gone i2_pairs i2_gone pa_names rd_tape to_unsurePair to_unsureYears to_triedPair tf_seatOf tf_one tf_other tf_kind tf_years tf_sawn bd_unsurePair bd_unsureYears bd_triedPair bf_seatOf bf_one bf_other bf_kind bf_years bf_sawn nw_seatOf nw_one nw_other nw_kind nw_years nw_sawn sc_seatOf sc_handle sc_both sc_slopOf sl_bits se_bestRow se_row se_pairAt se_hope se_hopeAt se_slopAt se_farBits se_gain se_worth ch_both ch_cost ch_bit cl_bits fi_sets ps_act ps_whom ps_amount i0_seatOf i0_one i0_other i0_kind i0_years i0_sawn i1_seatOf i1_one i1_other i1_kind i1_years i1_sawn i2_seatOf i2_one i2_other i2_kind i2_years i2_sawn rd_word l1 l2 l3 l4 R0 hf
    refine xL_of (by decide) (Nat.le_of_ble_eq_true rfl) (fun p e s m args below meth c A C ls hl G => ?_)
    have hx := C.1
    have hb := C.2.1
    have hl : lv_has ls 9 [(0, .ref (ad 0)), (1, .int l1), (2, .int l2), (3, .int l3), (4, .int l4)] := hl
    rw [f_X_expected] at hf
    refine lv_iload_n hx hb dX10_expected_0 rfl (lv_at hl 3 rfl) ?_
    refine lv_if_gt (tgt := 49) hx hb dX10_expected_1 (by decide) (fun h => ?_) (fun h => ?_)
    · have hf := it_t h hf
      refine lv_aload_n hx hb dX10_expected_49 rfl (lv_at hl 0 rfl) ?_
      refine x_get C G fX10_26 (wX_at0) rfl dX10_expected_50 ?_
      refine x_get C G fX10_157 (wX_at28) rfl dX10_expected_53 ?_
      refine lv_iload_n hx hb dX10_expected_56 rfl (lv_at hl 1 rfl) ?_
      have hi := ck_in hf
      have hf := ck_go hf
      refine x_iald C G (wX_at32) hi dX10_expected_57 ?_
      refine lv_iconst (v := 2) hx hb dX10_expected_58 (by decide) ?_
      obtain ⟨x1, hrx1, hf⟩ := bd_go hf
      have Jx1 : ∀ (H : Heap) (locs : List Loc) (ls : Array Slot), xG s E A (wX E ad x_imageCount x_lastTrouble x_lastFault x_lastPlace pa_names pa_faultNumber pa_faultPlace rd_tape rd_length rd_end rd_next rd_sort rd_start rd_value rd_word to_unsurePair to_unsureYears to_triedPair to_seats to_slack to_sawInches to_quarrelChance to_people to_forkBits to_unsure to_tried to_triedFedBits tf_seatOf tf_one tf_other tf_kind tf_years tf_sawn tf_pairs tf_gone bd_unsurePair bd_unsureYears bd_triedPair bd_seats bd_slack bd_sawInches bd_quarrelChance bd_people bd_forkBits bd_unsure bd_tried bd_triedFedBits bf_seatOf bf_one bf_other bf_kind bf_years bf_sawn bf_pairs bf_gone nw_seatOf nw_one nw_other nw_kind nw_years nw_sawn nw_pairs nw_gone sc_seatOf sc_handle sc_both sc_slopOf sc_forkBits sc_canBits sc_bestBits sc_bestSlops sl_bits sl_count se_bestRow se_row se_pairAt se_hope se_hopeAt se_slopAt se_farBits se_gain se_worth se_bestWorth se_fresh ch_both ch_cost ch_bit ch_items ch_leastCost ch_leastBits cl_bits cl_count fi_sets fi_count ps_act ps_whom ps_amount ps_next ps_count i0_seatOf i0_one i0_other i0_kind i0_years i0_sawn i0_pairs i0_gone i1_seatOf i1_one i1_other i1_kind i1_years i1_sawn i1_pairs i1_gone i2_seatOf i2_one i2_other i2_kind i2_years i2_sawn i2_pairs i2_gone) H locs → lv_has ls 9 [(0, .ref (ad 0)), (1, .int l1), (2, .int l2), (3, .int l3), (4, .int l4)] → W p l e (xR (n0 + 1 + 2) ((n0 + 1) * 28 + 44)) s m args below meth c H locs 0 0 (MQ below (xqL E A (wX E ad x_imageCount x_lastTrouble x_lastFault x_lastPlace pa_names pa_faultNumber pa_faultPlace rd_tape rd_length rd_end rd_next rd_sort rd_start rd_value rd_word to_unsurePair to_unsureYears to_triedPair to_seats to_slack to_sawInches to_quarrelChance to_people to_forkBits to_unsure to_tried to_triedFedBits tf_seatOf tf_one tf_other tf_kind tf_years tf_sawn tf_pairs tf_gone bd_unsurePair bd_unsureYears bd_triedPair bd_seats bd_slack bd_sawInches bd_quarrelChance bd_people bd_forkBits bd_unsure bd_tried bd_triedFedBits bf_seatOf bf_one bf_other bf_kind bf_years bf_sawn bf_pairs bf_gone nw_seatOf nw_one nw_other nw_kind nw_years nw_sawn nw_pairs nw_gone sc_seatOf sc_handle sc_both sc_slopOf sc_forkBits sc_canBits sc_bestBits sc_bestSlops sl_bits sl_count se_bestRow se_row se_pairAt se_hope se_hopeAt se_slopAt se_farBits se_gain se_worth se_bestWorth se_fresh ch_both ch_cost ch_bit ch_items ch_leastCost ch_leastBits cl_bits cl_count fi_sets fi_count ps_act ps_whom ps_amount ps_next ps_count i0_seatOf i0_one i0_other i0_kind i0_years i0_sawn i0_pairs i0_gone i1_seatOf i1_one i1_other i1_kind i1_years i1_sawn i1_pairs i1_gone i2_seatOf i2_one i2_other i2_kind i2_years i2_sawn i2_pairs i2_gone) R0) args s 0 0 A) (F0 m 69 ls [.int x1]) := by
        intro H locs ls G hl
        refine lv_istore (lv' := [(5, .int x1), (0, .ref (ad 0)), (1, .int l1), (2, .int l2), (3, .int l3), (4, .int l4)]) hx hb dX10_expected_69 hl (by decide) rfl (fun ls hl => ?_)
        refine lv_aload_n hx hb dX10_expected_71 rfl (lv_at hl 1 rfl) ?_
        refine x_get C G fX10_26 (wX_at0) rfl dX10_expected_72 ?_
        refine x_get C G fX10_157 (wX_at28) rfl dX10_expected_75 ?_
        refine lv_iload_n hx hb dX10_expected_78 rfl (lv_at hl 2 rfl) ?_
        have hi := ck_in hf
        have hf := ck_go hf
        refine x_iald C G (wX_at32) hi dX10_expected_79 ?_
        refine lv_iconst (v := 2) hx hb dX10_expected_80 (by decide) ?_
        obtain ⟨x2, hrx2, hf⟩ := bd_go hf
        have Jx2 : ∀ (H : Heap) (locs : List Loc) (ls : Array Slot), xG s E A (wX E ad x_imageCount x_lastTrouble x_lastFault x_lastPlace pa_names pa_faultNumber pa_faultPlace rd_tape rd_length rd_end rd_next rd_sort rd_start rd_value rd_word to_unsurePair to_unsureYears to_triedPair to_seats to_slack to_sawInches to_quarrelChance to_people to_forkBits to_unsure to_tried to_triedFedBits tf_seatOf tf_one tf_other tf_kind tf_years tf_sawn tf_pairs tf_gone bd_unsurePair bd_unsureYears bd_triedPair bd_seats bd_slack bd_sawInches bd_quarrelChance bd_people bd_forkBits bd_unsure bd_tried bd_triedFedBits bf_seatOf bf_one bf_other bf_kind bf_years bf_sawn bf_pairs bf_gone nw_seatOf nw_one nw_other nw_kind nw_years nw_sawn nw_pairs nw_gone sc_seatOf sc_handle sc_both sc_slopOf sc_forkBits sc_canBits sc_bestBits sc_bestSlops sl_bits sl_count se_bestRow se_row se_pairAt se_hope se_hopeAt se_slopAt se_farBits se_gain se_worth se_bestWorth se_fresh ch_both ch_cost ch_bit ch_items ch_leastCost ch_leastBits cl_bits cl_count fi_sets fi_count ps_act ps_whom ps_amount ps_next ps_count i0_seatOf i0_one i0_other i0_kind i0_years i0_sawn i0_pairs i0_gone i1_seatOf i1_one i1_other i1_kind i1_years i1_sawn i1_pairs i1_gone i2_seatOf i2_one i2_other i2_kind i2_years i2_sawn i2_pairs i2_gone) H locs → lv_has ls 9 [(0, .ref (ad 0)), (1, .int l1), (3, .int l3), (4, .int l4), (5, .int x1)] → W p l e (xR (n0 + 1 + 2) ((n0 + 1) * 28 + 44)) s m args below meth c H locs 0 0 (MQ below (xqL E A (wX E ad x_imageCount x_lastTrouble x_lastFault x_lastPlace pa_names pa_faultNumber pa_faultPlace rd_tape rd_length rd_end rd_next rd_sort rd_start rd_value rd_word to_unsurePair to_unsureYears to_triedPair to_seats to_slack to_sawInches to_quarrelChance to_people to_forkBits to_unsure to_tried to_triedFedBits tf_seatOf tf_one tf_other tf_kind tf_years tf_sawn tf_pairs tf_gone bd_unsurePair bd_unsureYears bd_triedPair bd_seats bd_slack bd_sawInches bd_quarrelChance bd_people bd_forkBits bd_unsure bd_tried bd_triedFedBits bf_seatOf bf_one bf_other bf_kind bf_years bf_sawn bf_pairs bf_gone nw_seatOf nw_one nw_other nw_kind nw_years nw_sawn nw_pairs nw_gone sc_seatOf sc_handle sc_both sc_slopOf sc_forkBits sc_canBits sc_bestBits sc_bestSlops sl_bits sl_count se_bestRow se_row se_pairAt se_hope se_hopeAt se_slopAt se_farBits se_gain se_worth se_bestWorth se_fresh ch_both ch_cost ch_bit ch_items ch_leastCost ch_leastBits cl_bits cl_count fi_sets fi_count ps_act ps_whom ps_amount ps_next ps_count i0_seatOf i0_one i0_other i0_kind i0_years i0_sawn i0_pairs i0_gone i1_seatOf i1_one i1_other i1_kind i1_years i1_sawn i1_pairs i1_gone i2_seatOf i2_one i2_other i2_kind i2_years i2_sawn i2_pairs i2_gone) R0) args s 0 0 A) (F0 m 103 ls [.int x2]) := by
          intro H locs ls G hl
          refine lv_istore (lv' := [(6, .int x2), (0, .ref (ad 0)), (1, .int l1), (3, .int l3), (4, .int l4), (5, .int x1)]) hx hb dX10_expected_103 hl (by decide) rfl (fun ls hl => ?_)
          refine lv_aload_n hx hb dX10_expected_105 rfl (lv_at hl 1 rfl) ?_
          refine x_get C G fX10_22 (wX_at0) rfl dX10_expected_106 ?_
          refine x_get C G fX10_373.g (wX_at17) rfl dX10_expected_109 ?_
          refine lv_i2l hx hb dX10_expected_112 rfl ?_
          refine lv_lstore (lv' := [(7, .long bd_quarrelChance.toInt64), (6, .int x2), (0, .ref (ad 0)), (1, .int l1), (3, .int l3), (4, .int l4), (5, .int x1)]) hx hb dX10_expected_113 hl (by decide) rfl (fun ls hl => ?_)
          refine lv_lload hx hb dX10_expected_115 (lv_at hl 0 rfl) ?_
          refine lv_aload_n hx hb dX10_expected_117 rfl (lv_at hl 2 rfl) ?_
          refine lv_iload_n hx hb dX10_expected_118 rfl (lv_at hl 3 rfl) ?_
          refine lv_iload hx hb dX10_expected_119 (lv_at hl 1 rfl) ?_
          refine lv_iload_n hx hb dX10_expected_121 rfl (lv_at hl 4 rfl) ?_
          refine lv_iconst (v := 1) hx hb dX10_expected_122 (by decide) ?_
          refine lv_isub hx hb dX10_expected_123 ?_
          refine lv_iload hx hb dX10_expected_124 (lv_at hl 5 rfl) ?_
          obtain ⟨x3, hc, hf⟩ := bd_go hf
          refine xL_V C G (ih hc) mX10_expected kX10_320 (wX_at0) rfl ⟨by show _ ≤ n0 + 1 + 2; omega, by show _ ≤ (n0 + 1) * 28 + 44; omega⟩ rfl hl.1 rfl (Nat.le_of_ble_eq_true rfl) ⟨Nat.le_refl _, Nat.le_refl _⟩ dX10_expected_126 (fun H locs G => ?_)
          refine lv_lmul hx hb dX10_expected_129 ?_
          refine lv_ldc2 hx hb C.2.2.2.1 (C.2.2.2.2.1 _ qX10_419) dX10_expected_130 ?_
          refine lv_lload hx hb dX10_expected_133 (lv_at hl 0 rfl) ?_
          refine lv_lsub hx hb dX10_expected_135 ?_
          refine lv_aload_n hx hb dX10_expected_136 rfl (lv_at hl 2 rfl) ?_
          refine lv_iload_n hx hb dX10_expected_137 rfl (lv_at hl 3 rfl) ?_
          refine lv_iload hx hb dX10_expected_138 (lv_at hl 6 rfl) ?_
          refine lv_iload_n hx hb dX10_expected_140 rfl (lv_at hl 4 rfl) ?_
          refine lv_iconst (v := 1) hx hb dX10_expected_141 (by decide) ?_
          refine lv_isub hx hb dX10_expected_142 ?_
          refine lv_iload hx hb dX10_expected_143 (lv_at hl 5 rfl) ?_
          obtain ⟨x4, hc, hf⟩ := bd_go hf
          refine xL_V C G (ih hc) mX10_expected kX10_320 (wX_at0) rfl ⟨by show _ ≤ n0 + 1 + 2; omega, by show _ ≤ (n0 + 1) * 28 + 44; omega⟩ rfl hl.1 rfl (Nat.le_of_ble_eq_true rfl) ⟨Nat.le_refl _, Nat.le_refl _⟩ dX10_expected_145 (fun H locs G => ?_)
          refine lv_lmul hx hb dX10_expected_148 ?_
          refine lv_ladd hx hb dX10_expected_149 ?_
          obtain rfl := Option.some.inj hf
          exact xL_ret C G dX10_expected_150
        have hf := hrx2
        refine lv_icmp_ne (tgt := 88) hx hb dX10_expected_81 (by decide) (fun h => ?_) (fun h => ?_)
        · have hf := it_f h hf
          refine lv_iload hx hb dX10_expected_88 (lv_at hl 0 rfl) ?_
          refine lv_aload_n hx hb dX10_expected_90 rfl (lv_at hl 1 rfl) ?_
          refine x_get C G fX10_22 (wX_at0) rfl dX10_expected_91 ?_
          refine x_get C G fX10_349.g (wX_at17) rfl dX10_expected_94 ?_
          refine lv_iload hx hb dX10_expected_97 (lv_at hl 0 rfl) ?_
          refine x_min C mMath_min kX10_352 hl.1 (by show _ ≤ n0 + 1 + 2; omega) (Nat.le_trans (m := 44) (Nat.le_of_ble_eq_true rfl) (by show _ ≤ (n0 + 1) * 28 + 44; omega)) ⟨Nat.le_refl _, Nat.le_refl _⟩ dX10_expected_99 ?_
          refine lv_isub hx hb dX10_expected_102 ?_
          obtain rfl := Option.some.inj hf
          exact Jx2 _ _ _ G (lv_sub hl [1, 2, 4, 5, 0] rfl)
        · have hf := it_t h hf
          refine lv_iload_n hx hb dX10_expected_84 rfl (lv_at hl 3 rfl) ?_
          refine lv_goto (tgt := 103) hx hb dX10_expected_85 (by decide) ?_
          obtain rfl := Option.some.inj hf
          exact Jx2 _ _ _ G (lv_sub hl [1, 2, 4, 5, 0] rfl)
      have hf := hrx1
      refine lv_icmp_ne (tgt := 66) hx hb dX10_expected_59 (by decide) (fun h => ?_) (fun h => ?_)
      · have hf := it_f h hf
        refine lv_iload_n hx hb dX10_expected_66 rfl (lv_at hl 2 rfl) ?_
        refine lv_iconst (v := 1) hx hb dX10_expected_67 (by decide) ?_
        refine lv_iadd hx hb dX10_expected_68 ?_
        obtain rfl := Option.some.inj hf
        exact Jx1 _ _ _ G (lv_sub hl [0, 1, 2, 3, 4] rfl)
      · have hf := it_t h hf
        refine lv_iload_n hx hb dX10_expected_62 rfl (lv_at hl 2 rfl) ?_
        refine lv_goto (tgt := 69) hx hb dX10_expected_63 (by decide) ?_
        obtain rfl := Option.some.inj hf
        exact Jx1 _ _ _ G (lv_sub hl [0, 1, 2, 3, 4] rfl)
    · have hf := it_f h hf
      refine lv_iload hx hb dX10_expected_4 (lv_at hl 4 rfl) ?_
      refine lv_if_eq (tgt := 12) hx hb dX10_expected_6 (by decide) (fun h => ?_) (fun h => ?_)
      · have hf := it_t h hf
        refine lv_aload_n hx hb dX10_expected_12 rfl (lv_at hl 0 rfl) ?_
        refine x_get C G fX10_26 (wX_at0) rfl dX10_expected_13 ?_
        refine x_get C G fX10_157 (wX_at28) rfl dX10_expected_16 ?_
        refine lv_iload_n hx hb dX10_expected_19 rfl (lv_at hl 1 rfl) ?_
        have hi := ck_in hf
        have hf := ck_go hf
        refine x_iald C G (wX_at32) hi dX10_expected_20 ?_
        refine lv_iload_n hx hb dX10_expected_21 rfl (lv_at hl 2 rfl) ?_
        refine lv_aload_n hx hb dX10_expected_22 rfl (lv_at hl 0 rfl) ?_
        refine x_get C G fX10_26 (wX_at0) rfl dX10_expected_23 ?_
        refine lv_iload_n hx hb dX10_expected_26 rfl (lv_at hl 1 rfl) ?_
        obtain ⟨x5, hc, hf⟩ := bd_go hf
        refine xI_V C G (c_Now_far_nw hc) mX4_far kX10_391 (wX_at28) rfl ⟨by show _ ≤ n0 + 1 + 2; omega, by show _ ≤ (n0 + 1) * 28 + 44; omega⟩ rfl hl.1 rfl (Nat.le_of_ble_eq_true rfl) ⟨Nat.le_refl _, Nat.le_refl _⟩ dX10_expected_27 (fun hz H locs G => ?_)
        refine lv_aload_n hx hb dX10_expected_30 rfl (lv_at hl 0 rfl) ?_
        refine x_get C G fX10_22 (wX_at0) rfl dX10_expected_31 ?_
        refine x_get C G fX10_370.g (wX_at17) rfl dX10_expected_34 ?_
        obtain ⟨x6, hc, hf⟩ := bd_go hf
        refine xI_S C G (c_X_reaches_any hc) mX10_reaches kX10_394 ⟨by show _ ≤ n0 + 1 + 2; omega, by show _ ≤ (n0 + 1) * 28 + 44; omega⟩ rfl hl.1 rfl (Nat.le_of_ble_eq_true rfl) ⟨Nat.le_refl _, Nat.le_refl _⟩ dX10_expected_37 (fun hz6 H locs G => ?_)
        refine lv_if_eq (tgt := 47) hx hb dX10_expected_40 (by decide) (fun h => ?_) (fun h => ?_)
        · have hf := it_t h hf
          refine lv_lconst (v := 0) hx hb dX10_expected_47 (by decide) ?_
          obtain rfl := Option.some.inj hf
          exact xL_ret C G dX10_expected_48
        · have hf := it_f h hf
          refine lv_lconst (v := 1) hx hb dX10_expected_43 (by decide) ?_
          refine lv_goto (tgt := 48) hx hb dX10_expected_44 (by decide) ?_
          obtain rfl := Option.some.inj hf
          exact xL_ret C G dX10_expected_48
      · have hf := it_f h hf
        refine lv_iload_n hx hb dX10_expected_9 rfl (lv_at hl 2 rfl) ?_
        refine lv_i2l hx hb dX10_expected_10 rfl ?_
        obtain rfl := Option.some.inj hf
        exact xL_ret C G dX10_expected_11
set_option maxHeartbeats 4000000 in
set_option maxRecDepth 100000 in
theorem w_X_hundredTo_any_L4 {p : Program} {l : Launch} {e : Env} {s : State} {m : MethodId} {args : Array Value} {below : List Frame} {meth : Method} {c : Code} {A : Nat → Prop} {E : xE} {Q : State → Prop} {ws : va_W} {l0 : Int32} {o : Int64} (C : xC p s m args meth c cX10_hundredTo 4 RX10 E A (some .long)) (J : ∀ (H : Heap) (locs : List Loc) (ls : Array Slot), xG s E A ws H locs → lv_has ls 4 [(1, .long o)] → W p l e (xR 0 0) s m args below meth c H locs 0 0 Q (F0 m 21 ls [])) :
    ∀ (n : Nat) (l1 : Int64) (l3 : Int32) (H : Heap) (locs : List Loc) (ls : Array Slot), xG s E A ws H locs → lv_has ls 4 [(0, .int l0), (1, .long l1), (3, .int l3)] → f_X_hundredTo_L4 l0 n l1 l3 = some o → W p l e (xR 0 0) s m args below meth c H locs 0 0 Q (F0 m 4 ls []) := by
  have hx := C.1
  have hb := C.2.1
  intro n
  induction n with
  | zero =>
    intro l1 l3 H locs ls G hl hf
    exact nomatch (show (none : Option (Int64)) = some o from hf)
  | succ n ih =>
    intro l1 l3 H locs ls G hl hf
    rw [f_X_hundredTo_L4] at hf
    refine lv_iload_n hx hb dX10_hundredTo_4 rfl (lv_at hl 2 rfl) ?_
    refine lv_iload_n hx hb dX10_hundredTo_5 rfl (lv_at hl 0 rfl) ?_
    refine lv_icmp_ge (tgt := 21) hx hb dX10_hundredTo_6 (by decide) (fun h => ?_) (fun h => ?_)
    · have hf := it_t h hf
      obtain rfl := Option.some.inj hf
      exact J _ _ _ G (lv_sub hl [1] rfl)
    · have hf := it_f h hf
      refine lv_lload_n hx hb dX10_hundredTo_9 rfl (lv_at hl 1 rfl) ?_
      refine lv_ldc2 hx hb C.2.2.2.1 (C.2.2.2.2.1 _ qX10_419) dX10_hundredTo_10 ?_
      refine lv_lmul hx hb dX10_hundredTo_13 ?_
      refine lv_topl (fun x1 ex1 => ?_)
      have hf := lt_go ex1 hf
      refine lv_lstore_n (lv' := [(1, .long x1), (0, .int l0), (3, .int l3)]) hx hb dX10_hundredTo_14 rfl hl (by decide) rfl (fun ls hl => ?_)
      obtain ⟨x2, ex2⟩ : ∃ z : Int32, z = l3 + (1 : Int32) := ⟨_, rfl⟩
      have hf := lt_go ex2 hf
      refine lv_iinc (v := x2) (lv' := [(3, .int x2), (1, .long x1), (0, .int l0)]) hx hb dX10_hundredTo_15 hl (k := 2) rfl (by rw [ex2]; rfl) (by decide) rfl (fun ls hl => ?_)
      refine lv_goto (tgt := 4) hx hb dX10_hundredTo_18 (by decide) ?_
      exact ih x1 x2 _ _ _ G (lv_sub hl [2, 1, 0] rfl) hf
set_option maxHeartbeats 4000000 in
set_option maxRecDepth 100000 in
theorem c_X_hundredTo_any {l : Launch} {E : xE} {ws : va_W} {l0 : Int32} {R0 : Int64} (hf : f_X_hundredTo l0 = some R0) : xL l E yX10_hundredTo cX10_hundredTo 4 (some .long) 0 0 [.int l0] ws ws R0 := by
  refine xL_of (by decide) (Nat.le_of_ble_eq_true rfl) (fun p e s m args below meth c A C ls hl G => ?_)
  have hx := C.1
  have hb := C.2.1
  have hl : lv_has ls 4 [(0, .int l0)] := hl
  unfold f_X_hundredTo at hf
  refine lv_lconst (v := 1) hx hb dX10_hundredTo_0 (by decide) ?_
  refine lv_lstore_n (lv' := [(1, .long (1 : Int64)), (0, .int l0)]) hx hb dX10_hundredTo_1 rfl hl (by decide) rfl (fun ls hl => ?_)
  refine lv_iconst (v := 0) hx hb dX10_hundredTo_2 (by decide) ?_
  refine lv_istore_n (lv' := [(3, .int (0 : Int32)), (1, .long (1 : Int64)), (0, .int l0)]) hx hb dX10_hundredTo_3 rfl hl (by decide) rfl (fun ls hl => ?_)
  obtain ⟨x3, hr, hf⟩ := bd_go hf
  have Jx3 : ∀ (H : Heap) (locs : List Loc) (ls : Array Slot), xG s E A ws H locs → lv_has ls 4 [(1, .long x3)] → W p l e (xR 0 0) s m args below meth c H locs 0 0 (MQ below (xqL E A ws R0) args s 0 0 A) (F0 m 21 ls []) := by
    intro H locs ls G hl
    refine lv_lload_n hx hb dX10_hundredTo_21 rfl (lv_at hl 0 rfl) ?_
    obtain rfl := Option.some.inj hf
    exact xL_ret C G dX10_hundredTo_22
  exact w_X_hundredTo_any_L4 C Jx3 fu _ _ _ _ _ G (lv_sub hl [2, 1, 0] rfl) hr
set_option maxHeartbeats 4000000 in
set_option maxRecDepth 100000 in
theorem w_X_lowestTerm_any_L9 {p : Program} {l : Launch} {e : Env} {s : State} {m : MethodId} {args : Array Value} {below : List Frame} {meth : Method} {c : Code} {A : Nat → Prop} {E : xE} {Q : State → Prop} {ws : va_W} {l0 : Int64} {l2 : Int64} {l4 : Int32} {o : Int64} (C : xC p s m args meth c cX10_lowestTerm 12 RX10 E A (some .long)) (J : ∀ (H : Heap) (locs : List Loc) (ls : Array Slot), xG s E A ws H locs → lv_has ls 12 [(0, .long l0), (2, .long l2), (4, .int l4), (5, .long o)] → W p l e (xR 0 0) s m args below meth c H locs 0 0 Q (F0 m 45 ls [])) :
    ∀ (n : Nat) (l5 : Int64) (l7 : Int64) (l9 : Int32) (H : Heap) (locs : List Loc) (ls : Array Slot), xG s E A ws H locs → lv_has ls 12 [(0, .long l0), (2, .long l2), (4, .int l4), (5, .long l5), (7, .long l7), (9, .int l9)] → f_X_lowestTerm_L9 n l5 l7 l9 = some o → W p l e (xR 0 0) s m args below meth c H locs 0 0 Q (F0 m 9 ls []) := by
  have hx := C.1
  have hb := C.2.1
  intro n
  induction n with
  | zero =>
    intro l5 l7 l9 H locs ls G hl hf
    exact nomatch (show (none : Option (Int64)) = some o from hf)
  | succ n ih =>
    intro l5 l7 l9 H locs ls G hl hf
    rw [f_X_lowestTerm_L9] at hf
    refine lv_iload hx hb dX10_lowestTerm_9 (lv_at hl 5 rfl) ?_
    refine lv_sipush (v := 200) hx hb dX10_lowestTerm_11 (by decide) ?_
    obtain ⟨b1, hr, hf⟩ := bd_go hf
    cases b1 with
    | true =>
      have hf := it_t rfl hf
      have J : ∀ (H : Heap) (locs : List Loc), xG s E A ws H locs → W p l e (xR 0 0) s m args below meth c H locs 0 0 Q (F0 m 45 ls []) := by
        intro H locs G
        obtain rfl := Option.some.inj hf
        exact J _ _ _ G (lv_sub hl [0, 1, 2, 3] rfl)
      have hf := hr
      clear hr
      refine lv_icmp_ge (tgt := 45) hx hb dX10_lowestTerm_14 (by decide) (fun h => ?_) (fun h => ?_)
      · have hf := it_t h hf
        exact J _ _ G
      · have hf := it_f h hf
        refine lv_lload hx hb dX10_lowestTerm_17 (lv_at hl 4 rfl) ?_
        refine lv_lconst (v := 0) hx hb dX10_lowestTerm_19 (by decide) ?_
        refine W.lcmp hx hb dX10_lowestTerm_20 ?_
        refine lv_if_eq (tgt := 45) hx hb dX10_lowestTerm_21 (by decide) (fun h => ?_) (fun h => ?_)
        · have hf := it_t h hf
          exact J _ _ G
        · have hf := it_f h hf
          exact absurd (Option.some.inj hf) (by decide)
    | false =>
      have hf := it_f (by decide) hf
      have J : ∀ (H : Heap) (locs : List Loc), xG s E A ws H locs → W p l e (xR 0 0) s m args below meth c H locs 0 0 Q (F0 m 24 ls []) := by
        intro H locs G
        refine lv_lload hx hb dX10_lowestTerm_24 (lv_at hl 3 rfl) ?_
        refine lv_lload hx hb dX10_lowestTerm_26 (lv_at hl 4 rfl) ?_
        have hi := nzL_ne hf
        have hf := nzL_go hf
        refine lv_lrem hx hb dX10_lowestTerm_28 hi ?_
        refine lv_topl (fun x2 ex2 => ?_)
        have hf := lt_go ex2 hf
        refine lv_lstore (lv' := [(10, .long x2), (0, .long l0), (2, .long l2), (4, .int l4), (5, .long l5), (7, .long l7), (9, .int l9)]) hx hb dX10_lowestTerm_29 hl (by decide) rfl (fun ls hl => ?_)
        refine lv_lload hx hb dX10_lowestTerm_31 (lv_at hl 5 rfl) ?_
        refine lv_lstore (lv' := [(5, .long l7), (10, .long x2), (0, .long l0), (2, .long l2), (4, .int l4), (7, .long l7), (9, .int l9)]) hx hb dX10_lowestTerm_33 hl (by decide) rfl (fun ls hl => ?_)
        refine lv_lload hx hb dX10_lowestTerm_35 (lv_at hl 1 rfl) ?_
        refine lv_lstore (lv' := [(7, .long x2), (5, .long l7), (10, .long x2), (0, .long l0), (2, .long l2), (4, .int l4), (9, .int l9)]) hx hb dX10_lowestTerm_37 hl (by decide) rfl (fun ls hl => ?_)
        obtain ⟨x3, ex3⟩ : ∃ z : Int32, z = l9 + (1 : Int32) := ⟨_, rfl⟩
        have hf := lt_go ex3 hf
        refine lv_iinc (v := x3) (lv' := [(9, .int x3), (7, .long x2), (5, .long l7), (10, .long x2), (0, .long l0), (2, .long l2), (4, .int l4)]) hx hb dX10_lowestTerm_39 hl (k := 6) rfl (by rw [ex3]; rfl) (by decide) rfl (fun ls hl => ?_)
        refine lv_goto (tgt := 9) hx hb dX10_lowestTerm_42 (by decide) ?_
        exact ih l7 x2 x3 _ _ _ G (lv_sub hl [4, 5, 6, 2, 1, 0] rfl) hf
      have hf := hr
      clear hr
      refine lv_icmp_ge (tgt := 45) hx hb dX10_lowestTerm_14 (by decide) (fun h => ?_) (fun h => ?_)
      · have hf := it_t h hf
        exact absurd (Option.some.inj hf) (by decide)
      · have hf := it_f h hf
        refine lv_lload hx hb dX10_lowestTerm_17 (lv_at hl 4 rfl) ?_
        refine lv_lconst (v := 0) hx hb dX10_lowestTerm_19 (by decide) ?_
        refine W.lcmp hx hb dX10_lowestTerm_20 ?_
        refine lv_if_eq (tgt := 45) hx hb dX10_lowestTerm_21 (by decide) (fun h => ?_) (fun h => ?_)
        · have hf := it_t h hf
          exact absurd (Option.some.inj hf) (by decide)
        · have hf := it_f h hf
          exact J _ _ G
set_option maxHeartbeats 4000000 in
set_option maxRecDepth 100000 in
theorem c_X_lowestTerm_any {l : Launch} {E : xE} {ws : va_W} {l0 : Int64} {l2 : Int64} {l4 : Int32} {R0 : Int64} (hf : f_X_lowestTerm l0 l2 l4 = some R0) : xL l E yX10_lowestTerm cX10_lowestTerm 12 (some .long) 0 0 [.long l0, .long l2, .int l4] ws ws R0 := by
  refine xL_of (by decide) (Nat.le_of_ble_eq_true rfl) (fun p e s m args below meth c A C ls hl G => ?_)
  have hx := C.1
  have hb := C.2.1
  have hl : lv_has ls 12 [(0, .long l0), (2, .long l2), (4, .int l4)] := hl
  unfold f_X_lowestTerm at hf
  refine lv_lload_n hx hb dX10_lowestTerm_0 rfl (lv_at hl 1 rfl) ?_
  refine lv_lstore (lv' := [(5, .long l2), (0, .long l0), (2, .long l2), (4, .int l4)]) hx hb dX10_lowestTerm_1 hl (by decide) rfl (fun ls hl => ?_)
  refine lv_lload_n hx hb dX10_lowestTerm_3 rfl (lv_at hl 1 rfl) ?_
  refine lv_lstore (lv' := [(7, .long l0), (5, .long l2), (0, .long l0), (2, .long l2), (4, .int l4)]) hx hb dX10_lowestTerm_4 hl (by decide) rfl (fun ls hl => ?_)
  refine lv_iconst (v := 0) hx hb dX10_lowestTerm_6 (by decide) ?_
  refine lv_istore (lv' := [(9, .int (0 : Int32)), (7, .long l0), (5, .long l2), (0, .long l0), (2, .long l2), (4, .int l4)]) hx hb dX10_lowestTerm_7 hl (by decide) rfl (fun ls hl => ?_)
  obtain ⟨x4, hr, hf⟩ := bd_go hf
  have Jx4 : ∀ (H : Heap) (locs : List Loc) (ls : Array Slot), xG s E A ws H locs → lv_has ls 12 [(0, .long l0), (2, .long l2), (4, .int l4), (5, .long x4)] → W p l e (xR 0 0) s m args below meth c H locs 0 0 (MQ below (xqL E A ws R0) args s 0 0 A) (F0 m 45 ls []) := by
    intro H locs ls G hl
    refine lv_lload hx hb dX10_lowestTerm_45 (lv_at hl 3 rfl) ?_
    refine lv_lconst (v := 0) hx hb dX10_lowestTerm_47 (by decide) ?_
    refine W.lcmp hx hb dX10_lowestTerm_48 ?_
    refine lv_if_ne (tgt := 54) hx hb dX10_lowestTerm_49 (by decide) (fun h => ?_) (fun h => ?_)
    · have hf := it_f h hf
      refine lv_iload hx hb dX10_lowestTerm_54 (lv_at hl 2 rfl) ?_
      refine lv_if_eq (tgt := 66) hx hb dX10_lowestTerm_56 (by decide) (fun h => ?_) (fun h => ?_)
      · have hf := it_t h hf
        refine lv_lload_n hx hb dX10_lowestTerm_66 rfl (lv_at hl 0 rfl) ?_
        refine lv_lload hx hb dX10_lowestTerm_67 (lv_at hl 3 rfl) ?_
        have hi := nzL_ne hf
        have hf := nzL_go hf
        refine lv_ldiv hx hb dX10_lowestTerm_69 hi ?_
        obtain rfl := Option.some.inj hf
        exact xL_ret C G dX10_lowestTerm_70
      · have hf := it_f h hf
        refine lv_lload_n hx hb dX10_lowestTerm_59 rfl (lv_at hl 1 rfl) ?_
        refine lv_lload hx hb dX10_lowestTerm_60 (lv_at hl 3 rfl) ?_
        have hi := nzL_ne hf
        have hf := nzL_go hf
        refine lv_ldiv hx hb dX10_lowestTerm_62 hi ?_
        refine lv_goto (tgt := 70) hx hb dX10_lowestTerm_63 (by decide) ?_
        obtain rfl := Option.some.inj hf
        exact xL_ret C G dX10_lowestTerm_70
    · have hf := it_t h hf
      refine lv_lconst (v := 0) hx hb dX10_lowestTerm_52 (by decide) ?_
      obtain rfl := Option.some.inj hf
      exact xL_ret C G dX10_lowestTerm_53
  exact w_X_lowestTerm_any_L9 C Jx4 fu _ _ _ _ _ _ G (lv_sub hl [3, 4, 5, 2, 1, 0] rfl) hr
set_option maxHeartbeats 4000000 in
set_option maxRecDepth 100000 in
theorem c_X_odds_x {l : Launch} {E : xE} {ad : Nat → Nat} {x_imageCount x_lastTrouble x_lastFault x_lastPlace pa_faultNumber pa_faultPlace rd_length rd_end rd_next rd_sort rd_start rd_value to_seats to_slack to_sawInches to_quarrelChance to_people to_forkBits to_unsure to_tried to_triedFedBits tf_pairs tf_gone bd_seats bd_slack bd_sawInches bd_quarrelChance bd_people bd_forkBits bd_unsure bd_tried bd_triedFedBits bf_pairs bf_gone nw_pairs nw_gone sc_forkBits sc_canBits sc_bestBits sc_bestSlops sl_count se_bestWorth se_fresh ch_items ch_leastCost ch_leastBits cl_count fi_count ps_next ps_count i0_pairs i0_gone i1_pairs i1_gone i2_pairs i2_gone : Int32} {pa_names : Nat → Int64} {rd_tape to_unsurePair to_unsureYears to_triedPair tf_seatOf tf_one tf_other tf_kind tf_years tf_sawn bd_unsurePair bd_unsureYears bd_triedPair bf_seatOf bf_one bf_other bf_kind bf_years bf_sawn nw_seatOf nw_one nw_other nw_kind nw_years nw_sawn sc_seatOf sc_handle sc_both sc_slopOf sl_bits se_bestRow se_row se_pairAt se_hope se_hopeAt se_slopAt se_farBits se_gain se_worth ch_both ch_cost ch_bit cl_bits fi_sets ps_act ps_whom ps_amount i0_seatOf i0_one i0_other i0_kind i0_years i0_sawn i1_seatOf i1_one i1_other i1_kind i1_years i1_sawn i2_seatOf i2_one i2_other i2_kind i2_years i2_sawn : Nat → Int32} {rd_word : Int64} {l1 : Int32} {l2 : Int32} {l3 : Int32} {R0 : Int64 × Int32} (hf : f_X_odds l1 l2 l3 bd_slack bd_sawInches bd_quarrelChance nw_seatOf nw_one nw_other nw_kind nw_years nw_sawn nw_pairs = some R0) : xL l E yX10_odds cX10_odds 4 (some .long) 15 408 [.ref (ad 0), .int l1, .int l2, .int l3] (wX E ad x_imageCount x_lastTrouble x_lastFault x_lastPlace pa_names pa_faultNumber pa_faultPlace rd_tape rd_length rd_end rd_next rd_sort rd_start rd_value rd_word to_unsurePair to_unsureYears to_triedPair to_seats to_slack to_sawInches to_quarrelChance to_people to_forkBits to_unsure to_tried to_triedFedBits tf_seatOf tf_one tf_other tf_kind tf_years tf_sawn tf_pairs tf_gone bd_unsurePair bd_unsureYears bd_triedPair bd_seats bd_slack bd_sawInches bd_quarrelChance bd_people bd_forkBits bd_unsure bd_tried bd_triedFedBits bf_seatOf bf_one bf_other bf_kind bf_years bf_sawn bf_pairs bf_gone nw_seatOf nw_one nw_other nw_kind nw_years nw_sawn nw_pairs nw_gone sc_seatOf sc_handle sc_both sc_slopOf sc_forkBits sc_canBits sc_bestBits sc_bestSlops sl_bits sl_count se_bestRow se_row se_pairAt se_hope se_hopeAt se_slopAt se_farBits se_gain se_worth se_bestWorth se_fresh ch_both ch_cost ch_bit ch_items ch_leastCost ch_leastBits cl_bits cl_count fi_sets fi_count ps_act ps_whom ps_amount ps_next ps_count i0_seatOf i0_one i0_other i0_kind i0_years i0_sawn i0_pairs i0_gone i1_seatOf i1_one i1_other i1_kind i1_years i1_sawn i1_pairs i1_gone i2_seatOf i2_one i2_other i2_kind i2_years i2_sawn i2_pairs i2_gone) (wX E ad x_imageCount R0.2 x_lastFault x_lastPlace pa_names pa_faultNumber pa_faultPlace rd_tape rd_length rd_end rd_next rd_sort rd_start rd_value rd_word to_unsurePair to_unsureYears to_triedPair to_seats to_slack to_sawInches to_quarrelChance to_people to_forkBits to_unsure to_tried to_triedFedBits tf_seatOf tf_one tf_other tf_kind tf_years tf_sawn tf_pairs tf_gone bd_unsurePair bd_unsureYears bd_triedPair bd_seats bd_slack bd_sawInches bd_quarrelChance bd_people bd_forkBits bd_unsure bd_tried bd_triedFedBits bf_seatOf bf_one bf_other bf_kind bf_years bf_sawn bf_pairs bf_gone nw_seatOf nw_one nw_other nw_kind nw_years nw_sawn nw_pairs nw_gone sc_seatOf sc_handle sc_both sc_slopOf sc_forkBits sc_canBits sc_bestBits sc_bestSlops sl_bits sl_count se_bestRow se_row se_pairAt se_hope se_hopeAt se_slopAt se_farBits se_gain se_worth se_bestWorth se_fresh ch_both ch_cost ch_bit ch_items ch_leastCost ch_leastBits cl_bits cl_count fi_sets fi_count ps_act ps_whom ps_amount ps_next ps_count i0_seatOf i0_one i0_other i0_kind i0_years i0_sawn i0_pairs i0_gone i1_seatOf i1_one i1_other i1_kind i1_years i1_sawn i1_pairs i1_gone i2_seatOf i2_one i2_other i2_kind i2_years i2_sawn i2_pairs i2_gone) R0.1 := by
  refine xL_of (by decide) (Nat.le_of_ble_eq_true rfl) (fun p e s m args below meth c A C ls hl G => ?_)
  have hx := C.1
  have hb := C.2.1
  have hl : lv_has ls 4 [(0, .ref (ad 0)), (1, .int l1), (2, .int l2), (3, .int l3)] := hl
  unfold f_X_odds at hf
  refine lv_aload_n hx hb dX10_odds_0 rfl (lv_at hl 0 rfl) ?_
  refine lv_iload_n hx hb dX10_odds_1 rfl (lv_at hl 1 rfl) ?_
  obtain ⟨x1, hc, hf⟩ := bd_go hf
  refine xI_V C G (c_X_noPair_x hc) mX10_noPair kX10_142 (wX_at0) rfl ⟨Nat.le_of_ble_eq_true rfl, Nat.le_of_ble_eq_true rfl⟩ rfl hl.1 rfl (Nat.le_of_ble_eq_true rfl) ⟨Nat.le_refl _, Nat.le_refl _⟩ dX10_odds_2 (fun hz1 H locs G => ?_)
  refine lv_if_eq (tgt := 12) hx hb dX10_odds_5 (by decide) (fun h => ?_) (fun h => ?_)
  · have hf := it_t h hf
    refine lv_iload_n hx hb dX10_odds_12 rfl (lv_at hl 2 rfl) ?_
    refine lv_bipush (v := 8) hx hb dX10_odds_13 (by decide) ?_
    obtain ⟨x2, hc, hf⟩ := bd_go hf
    refine xI_S C G (c_X_within_any hc) mX10_within kX10_216 ⟨Nat.le_of_ble_eq_true rfl, Nat.le_of_ble_eq_true rfl⟩ rfl hl.1 rfl (Nat.le_of_ble_eq_true rfl) ⟨Nat.le_refl _, Nat.le_refl _⟩ dX10_odds_15 (fun hz2 H locs G => ?_)
    refine lv_if_ne (tgt := 28) hx hb dX10_odds_18 (by decide) (fun h => ?_) (fun h => ?_)
    · have hf := it_f h hf
      refine lv_aload_n hx hb dX10_odds_28 rfl (lv_at hl 0 rfl) ?_
      refine lv_iload_n hx hb dX10_odds_29 rfl (lv_at hl 1 rfl) ?_
      refine lv_aload_n hx hb dX10_odds_30 rfl (lv_at hl 0 rfl) ?_
      refine x_get C G fX10_26 (wX_at0) rfl dX10_odds_31 ?_
      refine lv_iload_n hx hb dX10_odds_34 rfl (lv_at hl 1 rfl) ?_
      obtain ⟨x3, hc, hf⟩ := bd_go hf
      refine xI_V C G (c_Now_handle_nw hc) mX4_handle kX10_154 (wX_at28) rfl ⟨Nat.le_of_ble_eq_true rfl, Nat.le_of_ble_eq_true rfl⟩ rfl hl.1 rfl (Nat.le_of_ble_eq_true rfl) ⟨Nat.le_refl _, Nat.le_refl _⟩ dX10_odds_35 (fun hz H locs G => ?_)
      refine lv_iload_n hx hb dX10_odds_38 rfl (lv_at hl 2 rfl) ?_
      refine lv_iconst (v := 0) hx hb dX10_odds_39 (by decide) ?_
      obtain ⟨x4, hc, hf⟩ := bd_go hf
      refine xL_V C G (c_X_expected_x 12 hc) mX10_expected kX10_320 (wX_at0) rfl ⟨Nat.le_of_ble_eq_true rfl, Nat.le_of_ble_eq_true rfl⟩ rfl hl.1 rfl (Nat.le_of_ble_eq_true rfl) ⟨Nat.le_refl _, Nat.le_refl _⟩ dX10_odds_40 (fun H locs G => ?_)
      refine lv_iload_n hx hb dX10_odds_43 rfl (lv_at hl 2 rfl) ?_
      obtain ⟨x5, hc, hf⟩ := bd_go hf
      refine xL_S C G (c_X_hundredTo_any hc) mX10_hundredTo kX10_324 ⟨Nat.le_of_ble_eq_true rfl, Nat.le_of_ble_eq_true rfl⟩ rfl hl.1 rfl (Nat.le_of_ble_eq_true rfl) ⟨Nat.le_refl _, Nat.le_refl _⟩ dX10_odds_44 (fun H locs G => ?_)
      refine lv_iload_n hx hb dX10_odds_47 rfl (lv_at hl 3 rfl) ?_
      obtain ⟨x6, hc, hf⟩ := bd_go hf
      refine xL_S C G (c_X_lowestTerm_any hc) mX10_lowestTerm kX10_328 ⟨Nat.le_of_ble_eq_true rfl, Nat.le_of_ble_eq_true rfl⟩ rfl hl.1 rfl (Nat.le_of_ble_eq_true rfl) ⟨Nat.le_refl _, Nat.le_refl _⟩ dX10_odds_48 (fun H locs G => ?_)
      obtain rfl := Option.some.inj hf
      exact xL_ret C G dX10_odds_51
    · have hf := it_t h hf
      refine lv_aload_n hx hb dX10_odds_21 rfl (lv_at hl 0 rfl) ?_
      refine lv_iconst (v := 2) hx hb dX10_odds_22 (by decide) ?_
      obtain ⟨x7, hc, hf⟩ := bd_go hf
      refine xI_V C G (c_X_refused_x hc) mX10_refused kX10_87 (wX_at0) rfl ⟨Nat.le_of_ble_eq_true rfl, Nat.le_of_ble_eq_true rfl⟩ rfl hl.1 rfl (Nat.le_of_ble_eq_true rfl) ⟨Nat.le_refl _, Nat.le_refl _⟩ dX10_odds_23 (fun hz H locs G => ?_)
      refine lv_i2l hx hb dX10_odds_26 rfl ?_
      obtain rfl := Option.some.inj hf
      exact xL_ret C G dX10_odds_27
  · have hf := it_f h hf
    refine lv_ldc2 hx hb C.2.2.2.1 (C.2.2.2.2.1 _ qX10_318) dX10_odds_8 ?_
    obtain rfl := Option.some.inj hf
    exact xL_ret C G dX10_odds_11
set_option maxHeartbeats 4000000 in
set_option maxRecDepth 100000 in
theorem c_X_mean_x {l : Launch} {E : xE} {ad : Nat → Nat} {x_imageCount x_lastTrouble x_lastFault x_lastPlace pa_faultNumber pa_faultPlace rd_length rd_end rd_next rd_sort rd_start rd_value to_seats to_slack to_sawInches to_quarrelChance to_people to_forkBits to_unsure to_tried to_triedFedBits tf_pairs tf_gone bd_seats bd_slack bd_sawInches bd_quarrelChance bd_people bd_forkBits bd_unsure bd_tried bd_triedFedBits bf_pairs bf_gone nw_pairs nw_gone sc_forkBits sc_canBits sc_bestBits sc_bestSlops sl_count se_bestWorth se_fresh ch_items ch_leastCost ch_leastBits cl_count fi_count ps_next ps_count i0_pairs i0_gone i1_pairs i1_gone i2_pairs i2_gone : Int32} {pa_names : Nat → Int64} {rd_tape to_unsurePair to_unsureYears to_triedPair tf_seatOf tf_one tf_other tf_kind tf_years tf_sawn bd_unsurePair bd_unsureYears bd_triedPair bf_seatOf bf_one bf_other bf_kind bf_years bf_sawn nw_seatOf nw_one nw_other nw_kind nw_years nw_sawn sc_seatOf sc_handle sc_both sc_slopOf sl_bits se_bestRow se_row se_pairAt se_hope se_hopeAt se_slopAt se_farBits se_gain se_worth ch_both ch_cost ch_bit cl_bits fi_sets ps_act ps_whom ps_amount i0_seatOf i0_one i0_other i0_kind i0_years i0_sawn i1_seatOf i1_one i1_other i1_kind i1_years i1_sawn i2_seatOf i2_one i2_other i2_kind i2_years i2_sawn : Nat → Int32} {rd_word : Int64} {l1 : Int32} {l2 : Int32} {l3 : Int32} {R0 : Int64 × Int32} (hf : f_X_mean l1 l2 l3 bd_slack bd_sawInches bd_quarrelChance nw_seatOf nw_one nw_other nw_kind nw_years nw_sawn nw_pairs = some R0) : xL l E yX10_mean cX10_mean 4 (some .long) 15 408 [.ref (ad 0), .int l1, .int l2, .int l3] (wX E ad x_imageCount x_lastTrouble x_lastFault x_lastPlace pa_names pa_faultNumber pa_faultPlace rd_tape rd_length rd_end rd_next rd_sort rd_start rd_value rd_word to_unsurePair to_unsureYears to_triedPair to_seats to_slack to_sawInches to_quarrelChance to_people to_forkBits to_unsure to_tried to_triedFedBits tf_seatOf tf_one tf_other tf_kind tf_years tf_sawn tf_pairs tf_gone bd_unsurePair bd_unsureYears bd_triedPair bd_seats bd_slack bd_sawInches bd_quarrelChance bd_people bd_forkBits bd_unsure bd_tried bd_triedFedBits bf_seatOf bf_one bf_other bf_kind bf_years bf_sawn bf_pairs bf_gone nw_seatOf nw_one nw_other nw_kind nw_years nw_sawn nw_pairs nw_gone sc_seatOf sc_handle sc_both sc_slopOf sc_forkBits sc_canBits sc_bestBits sc_bestSlops sl_bits sl_count se_bestRow se_row se_pairAt se_hope se_hopeAt se_slopAt se_farBits se_gain se_worth se_bestWorth se_fresh ch_both ch_cost ch_bit ch_items ch_leastCost ch_leastBits cl_bits cl_count fi_sets fi_count ps_act ps_whom ps_amount ps_next ps_count i0_seatOf i0_one i0_other i0_kind i0_years i0_sawn i0_pairs i0_gone i1_seatOf i1_one i1_other i1_kind i1_years i1_sawn i1_pairs i1_gone i2_seatOf i2_one i2_other i2_kind i2_years i2_sawn i2_pairs i2_gone) (wX E ad x_imageCount R0.2 x_lastFault x_lastPlace pa_names pa_faultNumber pa_faultPlace rd_tape rd_length rd_end rd_next rd_sort rd_start rd_value rd_word to_unsurePair to_unsureYears to_triedPair to_seats to_slack to_sawInches to_quarrelChance to_people to_forkBits to_unsure to_tried to_triedFedBits tf_seatOf tf_one tf_other tf_kind tf_years tf_sawn tf_pairs tf_gone bd_unsurePair bd_unsureYears bd_triedPair bd_seats bd_slack bd_sawInches bd_quarrelChance bd_people bd_forkBits bd_unsure bd_tried bd_triedFedBits bf_seatOf bf_one bf_other bf_kind bf_years bf_sawn bf_pairs bf_gone nw_seatOf nw_one nw_other nw_kind nw_years nw_sawn nw_pairs nw_gone sc_seatOf sc_handle sc_both sc_slopOf sc_forkBits sc_canBits sc_bestBits sc_bestSlops sl_bits sl_count se_bestRow se_row se_pairAt se_hope se_hopeAt se_slopAt se_farBits se_gain se_worth se_bestWorth se_fresh ch_both ch_cost ch_bit ch_items ch_leastCost ch_leastBits cl_bits cl_count fi_sets fi_count ps_act ps_whom ps_amount ps_next ps_count i0_seatOf i0_one i0_other i0_kind i0_years i0_sawn i0_pairs i0_gone i1_seatOf i1_one i1_other i1_kind i1_years i1_sawn i1_pairs i1_gone i2_seatOf i2_one i2_other i2_kind i2_years i2_sawn i2_pairs i2_gone) R0.1 := by
  refine xL_of (by decide) (Nat.le_of_ble_eq_true rfl) (fun p e s m args below meth c A C ls hl G => ?_)
  have hx := C.1
  have hb := C.2.1
  have hl : lv_has ls 4 [(0, .ref (ad 0)), (1, .int l1), (2, .int l2), (3, .int l3)] := hl
  unfold f_X_mean at hf
  refine lv_aload_n hx hb dX10_mean_0 rfl (lv_at hl 0 rfl) ?_
  refine lv_iload_n hx hb dX10_mean_1 rfl (lv_at hl 1 rfl) ?_
  obtain ⟨x1, hc, hf⟩ := bd_go hf
  refine xI_V C G (c_X_noPair_x hc) mX10_noPair kX10_142 (wX_at0) rfl ⟨Nat.le_of_ble_eq_true rfl, Nat.le_of_ble_eq_true rfl⟩ rfl hl.1 rfl (Nat.le_of_ble_eq_true rfl) ⟨Nat.le_refl _, Nat.le_refl _⟩ dX10_mean_2 (fun hz1 H locs G => ?_)
  refine lv_if_eq (tgt := 12) hx hb dX10_mean_5 (by decide) (fun h => ?_) (fun h => ?_)
  · have hf := it_t h hf
    refine lv_iload_n hx hb dX10_mean_12 rfl (lv_at hl 2 rfl) ?_
    refine lv_bipush (v := 8) hx hb dX10_mean_13 (by decide) ?_
    obtain ⟨x2, hc, hf⟩ := bd_go hf
    refine xI_S C G (c_X_within_any hc) mX10_within kX10_216 ⟨Nat.le_of_ble_eq_true rfl, Nat.le_of_ble_eq_true rfl⟩ rfl hl.1 rfl (Nat.le_of_ble_eq_true rfl) ⟨Nat.le_refl _, Nat.le_refl _⟩ dX10_mean_15 (fun hz2 H locs G => ?_)
    refine lv_if_ne (tgt := 28) hx hb dX10_mean_18 (by decide) (fun h => ?_) (fun h => ?_)
    · have hf := it_f h hf
      refine lv_aload_n hx hb dX10_mean_28 rfl (lv_at hl 0 rfl) ?_
      refine x_get C G fX10_26 (wX_at0) rfl dX10_mean_29 ?_
      refine lv_iload_n hx hb dX10_mean_32 rfl (lv_at hl 1 rfl) ?_
      obtain ⟨x3, hc, hf⟩ := bd_go hf
      refine xI_V C G (c_Now_handle_nw hc) mX4_handle kX10_154 (wX_at28) rfl ⟨Nat.le_of_ble_eq_true rfl, Nat.le_of_ble_eq_true rfl⟩ rfl hl.1 rfl (Nat.le_of_ble_eq_true rfl) ⟨Nat.le_refl _, Nat.le_refl _⟩ dX10_mean_33 (fun hz H locs G => ?_)
      refine lv_sipush (v := 900) hx hb dX10_mean_36 (by decide) ?_
      refine lv_icmp_le (tgt := 49) hx hb dX10_mean_39 (by decide) (fun h => ?_) (fun h => ?_)
      · have hf := it_t h hf
        refine lv_aload_n hx hb dX10_mean_49 rfl (lv_at hl 0 rfl) ?_
        refine lv_iload_n hx hb dX10_mean_50 rfl (lv_at hl 1 rfl) ?_
        refine lv_aload_n hx hb dX10_mean_51 rfl (lv_at hl 0 rfl) ?_
        refine x_get C G fX10_26 (wX_at0) rfl dX10_mean_52 ?_
        refine lv_iload_n hx hb dX10_mean_55 rfl (lv_at hl 1 rfl) ?_
        obtain ⟨x4, hc, hf⟩ := bd_go hf
        refine xI_V C G (c_Now_handle_nw hc) mX4_handle kX10_154 (wX_at28) rfl ⟨Nat.le_of_ble_eq_true rfl, Nat.le_of_ble_eq_true rfl⟩ rfl hl.1 rfl (Nat.le_of_ble_eq_true rfl) ⟨Nat.le_refl _, Nat.le_refl _⟩ dX10_mean_56 (fun hz H locs G => ?_)
        refine lv_iload_n hx hb dX10_mean_59 rfl (lv_at hl 2 rfl) ?_
        refine lv_iconst (v := 1) hx hb dX10_mean_60 (by decide) ?_
        obtain ⟨x5, hc, hf⟩ := bd_go hf
        refine xL_V C G (c_X_expected_x 12 hc) mX10_expected kX10_320 (wX_at0) rfl ⟨Nat.le_of_ble_eq_true rfl, Nat.le_of_ble_eq_true rfl⟩ rfl hl.1 rfl (Nat.le_of_ble_eq_true rfl) ⟨Nat.le_refl _, Nat.le_refl _⟩ dX10_mean_61 (fun H locs G => ?_)
        refine lv_iload_n hx hb dX10_mean_64 rfl (lv_at hl 2 rfl) ?_
        obtain ⟨x6, hc, hf⟩ := bd_go hf
        refine xL_S C G (c_X_hundredTo_any hc) mX10_hundredTo kX10_324 ⟨Nat.le_of_ble_eq_true rfl, Nat.le_of_ble_eq_true rfl⟩ rfl hl.1 rfl (Nat.le_of_ble_eq_true rfl) ⟨Nat.le_refl _, Nat.le_refl _⟩ dX10_mean_65 (fun H locs G => ?_)
        refine lv_iload_n hx hb dX10_mean_68 rfl (lv_at hl 3 rfl) ?_
        obtain ⟨x7, hc, hf⟩ := bd_go hf
        refine xL_S C G (c_X_lowestTerm_any hc) mX10_lowestTerm kX10_328 ⟨Nat.le_of_ble_eq_true rfl, Nat.le_of_ble_eq_true rfl⟩ rfl hl.1 rfl (Nat.le_of_ble_eq_true rfl) ⟨Nat.le_refl _, Nat.le_refl _⟩ dX10_mean_69 (fun H locs G => ?_)
        obtain rfl := Option.some.inj hf
        exact xL_ret C G dX10_mean_72
      · have hf := it_f h hf
        refine lv_aload_n hx hb dX10_mean_42 rfl (lv_at hl 0 rfl) ?_
        refine lv_iconst (v := 3) hx hb dX10_mean_43 (by decide) ?_
        obtain ⟨x8, hc, hf⟩ := bd_go hf
        refine xI_V C G (c_X_refused_x hc) mX10_refused kX10_87 (wX_at0) rfl ⟨Nat.le_of_ble_eq_true rfl, Nat.le_of_ble_eq_true rfl⟩ rfl hl.1 rfl (Nat.le_of_ble_eq_true rfl) ⟨Nat.le_refl _, Nat.le_refl _⟩ dX10_mean_44 (fun hz H locs G => ?_)
        refine lv_i2l hx hb dX10_mean_47 rfl ?_
        obtain rfl := Option.some.inj hf
        exact xL_ret C G dX10_mean_48
    · have hf := it_t h hf
      refine lv_aload_n hx hb dX10_mean_21 rfl (lv_at hl 0 rfl) ?_
      refine lv_iconst (v := 2) hx hb dX10_mean_22 (by decide) ?_
      obtain ⟨x9, hc, hf⟩ := bd_go hf
      refine xI_V C G (c_X_refused_x hc) mX10_refused kX10_87 (wX_at0) rfl ⟨Nat.le_of_ble_eq_true rfl, Nat.le_of_ble_eq_true rfl⟩ rfl hl.1 rfl (Nat.le_of_ble_eq_true rfl) ⟨Nat.le_refl _, Nat.le_refl _⟩ dX10_mean_23 (fun hz H locs G => ?_)
      refine lv_i2l hx hb dX10_mean_26 rfl ?_
      obtain rfl := Option.some.inj hf
      exact xL_ret C G dX10_mean_27
  · have hf := it_f h hf
    refine lv_ldc2 hx hb C.2.2.2.1 (C.2.2.2.2.1 _ qX10_318) dX10_mean_8 ?_
    obtain rfl := Option.some.inj hf
    exact xL_ret C G dX10_mean_11
set_option maxHeartbeats 4000000 in
set_option maxRecDepth 100000 in
theorem w_X_draw_x_L21 {p : Program} {l : Launch} {e : Env} {s : State} {m : MethodId} {args : Array Value} {below : List Frame} {meth : Method} {c : Code} {A : Nat → Prop} {E : xE} {Q : State → Prop} {ad : Nat → Nat} {x_imageCount x_lastTrouble x_lastFault x_lastPlace pa_faultNumber pa_faultPlace rd_length rd_end rd_next rd_sort rd_start rd_value to_seats to_slack to_sawInches to_quarrelChance to_people to_forkBits to_unsure to_tried to_triedFedBits tf_pairs tf_gone bd_seats bd_slack bd_sawInches bd_quarrelChance bd_people bd_forkBits bd_unsure bd_tried bd_triedFedBits bf_pairs bf_gone nw_pairs nw_gone sc_forkBits sc_canBits sc_bestBits sc_bestSlops sl_count se_bestWorth se_fresh ch_items ch_leastCost ch_leastBits cl_count fi_count ps_next ps_count i0_pairs i0_gone i1_pairs i1_gone i2_pairs i2_gone : Int32} {pa_names : Nat → Int64} {rd_tape to_unsurePair to_unsureYears to_triedPair tf_seatOf tf_one tf_other tf_kind tf_years tf_sawn bd_unsurePair bd_unsureYears bd_triedPair bf_seatOf bf_one bf_other bf_kind bf_years bf_sawn nw_seatOf nw_one nw_other nw_kind nw_years nw_sawn sc_seatOf sc_both sc_slopOf sl_bits se_bestRow se_row se_pairAt se_hope se_hopeAt se_slopAt se_farBits se_gain se_worth ch_both ch_cost ch_bit cl_bits fi_sets ps_act ps_whom ps_amount i0_seatOf i0_one i0_other i0_kind i0_years i0_sawn i1_seatOf i1_one i1_other i1_kind i1_years i1_sawn i2_seatOf i2_one i2_other i2_kind i2_years i2_sawn : Nat → Int32} {rd_word : Int64} {l2 : Int32} {l4 : Int32} {o : Int32 × (Nat → Int32)} (C : xC p s m args meth c cX10_draw 8 RX10 E A none) (J : ∀ (H : Heap) (locs : List Loc) (ls : Array Slot), xG s E A (wX E ad x_imageCount x_lastTrouble x_lastFault x_lastPlace pa_names pa_faultNumber pa_faultPlace rd_tape rd_length rd_end rd_next rd_sort rd_start rd_value rd_word to_unsurePair to_unsureYears to_triedPair to_seats to_slack to_sawInches to_quarrelChance to_people to_forkBits to_unsure to_tried to_triedFedBits tf_seatOf tf_one tf_other tf_kind tf_years tf_sawn tf_pairs tf_gone bd_unsurePair bd_unsureYears bd_triedPair bd_seats bd_slack bd_sawInches bd_quarrelChance bd_people bd_forkBits bd_unsure bd_tried bd_triedFedBits bf_seatOf bf_one bf_other bf_kind bf_years bf_sawn bf_pairs bf_gone nw_seatOf nw_one nw_other nw_kind nw_years nw_sawn nw_pairs nw_gone sc_seatOf o.2 sc_both sc_slopOf sc_forkBits sc_canBits sc_bestBits sc_bestSlops sl_bits sl_count se_bestRow se_row se_pairAt se_hope se_hopeAt se_slopAt se_farBits se_gain se_worth se_bestWorth se_fresh ch_both ch_cost ch_bit ch_items ch_leastCost ch_leastBits cl_bits cl_count fi_sets fi_count ps_act ps_whom ps_amount ps_next ps_count i0_seatOf i0_one i0_other i0_kind i0_years i0_sawn i0_pairs i0_gone i1_seatOf i1_one i1_other i1_kind i1_years i1_sawn i1_pairs i1_gone i2_seatOf i2_one i2_other i2_kind i2_years i2_sawn i2_pairs i2_gone) H locs → lv_has ls 8 [(0, .ref (ad 0)), (2, .int l2), (3, .int o.1), (4, .int l4)] → W p l e (xR 4 85) s m args below meth c H locs 0 0 Q (F0 m 135 ls [])) :
    ∀ (n : Nat) (l3 : Int32) (l5 : Int32) (sc_handle : Nat → Int32) (H : Heap) (locs : List Loc) (ls : Array Slot), xG s E A (wX E ad x_imageCount x_lastTrouble x_lastFault x_lastPlace pa_names pa_faultNumber pa_faultPlace rd_tape rd_length rd_end rd_next rd_sort rd_start rd_value rd_word to_unsurePair to_unsureYears to_triedPair to_seats to_slack to_sawInches to_quarrelChance to_people to_forkBits to_unsure to_tried to_triedFedBits tf_seatOf tf_one tf_other tf_kind tf_years tf_sawn tf_pairs tf_gone bd_unsurePair bd_unsureYears bd_triedPair bd_seats bd_slack bd_sawInches bd_quarrelChance bd_people bd_forkBits bd_unsure bd_tried bd_triedFedBits bf_seatOf bf_one bf_other bf_kind bf_years bf_sawn bf_pairs bf_gone nw_seatOf nw_one nw_other nw_kind nw_years nw_sawn nw_pairs nw_gone sc_seatOf sc_handle sc_both sc_slopOf sc_forkBits sc_canBits sc_bestBits sc_bestSlops sl_bits sl_count se_bestRow se_row se_pairAt se_hope se_hopeAt se_slopAt se_farBits se_gain se_worth se_bestWorth se_fresh ch_both ch_cost ch_bit ch_items ch_leastCost ch_leastBits cl_bits cl_count fi_sets fi_count ps_act ps_whom ps_amount ps_next ps_count i0_seatOf i0_one i0_other i0_kind i0_years i0_sawn i0_pairs i0_gone i1_seatOf i1_one i1_other i1_kind i1_years i1_sawn i1_pairs i1_gone i2_seatOf i2_one i2_other i2_kind i2_years i2_sawn i2_pairs i2_gone) H locs → lv_has ls 8 [(0, .ref (ad 0)), (2, .int l2), (3, .int l3), (4, .int l4), (5, .int l5)] → f_X_draw_L21 bd_sawInches bd_quarrelChance nw_kind nw_pairs n l3 l5 sc_handle = some o → W p l e (xR 4 85) s m args below meth c H locs 0 0 Q (F0 m 21 ls []) := by
  have hx := C.1
  have hb := C.2.1
  intro n
  induction n with
  | zero =>
    intro l3 l5 sc_handle H locs ls G hl hf
    exact nomatch (show (none : Option (Int32 × (Nat → Int32))) = some o from hf)
  | succ n ih =>
    intro l3 l5 sc_handle H locs ls G hl hf
    rw [f_X_draw_L21] at hf
    refine lv_iload hx hb dX10_draw_21 (lv_at hl 4 rfl) ?_
    refine lv_aload_n hx hb dX10_draw_23 rfl (lv_at hl 0 rfl) ?_
    refine x_get C G fX10_26 (wX_at0) rfl dX10_draw_24 ?_
    refine x_get C G fX10_282.g (wX_at28) rfl dX10_draw_27 ?_
    refine lv_icmp_ge (tgt := 135) hx hb dX10_draw_30 (by decide) (fun h => ?_) (fun h => ?_)
    · have hf := it_t h hf
      obtain rfl := Option.some.inj hf
      exact J _ _ _ G (lv_sub hl [0, 1, 2, 3] rfl)
    · have hf := it_f h hf
      refine lv_bipush (v := 75) hx hb dX10_draw_33 (by decide) ?_
      refine lv_iload_n hx hb dX10_draw_35 rfl (lv_at hl 2 rfl) ?_
      refine lv_imul hx hb dX10_draw_36 ?_
      refine lv_bipush (v := 74) hx hb dX10_draw_37 (by decide) ?_
      refine lv_iadd hx hb dX10_draw_39 ?_
      refine lv_ldcw hx hb C.2.2.2.1 (C.2.2.2.2.1 _ qX10_421) dX10_draw_40 ?_
      refine lv_irem hx hb dX10_draw_43 (by decide) ?_
      refine lv_topi (fun x2 ex2 => ?_)
      have hf := lt_go ex2 hf
      refine lv_istore_n (lv' := [(3, .int x2), (0, .ref (ad 0)), (2, .int l2), (4, .int l4), (5, .int l5)]) hx hb dX10_draw_44 rfl hl (by decide) rfl (fun ls hl => ?_)
      refine lv_aload_n hx hb dX10_draw_45 rfl (lv_at hl 1 rfl) ?_
      refine x_get C G fX10_26 (wX_at0) rfl dX10_draw_46 ?_
      refine x_get C G fX10_157 (wX_at28) rfl dX10_draw_49 ?_
      refine lv_iload hx hb dX10_draw_52 (lv_at hl 4 rfl) ?_
      have hi := ck_in hf
      have hf := ck_go hf
      refine x_iald C G (wX_at32) hi dX10_draw_54 ?_
      refine lv_iconst (v := 2) hx hb dX10_draw_55 (by decide) ?_
      refine lv_icmp_eq (tgt := 129) hx hb dX10_draw_56 (by decide) (fun h => ?_) (fun h => ?_)
      · have hf := it_t h hf
        obtain ⟨x3, ex3⟩ : ∃ z : Int32, z = l5 + (1 : Int32) := ⟨_, rfl⟩
        have hf := lt_go ex3 hf
        refine lv_iinc (v := x3) (lv' := [(5, .int x3), (3, .int x2), (0, .ref (ad 0)), (2, .int l2), (4, .int l4)]) hx hb dX10_draw_129 hl (k := 4) rfl (by rw [ex3]; rfl) (by decide) rfl (fun ls hl => ?_)
        refine lv_goto (tgt := 21) hx hb dX10_draw_132 (by decide) ?_
        exact ih x2 x3 sc_handle _ _ _ G (lv_sub hl [2, 3, 1, 4, 0] rfl) hf
      · have hf := it_f h hf
        refine lv_aload_n hx hb dX10_draw_59 rfl (lv_at hl 1 rfl) ?_
        refine x_get C G fX10_35 (wX_at0) rfl dX10_draw_60 ?_
        refine x_get C G fX10_337 (wX_at35) rfl dX10_draw_63 ?_
        refine lv_iload hx hb dX10_draw_66 (lv_at hl 4 rfl) ?_
        have hi := ck_in hf
        have hf := ck_go hf
        refine x_iald C G (wX_at37) hi dX10_draw_68 ?_
        refine lv_iconst (v := 1) hx hb dX10_draw_69 (by decide) ?_
        refine lv_iadd hx hb dX10_draw_70 ?_
        refine lv_topi (fun x4 ex4 => ?_)
        have hf := lt_go ex4 hf
        refine lv_istore (lv' := [(6, .int x4), (3, .int x2), (0, .ref (ad 0)), (2, .int l2), (4, .int l4), (5, .int l5)]) hx hb dX10_draw_71 hl (by decide) rfl (fun ls hl => ?_)
        refine lv_iload_n hx hb dX10_draw_73 rfl (lv_at hl 1 rfl) ?_
        refine lv_bipush (v := 100) hx hb dX10_draw_74 (by decide) ?_
        refine lv_irem hx hb dX10_draw_76 (by decide) ?_
        refine lv_aload_n hx hb dX10_draw_77 rfl (lv_at hl 2 rfl) ?_
        refine x_get C G fX10_22 (wX_at0) rfl dX10_draw_78 ?_
        refine x_get C G fX10_373.g (wX_at17) rfl dX10_draw_81 ?_
        obtain ⟨x5, hrx5, hf⟩ := bd_go hf
        have Jx5 : ∀ (H : Heap) (locs : List Loc) (ls : Array Slot), xG s E A (wX E ad x_imageCount x_lastTrouble x_lastFault x_lastPlace pa_names pa_faultNumber pa_faultPlace rd_tape rd_length rd_end rd_next rd_sort rd_start rd_value rd_word to_unsurePair to_unsureYears to_triedPair to_seats to_slack to_sawInches to_quarrelChance to_people to_forkBits to_unsure to_tried to_triedFedBits tf_seatOf tf_one tf_other tf_kind tf_years tf_sawn tf_pairs tf_gone bd_unsurePair bd_unsureYears bd_triedPair bd_seats bd_slack bd_sawInches bd_quarrelChance bd_people bd_forkBits bd_unsure bd_tried bd_triedFedBits bf_seatOf bf_one bf_other bf_kind bf_years bf_sawn bf_pairs bf_gone nw_seatOf nw_one nw_other nw_kind nw_years nw_sawn nw_pairs nw_gone sc_seatOf sc_handle sc_both sc_slopOf sc_forkBits sc_canBits sc_bestBits sc_bestSlops sl_bits sl_count se_bestRow se_row se_pairAt se_hope se_hopeAt se_slopAt se_farBits se_gain se_worth se_bestWorth se_fresh ch_both ch_cost ch_bit ch_items ch_leastCost ch_leastBits cl_bits cl_count fi_sets fi_count ps_act ps_whom ps_amount ps_next ps_count i0_seatOf i0_one i0_other i0_kind i0_years i0_sawn i0_pairs i0_gone i1_seatOf i1_one i1_other i1_kind i1_years i1_sawn i1_pairs i1_gone i2_seatOf i2_one i2_other i2_kind i2_years i2_sawn i2_pairs i2_gone) H locs → lv_has ls 8 [(0, .ref (ad 0)), (2, .int l2), (3, .int x2), (4, .int l4), (5, .int l5), (6, .int x4)] → W p l e (xR 4 85) s m args below meth c H locs 0 0 Q (F0 m 92 ls [.int x5]) := by
          intro H locs ls G hl
          refine lv_istore (lv' := [(7, .int x5), (0, .ref (ad 0)), (2, .int l2), (3, .int x2), (4, .int l4), (5, .int l5), (6, .int x4)]) hx hb dX10_draw_92 hl (by decide) rfl (fun ls hl => ?_)
          refine lv_aload_n hx hb dX10_draw_94 rfl (lv_at hl 1 rfl) ?_
          refine x_get C G fX10_35 (wX_at0) rfl dX10_draw_95 ?_
          refine x_get C G fX10_337 (wX_at35) rfl dX10_draw_98 ?_
          refine lv_iload hx hb dX10_draw_101 (lv_at hl 5 rfl) ?_
          refine lv_iload hx hb dX10_draw_103 (lv_at hl 0 rfl) ?_
          obtain ⟨x6, hrx6, hf⟩ := bd_go hf
          have Jx6 : ∀ (H : Heap) (locs : List Loc) (ls : Array Slot), xG s E A (wX E ad x_imageCount x_lastTrouble x_lastFault x_lastPlace pa_names pa_faultNumber pa_faultPlace rd_tape rd_length rd_end rd_next rd_sort rd_start rd_value rd_word to_unsurePair to_unsureYears to_triedPair to_seats to_slack to_sawInches to_quarrelChance to_people to_forkBits to_unsure to_tried to_triedFedBits tf_seatOf tf_one tf_other tf_kind tf_years tf_sawn tf_pairs tf_gone bd_unsurePair bd_unsureYears bd_triedPair bd_seats bd_slack bd_sawInches bd_quarrelChance bd_people bd_forkBits bd_unsure bd_tried bd_triedFedBits bf_seatOf bf_one bf_other bf_kind bf_years bf_sawn bf_pairs bf_gone nw_seatOf nw_one nw_other nw_kind nw_years nw_sawn nw_pairs nw_gone sc_seatOf sc_handle sc_both sc_slopOf sc_forkBits sc_canBits sc_bestBits sc_bestSlops sl_bits sl_count se_bestRow se_row se_pairAt se_hope se_hopeAt se_slopAt se_farBits se_gain se_worth se_bestWorth se_fresh ch_both ch_cost ch_bit ch_items ch_leastCost ch_leastBits cl_bits cl_count fi_sets fi_count ps_act ps_whom ps_amount ps_next ps_count i0_seatOf i0_one i0_other i0_kind i0_years i0_sawn i0_pairs i0_gone i1_seatOf i1_one i1_other i1_kind i1_years i1_sawn i1_pairs i1_gone i2_seatOf i2_one i2_other i2_kind i2_years i2_sawn i2_pairs i2_gone) H locs → lv_has ls 8 [(0, .ref (ad 0)), (2, .int l2), (3, .int x2), (4, .int l4), (5, .int l5)] → W p l e (xR 4 85) s m args below meth c H locs 0 0 Q (F0 m 128 ls [.int x6, .int l5, .ref (ad 37)]) := by
            intro H locs ls G hl
            have hi := ck_in hf
            have hf := ck_go hf
            refine x_iast (ws' := (wX E ad x_imageCount x_lastTrouble x_lastFault x_lastPlace pa_names pa_faultNumber pa_faultPlace rd_tape rd_length rd_end rd_next rd_sort rd_start rd_value rd_word to_unsurePair to_unsureYears to_triedPair to_seats to_slack to_sawInches to_quarrelChance to_people to_forkBits to_unsure to_tried to_triedFedBits tf_seatOf tf_one tf_other tf_kind tf_years tf_sawn tf_pairs tf_gone bd_unsurePair bd_unsureYears bd_triedPair bd_seats bd_slack bd_sawInches bd_quarrelChance bd_people bd_forkBits bd_unsure bd_tried bd_triedFedBits bf_seatOf bf_one bf_other bf_kind bf_years bf_sawn bf_pairs bf_gone nw_seatOf nw_one nw_other nw_kind nw_years nw_sawn nw_pairs nw_gone sc_seatOf (upd sc_handle l5.toNatClampNeg x6) sc_both sc_slopOf sc_forkBits sc_canBits sc_bestBits sc_bestSlops sl_bits sl_count se_bestRow se_row se_pairAt se_hope se_hopeAt se_slopAt se_farBits se_gain se_worth se_bestWorth se_fresh ch_both ch_cost ch_bit ch_items ch_leastCost ch_leastBits cl_bits cl_count fi_sets fi_count ps_act ps_whom ps_amount ps_next ps_count i0_seatOf i0_one i0_other i0_kind i0_years i0_sawn i0_pairs i0_gone i1_seatOf i1_one i1_other i1_kind i1_years i1_sawn i1_pairs i1_gone i2_seatOf i2_one i2_other i2_kind i2_years i2_sawn i2_pairs i2_gone)) C G (wX_at37) hi wX_set_sc_handle dX10_draw_128 (fun H locs G => ?_)
            obtain ⟨x7, ex7⟩ : ∃ z : Int32, z = l5 + (1 : Int32) := ⟨_, rfl⟩
            have hf := lt_go ex7 hf
            refine lv_iinc (v := x7) (lv' := [(5, .int x7), (0, .ref (ad 0)), (2, .int l2), (3, .int x2), (4, .int l4)]) hx hb dX10_draw_129 hl (k := 4) rfl (by rw [ex7]; rfl) (by decide) rfl (fun ls hl => ?_)
            refine lv_goto (tgt := 21) hx hb dX10_draw_132 (by decide) ?_
            exact ih x2 x7 (upd sc_handle l5.toNatClampNeg x6) _ _ _ G (lv_sub hl [1, 2, 3, 4, 0] rfl) hf
          have hf := hrx6
          refine lv_if_eq (tgt := 126) hx hb dX10_draw_105 (by decide) (fun h => ?_) (fun h => ?_)
          · have hf := it_t h hf
            refine lv_iload hx hb dX10_draw_126 (lv_at hl 6 rfl) ?_
            obtain rfl := Option.some.inj hf
            exact Jx6 _ _ _ G (lv_sub hl [1, 2, 3, 4, 5] rfl)
          · have hf := it_f h hf
            refine lv_iload hx hb dX10_draw_108 (lv_at hl 6 rfl) ?_
            refine lv_aload_n hx hb dX10_draw_110 rfl (lv_at hl 1 rfl) ?_
            refine x_get C G fX10_22 (wX_at0) rfl dX10_draw_111 ?_
            refine x_get C G fX10_349.g (wX_at17) rfl dX10_draw_114 ?_
            refine lv_iload hx hb dX10_draw_117 (lv_at hl 6 rfl) ?_
            refine x_min C mMath_min kX10_352 hl.1 (Nat.le_of_ble_eq_true rfl) (Nat.le_of_ble_eq_true rfl) ⟨Nat.le_refl _, Nat.le_refl _⟩ dX10_draw_119 ?_
            refine lv_isub hx hb dX10_draw_122 ?_
            refine lv_goto (tgt := 128) hx hb dX10_draw_123 (by decide) ?_
            obtain rfl := Option.some.inj hf
            exact Jx6 _ _ _ G (lv_sub hl [1, 2, 3, 4, 5] rfl)
        have hf := hrx5
        refine lv_icmp_ge (tgt := 91) hx hb dX10_draw_84 (by decide) (fun h => ?_) (fun h => ?_)
        · have hf := it_t h hf
          refine lv_iconst (v := 0) hx hb dX10_draw_91 (by decide) ?_
          obtain rfl := Option.some.inj hf
          exact Jx5 _ _ _ G (lv_sub hl [2, 3, 1, 4, 5, 0] rfl)
        · have hf := it_f h hf
          refine lv_iconst (v := 1) hx hb dX10_draw_87 (by decide) ?_
          refine lv_goto (tgt := 92) hx hb dX10_draw_88 (by decide) ?_
          obtain rfl := Option.some.inj hf
          exact Jx5 _ _ _ G (lv_sub hl [2, 3, 1, 4, 5, 0] rfl)
set_option maxHeartbeats 4000000 in
set_option maxRecDepth 100000 in
theorem w_X_draw_x_L12 {p : Program} {l : Launch} {e : Env} {s : State} {m : MethodId} {args : Array Value} {below : List Frame} {meth : Method} {c : Code} {A : Nat → Prop} {E : xE} {Q : State → Prop} {ad : Nat → Nat} {x_imageCount x_lastTrouble x_lastFault x_lastPlace pa_faultNumber pa_faultPlace rd_length rd_end rd_next rd_sort rd_start rd_value to_seats to_slack to_sawInches to_quarrelChance to_people to_forkBits to_unsure to_tried to_triedFedBits tf_pairs tf_gone bd_seats bd_slack bd_sawInches bd_quarrelChance bd_people bd_forkBits bd_unsure bd_tried bd_triedFedBits bf_pairs bf_gone nw_pairs nw_gone sc_forkBits sc_canBits sc_bestBits sc_bestSlops sl_count se_bestWorth se_fresh ch_items ch_leastCost ch_leastBits cl_count fi_count ps_next ps_count i0_pairs i0_gone i1_pairs i1_gone i2_pairs i2_gone : Int32} {pa_names : Nat → Int64} {rd_tape to_unsurePair to_unsureYears to_triedPair tf_seatOf tf_one tf_other tf_kind tf_years tf_sawn bd_unsurePair bd_unsureYears bd_triedPair bf_seatOf bf_one bf_other bf_kind bf_years bf_sawn nw_seatOf nw_one nw_other nw_kind nw_years nw_sawn sc_seatOf sc_both sc_slopOf sl_bits se_bestRow se_row se_pairAt se_hope se_hopeAt se_slopAt se_farBits se_gain se_worth ch_both ch_cost ch_bit cl_bits fi_sets ps_act ps_whom ps_amount i0_seatOf i0_one i0_other i0_kind i0_years i0_sawn i1_seatOf i1_one i1_other i1_kind i1_years i1_sawn i2_seatOf i2_one i2_other i2_kind i2_years i2_sawn : Nat → Int32} {rd_word : Int64} {l2 : Int32} {o : (Nat → Int32)} (C : xC p s m args meth c cX10_draw 8 RX10 E A none) (J : ∀ (H : Heap) (locs : List Loc) (ls : Array Slot), xG s E A (wX E ad x_imageCount x_lastTrouble x_lastFault x_lastPlace pa_names pa_faultNumber pa_faultPlace rd_tape rd_length rd_end rd_next rd_sort rd_start rd_value rd_word to_unsurePair to_unsureYears to_triedPair to_seats to_slack to_sawInches to_quarrelChance to_people to_forkBits to_unsure to_tried to_triedFedBits tf_seatOf tf_one tf_other tf_kind tf_years tf_sawn tf_pairs tf_gone bd_unsurePair bd_unsureYears bd_triedPair bd_seats bd_slack bd_sawInches bd_quarrelChance bd_people bd_forkBits bd_unsure bd_tried bd_triedFedBits bf_seatOf bf_one bf_other bf_kind bf_years bf_sawn bf_pairs bf_gone nw_seatOf nw_one nw_other nw_kind nw_years nw_sawn nw_pairs nw_gone sc_seatOf o sc_both sc_slopOf sc_forkBits sc_canBits sc_bestBits sc_bestSlops sl_bits sl_count se_bestRow se_row se_pairAt se_hope se_hopeAt se_slopAt se_farBits se_gain se_worth se_bestWorth se_fresh ch_both ch_cost ch_bit ch_items ch_leastCost ch_leastBits cl_bits cl_count fi_sets fi_count ps_act ps_whom ps_amount ps_next ps_count i0_seatOf i0_one i0_other i0_kind i0_years i0_sawn i0_pairs i0_gone i1_seatOf i1_one i1_other i1_kind i1_years i1_sawn i1_pairs i1_gone i2_seatOf i2_one i2_other i2_kind i2_years i2_sawn i2_pairs i2_gone) H locs → lv_has ls 8 [] → W p l e (xR 4 85) s m args below meth c H locs 0 0 Q (F0 m 141 ls [])) :
    ∀ (n : Nat) (l3 : Int32) (l4 : Int32) (sc_handle : Nat → Int32) (H : Heap) (locs : List Loc) (ls : Array Slot), xG s E A (wX E ad x_imageCount x_lastTrouble x_lastFault x_lastPlace pa_names pa_faultNumber pa_faultPlace rd_tape rd_length rd_end rd_next rd_sort rd_start rd_value rd_word to_unsurePair to_unsureYears to_triedPair to_seats to_slack to_sawInches to_quarrelChance to_people to_forkBits to_unsure to_tried to_triedFedBits tf_seatOf tf_one tf_other tf_kind tf_years tf_sawn tf_pairs tf_gone bd_unsurePair bd_unsureYears bd_triedPair bd_seats bd_slack bd_sawInches bd_quarrelChance bd_people bd_forkBits bd_unsure bd_tried bd_triedFedBits bf_seatOf bf_one bf_other bf_kind bf_years bf_sawn bf_pairs bf_gone nw_seatOf nw_one nw_other nw_kind nw_years nw_sawn nw_pairs nw_gone sc_seatOf sc_handle sc_both sc_slopOf sc_forkBits sc_canBits sc_bestBits sc_bestSlops sl_bits sl_count se_bestRow se_row se_pairAt se_hope se_hopeAt se_slopAt se_farBits se_gain se_worth se_bestWorth se_fresh ch_both ch_cost ch_bit ch_items ch_leastCost ch_leastBits cl_bits cl_count fi_sets fi_count ps_act ps_whom ps_amount ps_next ps_count i0_seatOf i0_one i0_other i0_kind i0_years i0_sawn i0_pairs i0_gone i1_seatOf i1_one i1_other i1_kind i1_years i1_sawn i1_pairs i1_gone i2_seatOf i2_one i2_other i2_kind i2_years i2_sawn i2_pairs i2_gone) H locs → lv_has ls 8 [(0, .ref (ad 0)), (2, .int l2), (3, .int l3), (4, .int l4)] → f_X_draw_L12 l2 bd_sawInches bd_quarrelChance nw_kind nw_pairs n l3 l4 sc_handle = some o → W p l e (xR 4 85) s m args below meth c H locs 0 0 Q (F0 m 12 ls []) := by
  have hx := C.1
  have hb := C.2.1
  intro n
  induction n with
  | zero =>
    intro l3 l4 sc_handle H locs ls G hl hf
    exact nomatch (show (none : Option ((Nat → Int32))) = some o from hf)
  | succ n ih =>
    intro l3 l4 sc_handle H locs ls G hl hf
    rw [f_X_draw_L12] at hf
    refine lv_iload hx hb dX10_draw_12 (lv_at hl 3 rfl) ?_
    refine lv_iload_n hx hb dX10_draw_14 rfl (lv_at hl 1 rfl) ?_
    refine lv_icmp_ge (tgt := 141) hx hb dX10_draw_15 (by decide) (fun h => ?_) (fun h => ?_)
    · have hf := it_t h hf
      obtain rfl := Option.some.inj hf
      exact J _ _ _ G (lv_sub hl [] rfl)
    · have hf := it_f h hf
      refine lv_iconst (v := 0) hx hb dX10_draw_18 (by decide) ?_
      refine lv_istore (lv' := [(5, .int (0 : Int32)), (0, .ref (ad 0)), (2, .int l2), (3, .int l3), (4, .int l4)]) hx hb dX10_draw_19 hl (by decide) rfl (fun ls hl => ?_)
      obtain ⟨x8, hr, hf⟩ := bd_go hf
      have Jx8 : ∀ (H : Heap) (locs : List Loc) (ls : Array Slot), xG s E A (wX E ad x_imageCount x_lastTrouble x_lastFault x_lastPlace pa_names pa_faultNumber pa_faultPlace rd_tape rd_length rd_end rd_next rd_sort rd_start rd_value rd_word to_unsurePair to_unsureYears to_triedPair to_seats to_slack to_sawInches to_quarrelChance to_people to_forkBits to_unsure to_tried to_triedFedBits tf_seatOf tf_one tf_other tf_kind tf_years tf_sawn tf_pairs tf_gone bd_unsurePair bd_unsureYears bd_triedPair bd_seats bd_slack bd_sawInches bd_quarrelChance bd_people bd_forkBits bd_unsure bd_tried bd_triedFedBits bf_seatOf bf_one bf_other bf_kind bf_years bf_sawn bf_pairs bf_gone nw_seatOf nw_one nw_other nw_kind nw_years nw_sawn nw_pairs nw_gone sc_seatOf x8.2 sc_both sc_slopOf sc_forkBits sc_canBits sc_bestBits sc_bestSlops sl_bits sl_count se_bestRow se_row se_pairAt se_hope se_hopeAt se_slopAt se_farBits se_gain se_worth se_bestWorth se_fresh ch_both ch_cost ch_bit ch_items ch_leastCost ch_leastBits cl_bits cl_count fi_sets fi_count ps_act ps_whom ps_amount ps_next ps_count i0_seatOf i0_one i0_other i0_kind i0_years i0_sawn i0_pairs i0_gone i1_seatOf i1_one i1_other i1_kind i1_years i1_sawn i1_pairs i1_gone i2_seatOf i2_one i2_other i2_kind i2_years i2_sawn i2_pairs i2_gone) H locs → lv_has ls 8 [(0, .ref (ad 0)), (2, .int l2), (3, .int x8.1), (4, .int l4)] → W p l e (xR 4 85) s m args below meth c H locs 0 0 Q (F0 m 135 ls []) := by
        intro H locs ls G hl
        obtain ⟨x9, ex9⟩ : ∃ z : Int32, z = l4 + (1 : Int32) := ⟨_, rfl⟩
        have hf := lt_go ex9 hf
        refine lv_iinc (v := x9) (lv' := [(4, .int x9), (0, .ref (ad 0)), (2, .int l2), (3, .int x8.1)]) hx hb dX10_draw_135 hl (k := 3) rfl (by rw [ex9]; rfl) (by decide) rfl (fun ls hl => ?_)
        refine lv_goto (tgt := 12) hx hb dX10_draw_138 (by decide) ?_
        exact ih x8.1 x9 x8.2 _ _ _ G (lv_sub hl [1, 2, 3, 0] rfl) hf
      exact w_X_draw_x_L21 C Jx8 fu _ _ _ _ _ _ G (lv_sub hl [1, 2, 3, 4, 0] rfl) hr
set_option maxHeartbeats 4000000 in
set_option maxRecDepth 100000 in
theorem c_X_draw_x {l : Launch} {E : xE} {ad : Nat → Nat} {x_imageCount x_lastTrouble x_lastFault x_lastPlace pa_faultNumber pa_faultPlace rd_length rd_end rd_next rd_sort rd_start rd_value to_seats to_slack to_sawInches to_quarrelChance to_people to_forkBits to_unsure to_tried to_triedFedBits tf_pairs tf_gone bd_seats bd_slack bd_sawInches bd_quarrelChance bd_people bd_forkBits bd_unsure bd_tried bd_triedFedBits bf_pairs bf_gone nw_pairs nw_gone sc_forkBits sc_canBits sc_bestBits sc_bestSlops sl_count se_bestWorth se_fresh ch_items ch_leastCost ch_leastBits cl_count fi_count ps_next ps_count i0_pairs i0_gone i1_pairs i1_gone i2_pairs i2_gone : Int32} {pa_names : Nat → Int64} {rd_tape to_unsurePair to_unsureYears to_triedPair tf_seatOf tf_one tf_other tf_kind tf_years tf_sawn bd_unsurePair bd_unsureYears bd_triedPair bf_seatOf bf_one bf_other bf_kind bf_years bf_sawn nw_seatOf nw_one nw_other nw_kind nw_years nw_sawn sc_seatOf sc_handle sc_both sc_slopOf sl_bits se_bestRow se_row se_pairAt se_hope se_hopeAt se_slopAt se_farBits se_gain se_worth ch_both ch_cost ch_bit cl_bits fi_sets ps_act ps_whom ps_amount i0_seatOf i0_one i0_other i0_kind i0_years i0_sawn i1_seatOf i1_one i1_other i1_kind i1_years i1_sawn i2_seatOf i2_one i2_other i2_kind i2_years i2_sawn : Nat → Int32} {rd_word : Int64} {l1 : Int32} {l2 : Int32} {R0 : (Nat → Int32) × (Nat → Int32) × Int32} (hf : f_X_draw l1 l2 bd_sawInches bd_quarrelChance bd_forkBits nw_seatOf nw_kind nw_years nw_sawn nw_pairs sc_seatOf sc_handle = some R0) : xV l E yX10_draw cX10_draw 8 none 4 85 [.ref (ad 0), .int l1, .int l2] (wX E ad x_imageCount x_lastTrouble x_lastFault x_lastPlace pa_names pa_faultNumber pa_faultPlace rd_tape rd_length rd_end rd_next rd_sort rd_start rd_value rd_word to_unsurePair to_unsureYears to_triedPair to_seats to_slack to_sawInches to_quarrelChance to_people to_forkBits to_unsure to_tried to_triedFedBits tf_seatOf tf_one tf_other tf_kind tf_years tf_sawn tf_pairs tf_gone bd_unsurePair bd_unsureYears bd_triedPair bd_seats bd_slack bd_sawInches bd_quarrelChance bd_people bd_forkBits bd_unsure bd_tried bd_triedFedBits bf_seatOf bf_one bf_other bf_kind bf_years bf_sawn bf_pairs bf_gone nw_seatOf nw_one nw_other nw_kind nw_years nw_sawn nw_pairs nw_gone sc_seatOf sc_handle sc_both sc_slopOf sc_forkBits sc_canBits sc_bestBits sc_bestSlops sl_bits sl_count se_bestRow se_row se_pairAt se_hope se_hopeAt se_slopAt se_farBits se_gain se_worth se_bestWorth se_fresh ch_both ch_cost ch_bit ch_items ch_leastCost ch_leastBits cl_bits cl_count fi_sets fi_count ps_act ps_whom ps_amount ps_next ps_count i0_seatOf i0_one i0_other i0_kind i0_years i0_sawn i0_pairs i0_gone i1_seatOf i1_one i1_other i1_kind i1_years i1_sawn i1_pairs i1_gone i2_seatOf i2_one i2_other i2_kind i2_years i2_sawn i2_pairs i2_gone) (wX E ad x_imageCount x_lastTrouble x_lastFault x_lastPlace pa_names pa_faultNumber pa_faultPlace rd_tape rd_length rd_end rd_next rd_sort rd_start rd_value rd_word to_unsurePair to_unsureYears to_triedPair to_seats to_slack to_sawInches to_quarrelChance to_people to_forkBits to_unsure to_tried to_triedFedBits tf_seatOf tf_one tf_other tf_kind tf_years tf_sawn tf_pairs tf_gone bd_unsurePair bd_unsureYears bd_triedPair bd_seats bd_slack bd_sawInches bd_quarrelChance bd_people bd_forkBits bd_unsure bd_tried bd_triedFedBits bf_seatOf bf_one bf_other bf_kind bf_years bf_sawn bf_pairs bf_gone nw_seatOf nw_one nw_other nw_kind nw_years nw_sawn nw_pairs nw_gone R0.1 R0.2.1 sc_both sc_slopOf R0.2.2 sc_canBits sc_bestBits sc_bestSlops sl_bits sl_count se_bestRow se_row se_pairAt se_hope se_hopeAt se_slopAt se_farBits se_gain se_worth se_bestWorth se_fresh ch_both ch_cost ch_bit ch_items ch_leastCost ch_leastBits cl_bits cl_count fi_sets fi_count ps_act ps_whom ps_amount ps_next ps_count i0_seatOf i0_one i0_other i0_kind i0_years i0_sawn i0_pairs i0_gone i1_seatOf i1_one i1_other i1_kind i1_years i1_sawn i1_pairs i1_gone i2_seatOf i2_one i2_other i2_kind i2_years i2_sawn i2_pairs i2_gone) := by
  refine xV_of (by decide) (Nat.le_of_ble_eq_true rfl) (fun p e s m args below meth c A C ls hl G => ?_)
  have hx := C.1
  have hb := C.2.1
  have hl : lv_has ls 8 [(0, .ref (ad 0)), (1, .int l1), (2, .int l2)] := hl
  unfold f_X_draw at hf
  refine lv_aload_n hx hb dX10_draw_0 rfl (lv_at hl 0 rfl) ?_
  refine x_get C G fX10_35 (wX_at0) rfl dX10_draw_1 ?_
  obtain ⟨x1, hc, hf⟩ := bd_go hf
  refine xV_V C G (c_Scene_lay_sc hc) mX8_lay kX10_247 (wX_at35) rfl ⟨Nat.le_of_ble_eq_true rfl, Nat.le_of_ble_eq_true rfl⟩ rfl hl.1 rfl (Nat.le_of_ble_eq_true rfl) ⟨Nat.le_refl _, Nat.le_refl _⟩ dX10_draw_4 (fun H locs G => ?_)
  refine lv_iload_n hx hb dX10_draw_7 rfl (lv_at hl 1 rfl) ?_
  refine lv_istore_n (lv' := [(3, .int l1), (0, .ref (ad 0)), (1, .int l1), (2, .int l2)]) hx hb dX10_draw_8 rfl hl (by decide) rfl (fun ls hl => ?_)
  refine lv_iconst (v := 0) hx hb dX10_draw_9 (by decide) ?_
  refine lv_istore (lv' := [(4, .int (0 : Int32)), (3, .int l1), (0, .ref (ad 0)), (1, .int l1), (2, .int l2)]) hx hb dX10_draw_10 hl (by decide) rfl (fun ls hl => ?_)
  obtain ⟨x10, hr, hf⟩ := bd_go hf
  have Jx10 : ∀ (H : Heap) (locs : List Loc) (ls : Array Slot), xG s E A (wX E ad x_imageCount x_lastTrouble x_lastFault x_lastPlace pa_names pa_faultNumber pa_faultPlace rd_tape rd_length rd_end rd_next rd_sort rd_start rd_value rd_word to_unsurePair to_unsureYears to_triedPair to_seats to_slack to_sawInches to_quarrelChance to_people to_forkBits to_unsure to_tried to_triedFedBits tf_seatOf tf_one tf_other tf_kind tf_years tf_sawn tf_pairs tf_gone bd_unsurePair bd_unsureYears bd_triedPair bd_seats bd_slack bd_sawInches bd_quarrelChance bd_people bd_forkBits bd_unsure bd_tried bd_triedFedBits bf_seatOf bf_one bf_other bf_kind bf_years bf_sawn bf_pairs bf_gone nw_seatOf nw_one nw_other nw_kind nw_years nw_sawn nw_pairs nw_gone x1.1 x10 sc_both sc_slopOf x1.2.2 sc_canBits sc_bestBits sc_bestSlops sl_bits sl_count se_bestRow se_row se_pairAt se_hope se_hopeAt se_slopAt se_farBits se_gain se_worth se_bestWorth se_fresh ch_both ch_cost ch_bit ch_items ch_leastCost ch_leastBits cl_bits cl_count fi_sets fi_count ps_act ps_whom ps_amount ps_next ps_count i0_seatOf i0_one i0_other i0_kind i0_years i0_sawn i0_pairs i0_gone i1_seatOf i1_one i1_other i1_kind i1_years i1_sawn i1_pairs i1_gone i2_seatOf i2_one i2_other i2_kind i2_years i2_sawn i2_pairs i2_gone) H locs → lv_has ls 8 [] → W p l e (xR 4 85) s m args below meth c H locs 0 0 (MQ below (xqV E A (wX E ad x_imageCount x_lastTrouble x_lastFault x_lastPlace pa_names pa_faultNumber pa_faultPlace rd_tape rd_length rd_end rd_next rd_sort rd_start rd_value rd_word to_unsurePair to_unsureYears to_triedPair to_seats to_slack to_sawInches to_quarrelChance to_people to_forkBits to_unsure to_tried to_triedFedBits tf_seatOf tf_one tf_other tf_kind tf_years tf_sawn tf_pairs tf_gone bd_unsurePair bd_unsureYears bd_triedPair bd_seats bd_slack bd_sawInches bd_quarrelChance bd_people bd_forkBits bd_unsure bd_tried bd_triedFedBits bf_seatOf bf_one bf_other bf_kind bf_years bf_sawn bf_pairs bf_gone nw_seatOf nw_one nw_other nw_kind nw_years nw_sawn nw_pairs nw_gone R0.1 R0.2.1 sc_both sc_slopOf R0.2.2 sc_canBits sc_bestBits sc_bestSlops sl_bits sl_count se_bestRow se_row se_pairAt se_hope se_hopeAt se_slopAt se_farBits se_gain se_worth se_bestWorth se_fresh ch_both ch_cost ch_bit ch_items ch_leastCost ch_leastBits cl_bits cl_count fi_sets fi_count ps_act ps_whom ps_amount ps_next ps_count i0_seatOf i0_one i0_other i0_kind i0_years i0_sawn i0_pairs i0_gone i1_seatOf i1_one i1_other i1_kind i1_years i1_sawn i1_pairs i1_gone i2_seatOf i2_one i2_other i2_kind i2_years i2_sawn i2_pairs i2_gone)) args s 0 0 A) (F0 m 141 ls []) := by
    intro H locs ls G hl
    obtain rfl := Option.some.inj hf
    exact xV_ret C G dX10_draw_141
  exact w_X_draw_x_L12 C Jx10 fu _ _ _ _ _ _ G (lv_sub hl [2, 4, 1, 0] rfl) hr
set_option maxHeartbeats 4000000 in
set_option maxRecDepth 100000 in
theorem c_X_drawnHandle_x {l : Launch} {E : xE} {ad : Nat → Nat} {x_imageCount x_lastTrouble x_lastFault x_lastPlace pa_faultNumber pa_faultPlace rd_length rd_end rd_next rd_sort rd_start rd_value to_seats to_slack to_sawInches to_quarrelChance to_people to_forkBits to_unsure to_tried to_triedFedBits tf_pairs tf_gone bd_seats bd_slack bd_sawInches bd_quarrelChance bd_people bd_forkBits bd_unsure bd_tried bd_triedFedBits bf_pairs bf_gone nw_pairs nw_gone sc_forkBits sc_canBits sc_bestBits sc_bestSlops sl_count se_bestWorth se_fresh ch_items ch_leastCost ch_leastBits cl_count fi_count ps_next ps_count i0_pairs i0_gone i1_pairs i1_gone i2_pairs i2_gone : Int32} {pa_names : Nat → Int64} {rd_tape to_unsurePair to_unsureYears to_triedPair tf_seatOf tf_one tf_other tf_kind tf_years tf_sawn bd_unsurePair bd_unsureYears bd_triedPair bf_seatOf bf_one bf_other bf_kind bf_years bf_sawn nw_seatOf nw_one nw_other nw_kind nw_years nw_sawn sc_seatOf sc_handle sc_both sc_slopOf sl_bits se_bestRow se_row se_pairAt se_hope se_hopeAt se_slopAt se_farBits se_gain se_worth ch_both ch_cost ch_bit cl_bits fi_sets ps_act ps_whom ps_amount i0_seatOf i0_one i0_other i0_kind i0_years i0_sawn i1_seatOf i1_one i1_other i1_kind i1_years i1_sawn i2_seatOf i2_one i2_other i2_kind i2_years i2_sawn : Nat → Int32} {rd_word : Int64} {l1 : Int32} {l2 : Int32} {l3 : Int32} {R0 : Int32 × Int32 × (Nat → Int32) × (Nat → Int32) × Int32} (hf : f_X_drawnHandle l1 l2 l3 bd_sawInches bd_quarrelChance bd_forkBits nw_seatOf nw_kind nw_years nw_sawn nw_pairs sc_seatOf sc_handle sc_forkBits = some R0) : xI l E yX10_drawnHandle cX10_drawnHandle 4 (some .int) 5 112 [.ref (ad 0), .int l1, .int l2, .int l3] (wX E ad x_imageCount x_lastTrouble x_lastFault x_lastPlace pa_names pa_faultNumber pa_faultPlace rd_tape rd_length rd_end rd_next rd_sort rd_start rd_value rd_word to_unsurePair to_unsureYears to_triedPair to_seats to_slack to_sawInches to_quarrelChance to_people to_forkBits to_unsure to_tried to_triedFedBits tf_seatOf tf_one tf_other tf_kind tf_years tf_sawn tf_pairs tf_gone bd_unsurePair bd_unsureYears bd_triedPair bd_seats bd_slack bd_sawInches bd_quarrelChance bd_people bd_forkBits bd_unsure bd_tried bd_triedFedBits bf_seatOf bf_one bf_other bf_kind bf_years bf_sawn bf_pairs bf_gone nw_seatOf nw_one nw_other nw_kind nw_years nw_sawn nw_pairs nw_gone sc_seatOf sc_handle sc_both sc_slopOf sc_forkBits sc_canBits sc_bestBits sc_bestSlops sl_bits sl_count se_bestRow se_row se_pairAt se_hope se_hopeAt se_slopAt se_farBits se_gain se_worth se_bestWorth se_fresh ch_both ch_cost ch_bit ch_items ch_leastCost ch_leastBits cl_bits cl_count fi_sets fi_count ps_act ps_whom ps_amount ps_next ps_count i0_seatOf i0_one i0_other i0_kind i0_years i0_sawn i0_pairs i0_gone i1_seatOf i1_one i1_other i1_kind i1_years i1_sawn i1_pairs i1_gone i2_seatOf i2_one i2_other i2_kind i2_years i2_sawn i2_pairs i2_gone) (wX E ad x_imageCount R0.2.1 x_lastFault x_lastPlace pa_names pa_faultNumber pa_faultPlace rd_tape rd_length rd_end rd_next rd_sort rd_start rd_value rd_word to_unsurePair to_unsureYears to_triedPair to_seats to_slack to_sawInches to_quarrelChance to_people to_forkBits to_unsure to_tried to_triedFedBits tf_seatOf tf_one tf_other tf_kind tf_years tf_sawn tf_pairs tf_gone bd_unsurePair bd_unsureYears bd_triedPair bd_seats bd_slack bd_sawInches bd_quarrelChance bd_people bd_forkBits bd_unsure bd_tried bd_triedFedBits bf_seatOf bf_one bf_other bf_kind bf_years bf_sawn bf_pairs bf_gone nw_seatOf nw_one nw_other nw_kind nw_years nw_sawn nw_pairs nw_gone R0.2.2.1 R0.2.2.2.1 sc_both sc_slopOf R0.2.2.2.2 sc_canBits sc_bestBits sc_bestSlops sl_bits sl_count se_bestRow se_row se_pairAt se_hope se_hopeAt se_slopAt se_farBits se_gain se_worth se_bestWorth se_fresh ch_both ch_cost ch_bit ch_items ch_leastCost ch_leastBits cl_bits cl_count fi_sets fi_count ps_act ps_whom ps_amount ps_next ps_count i0_seatOf i0_one i0_other i0_kind i0_years i0_sawn i0_pairs i0_gone i1_seatOf i1_one i1_other i1_kind i1_years i1_sawn i1_pairs i1_gone i2_seatOf i2_one i2_other i2_kind i2_years i2_sawn i2_pairs i2_gone) R0.1 := by
  refine xI_of (by decide) (Nat.le_of_ble_eq_true rfl) (fun p e s m args below meth c A C ls hl G => ?_)
  have hx := C.1
  have hb := C.2.1
  have hl : lv_has ls 4 [(0, .ref (ad 0)), (1, .int l1), (2, .int l2), (3, .int l3)] := hl
  unfold f_X_drawnHandle at hf
  refine lv_aload_n hx hb dX10_drawnHandle_0 rfl (lv_at hl 0 rfl) ?_
  refine lv_iload_n hx hb dX10_drawnHandle_1 rfl (lv_at hl 1 rfl) ?_
  obtain ⟨x1, hc, hf⟩ := bd_go hf
  refine xI_V C G (c_X_noPair_x hc) mX10_noPair kX10_142 (wX_at0) rfl ⟨Nat.le_of_ble_eq_true rfl, Nat.le_of_ble_eq_true rfl⟩ rfl hl.1 rfl (Nat.le_of_ble_eq_true rfl) ⟨Nat.le_refl _, Nat.le_refl _⟩ dX10_drawnHandle_2 (fun hz1 H locs G => ?_)
  refine lv_if_eq (tgt := 10) hx hb dX10_drawnHandle_5 (by decide) (fun h => ?_) (fun h => ?_)
  · have hf := it_t h hf
    refine lv_iload_n hx hb dX10_drawnHandle_10 rfl (lv_at hl 2 rfl) ?_
    refine lv_ldcw hx hb C.2.2.2.1 (C.2.2.2.2.1 _ qX10_332) dX10_drawnHandle_11 ?_
    obtain ⟨x2, hc, hf⟩ := bd_go hf
    refine xI_S C G (c_X_within_any hc) mX10_within kX10_216 ⟨Nat.le_of_ble_eq_true rfl, Nat.le_of_ble_eq_true rfl⟩ rfl hl.1 rfl (Nat.le_of_ble_eq_true rfl) ⟨Nat.le_refl _, Nat.le_refl _⟩ dX10_drawnHandle_14 (fun hz2 H locs G => ?_)
    obtain ⟨b3, hr, hf⟩ := bd_go hf
    cases b3 with
    | true =>
      have hf := it_t rfl hf
      have J : ∀ (H : Heap) (locs : List Loc), xG s E A (wX E ad x_imageCount x1.2 x_lastFault x_lastPlace pa_names pa_faultNumber pa_faultPlace rd_tape rd_length rd_end rd_next rd_sort rd_start rd_value rd_word to_unsurePair to_unsureYears to_triedPair to_seats to_slack to_sawInches to_quarrelChance to_people to_forkBits to_unsure to_tried to_triedFedBits tf_seatOf tf_one tf_other tf_kind tf_years tf_sawn tf_pairs tf_gone bd_unsurePair bd_unsureYears bd_triedPair bd_seats bd_slack bd_sawInches bd_quarrelChance bd_people bd_forkBits bd_unsure bd_tried bd_triedFedBits bf_seatOf bf_one bf_other bf_kind bf_years bf_sawn bf_pairs bf_gone nw_seatOf nw_one nw_other nw_kind nw_years nw_sawn nw_pairs nw_gone sc_seatOf sc_handle sc_both sc_slopOf sc_forkBits sc_canBits sc_bestBits sc_bestSlops sl_bits sl_count se_bestRow se_row se_pairAt se_hope se_hopeAt se_slopAt se_farBits se_gain se_worth se_bestWorth se_fresh ch_both ch_cost ch_bit ch_items ch_leastCost ch_leastBits cl_bits cl_count fi_sets fi_count ps_act ps_whom ps_amount ps_next ps_count i0_seatOf i0_one i0_other i0_kind i0_years i0_sawn i0_pairs i0_gone i1_seatOf i1_one i1_other i1_kind i1_years i1_sawn i1_pairs i1_gone i2_seatOf i2_one i2_other i2_kind i2_years i2_sawn i2_pairs i2_gone) H locs → W p l e (xR 5 112) s m args below meth c H locs 0 0 (MQ below (xqI E A (wX E ad x_imageCount R0.2.1 x_lastFault x_lastPlace pa_names pa_faultNumber pa_faultPlace rd_tape rd_length rd_end rd_next rd_sort rd_start rd_value rd_word to_unsurePair to_unsureYears to_triedPair to_seats to_slack to_sawInches to_quarrelChance to_people to_forkBits to_unsure to_tried to_triedFedBits tf_seatOf tf_one tf_other tf_kind tf_years tf_sawn tf_pairs tf_gone bd_unsurePair bd_unsureYears bd_triedPair bd_seats bd_slack bd_sawInches bd_quarrelChance bd_people bd_forkBits bd_unsure bd_tried bd_triedFedBits bf_seatOf bf_one bf_other bf_kind bf_years bf_sawn bf_pairs bf_gone nw_seatOf nw_one nw_other nw_kind nw_years nw_sawn nw_pairs nw_gone R0.2.2.1 R0.2.2.2.1 sc_both sc_slopOf R0.2.2.2.2 sc_canBits sc_bestBits sc_bestSlops sl_bits sl_count se_bestRow se_row se_pairAt se_hope se_hopeAt se_slopAt se_farBits se_gain se_worth se_bestWorth se_fresh ch_both ch_cost ch_bit ch_items ch_leastCost ch_leastBits cl_bits cl_count fi_sets fi_count ps_act ps_whom ps_amount ps_next ps_count i0_seatOf i0_one i0_other i0_kind i0_years i0_sawn i0_pairs i0_gone i1_seatOf i1_one i1_other i1_kind i1_years i1_sawn i1_pairs i1_gone i2_seatOf i2_one i2_other i2_kind i2_years i2_sawn i2_pairs i2_gone) (some .int) R0.1) args s 0 0 A) (F0 m 29 ls []) := by
        intro H locs G
        refine lv_aload_n hx hb dX10_drawnHandle_29 rfl (lv_at hl 0 rfl) ?_
        refine lv_iconst (v := 2) hx hb dX10_drawnHandle_30 (by decide) ?_
        obtain ⟨x4, hc, hf⟩ := bd_go hf
        refine xI_V C G (c_X_refused_x hc) mX10_refused kX10_87 (wX_at0) rfl ⟨Nat.le_of_ble_eq_true rfl, Nat.le_of_ble_eq_true rfl⟩ rfl hl.1 rfl (Nat.le_of_ble_eq_true rfl) ⟨Nat.le_refl _, Nat.le_refl _⟩ dX10_drawnHandle_31 (fun hz H locs G => ?_)
        obtain rfl := Option.some.inj hf
        exact xI_ret C G rfl dX10_drawnHandle_34
      have hf := hr
      clear hr
      refine lv_if_eq (tgt := 29) hx hb dX10_drawnHandle_17 (by decide) (fun h => ?_) (fun h => ?_)
      · have hf := it_t h hf
        exact J _ _ G
      · have hf := it_f h hf
        refine lv_iload_n hx hb dX10_drawnHandle_20 rfl (lv_at hl 3 rfl) ?_
        refine lv_bipush (v := 60) hx hb dX10_drawnHandle_21 (by decide) ?_
        obtain ⟨x5, hc, hf⟩ := bd_go hf
        refine xI_S C G (c_X_within_any hc) mX10_within kX10_216 ⟨Nat.le_of_ble_eq_true rfl, Nat.le_of_ble_eq_true rfl⟩ rfl hl.1 rfl (Nat.le_of_ble_eq_true rfl) ⟨Nat.le_refl _, Nat.le_refl _⟩ dX10_drawnHandle_23 (fun hz5 H locs G => ?_)
        refine lv_if_ne (tgt := 35) hx hb dX10_drawnHandle_26 (by decide) (fun h => ?_) (fun h => ?_)
        · have hf := it_f h hf
          exact absurd (Option.some.inj hf) (by decide)
        · have hf := it_t h hf
          exact J _ _ G
    | false =>
      have hf := it_f (by decide) hf
      have J : ∀ (H : Heap) (locs : List Loc), xG s E A (wX E ad x_imageCount x1.2 x_lastFault x_lastPlace pa_names pa_faultNumber pa_faultPlace rd_tape rd_length rd_end rd_next rd_sort rd_start rd_value rd_word to_unsurePair to_unsureYears to_triedPair to_seats to_slack to_sawInches to_quarrelChance to_people to_forkBits to_unsure to_tried to_triedFedBits tf_seatOf tf_one tf_other tf_kind tf_years tf_sawn tf_pairs tf_gone bd_unsurePair bd_unsureYears bd_triedPair bd_seats bd_slack bd_sawInches bd_quarrelChance bd_people bd_forkBits bd_unsure bd_tried bd_triedFedBits bf_seatOf bf_one bf_other bf_kind bf_years bf_sawn bf_pairs bf_gone nw_seatOf nw_one nw_other nw_kind nw_years nw_sawn nw_pairs nw_gone sc_seatOf sc_handle sc_both sc_slopOf sc_forkBits sc_canBits sc_bestBits sc_bestSlops sl_bits sl_count se_bestRow se_row se_pairAt se_hope se_hopeAt se_slopAt se_farBits se_gain se_worth se_bestWorth se_fresh ch_both ch_cost ch_bit ch_items ch_leastCost ch_leastBits cl_bits cl_count fi_sets fi_count ps_act ps_whom ps_amount ps_next ps_count i0_seatOf i0_one i0_other i0_kind i0_years i0_sawn i0_pairs i0_gone i1_seatOf i1_one i1_other i1_kind i1_years i1_sawn i1_pairs i1_gone i2_seatOf i2_one i2_other i2_kind i2_years i2_sawn i2_pairs i2_gone) H locs → W p l e (xR 5 112) s m args below meth c H locs 0 0 (MQ below (xqI E A (wX E ad x_imageCount R0.2.1 x_lastFault x_lastPlace pa_names pa_faultNumber pa_faultPlace rd_tape rd_length rd_end rd_next rd_sort rd_start rd_value rd_word to_unsurePair to_unsureYears to_triedPair to_seats to_slack to_sawInches to_quarrelChance to_people to_forkBits to_unsure to_tried to_triedFedBits tf_seatOf tf_one tf_other tf_kind tf_years tf_sawn tf_pairs tf_gone bd_unsurePair bd_unsureYears bd_triedPair bd_seats bd_slack bd_sawInches bd_quarrelChance bd_people bd_forkBits bd_unsure bd_tried bd_triedFedBits bf_seatOf bf_one bf_other bf_kind bf_years bf_sawn bf_pairs bf_gone nw_seatOf nw_one nw_other nw_kind nw_years nw_sawn nw_pairs nw_gone R0.2.2.1 R0.2.2.2.1 sc_both sc_slopOf R0.2.2.2.2 sc_canBits sc_bestBits sc_bestSlops sl_bits sl_count se_bestRow se_row se_pairAt se_hope se_hopeAt se_slopAt se_farBits se_gain se_worth se_bestWorth se_fresh ch_both ch_cost ch_bit ch_items ch_leastCost ch_leastBits cl_bits cl_count fi_sets fi_count ps_act ps_whom ps_amount ps_next ps_count i0_seatOf i0_one i0_other i0_kind i0_years i0_sawn i0_pairs i0_gone i1_seatOf i1_one i1_other i1_kind i1_years i1_sawn i1_pairs i1_gone i2_seatOf i2_one i2_other i2_kind i2_years i2_sawn i2_pairs i2_gone) (some .int) R0.1) args s 0 0 A) (F0 m 35 ls []) := by
        intro H locs G
        refine lv_aload_n hx hb dX10_drawnHandle_35 rfl (lv_at hl 0 rfl) ?_
        refine lv_iload_n hx hb dX10_drawnHandle_36 rfl (lv_at hl 2 rfl) ?_
        refine lv_iload_n hx hb dX10_drawnHandle_37 rfl (lv_at hl 3 rfl) ?_
        obtain ⟨x6, hc, hf⟩ := bd_go hf
        refine xV_V C G (c_X_draw_x hc) mX10_draw kX10_333 (wX_at0) rfl ⟨Nat.le_of_ble_eq_true rfl, Nat.le_of_ble_eq_true rfl⟩ rfl hl.1 rfl (Nat.le_of_ble_eq_true rfl) ⟨Nat.le_refl _, Nat.le_refl _⟩ dX10_drawnHandle_38 (fun H locs G => ?_)
        refine lv_aload_n hx hb dX10_drawnHandle_41 rfl (lv_at hl 0 rfl) ?_
        refine x_get C G fX10_35 (wX_at0) rfl dX10_drawnHandle_42 ?_
        refine x_get C G fX10_337 (wX_at35) rfl dX10_drawnHandle_45 ?_
        refine lv_iload_n hx hb dX10_drawnHandle_48 rfl (lv_at hl 1 rfl) ?_
        have hi := ck_in hf
        have hf := ck_go hf
        refine x_iald C G (wX_at37) hi dX10_drawnHandle_49 ?_
        obtain rfl := Option.some.inj hf
        exact xI_ret C G rfl dX10_drawnHandle_50
      have hf := hr
      clear hr
      refine lv_if_eq (tgt := 29) hx hb dX10_drawnHandle_17 (by decide) (fun h => ?_) (fun h => ?_)
      · have hf := it_t h hf
        exact absurd (Option.some.inj hf) (by decide)
      · have hf := it_f h hf
        refine lv_iload_n hx hb dX10_drawnHandle_20 rfl (lv_at hl 3 rfl) ?_
        refine lv_bipush (v := 60) hx hb dX10_drawnHandle_21 (by decide) ?_
        obtain ⟨x7, hc, hf⟩ := bd_go hf
        refine xI_S C G (c_X_within_any hc) mX10_within kX10_216 ⟨Nat.le_of_ble_eq_true rfl, Nat.le_of_ble_eq_true rfl⟩ rfl hl.1 rfl (Nat.le_of_ble_eq_true rfl) ⟨Nat.le_refl _, Nat.le_refl _⟩ dX10_drawnHandle_23 (fun hz7 H locs G => ?_)
        refine lv_if_ne (tgt := 35) hx hb dX10_drawnHandle_26 (by decide) (fun h => ?_) (fun h => ?_)
        · have hf := it_f h hf
          exact J _ _ G
        · have hf := it_t h hf
          exact absurd (Option.some.inj hf) (by decide)
  · have hf := it_f h hf
    refine lv_iconst (v := -1) hx hb dX10_drawnHandle_8 (by decide) ?_
    obtain rfl := Option.some.inj hf
    exact xI_ret C G rfl dX10_drawnHandle_9
set_option maxHeartbeats 4000000 in
set_option maxRecDepth 100000 in
theorem c_X_drawnFed_x {l : Launch} {E : xE} {ad : Nat → Nat} {x_imageCount x_lastTrouble x_lastFault x_lastPlace pa_faultNumber pa_faultPlace rd_length rd_end rd_next rd_sort rd_start rd_value to_seats to_slack to_sawInches to_quarrelChance to_people to_forkBits to_unsure to_tried to_triedFedBits tf_pairs tf_gone bd_seats bd_slack bd_sawInches bd_quarrelChance bd_people bd_forkBits bd_unsure bd_tried bd_triedFedBits bf_pairs bf_gone nw_pairs nw_gone sc_forkBits sc_canBits sc_bestBits sc_bestSlops sl_count se_bestWorth se_fresh ch_items ch_leastCost ch_leastBits cl_count fi_count ps_next ps_count i0_pairs i0_gone i1_pairs i1_gone i2_pairs i2_gone : Int32} {pa_names : Nat → Int64} {rd_tape to_unsurePair to_unsureYears to_triedPair tf_seatOf tf_one tf_other tf_kind tf_years tf_sawn bd_unsurePair bd_unsureYears bd_triedPair bf_seatOf bf_one bf_other bf_kind bf_years bf_sawn nw_seatOf nw_one nw_other nw_kind nw_years nw_sawn sc_seatOf sc_handle sc_both sc_slopOf sl_bits se_bestRow se_row se_pairAt se_hope se_hopeAt se_slopAt se_farBits se_gain se_worth ch_both ch_cost ch_bit cl_bits fi_sets ps_act ps_whom ps_amount i0_seatOf i0_one i0_other i0_kind i0_years i0_sawn i1_seatOf i1_one i1_other i1_kind i1_years i1_sawn i2_seatOf i2_one i2_other i2_kind i2_years i2_sawn : Nat → Int32} {rd_word : Int64} {l1 : Int32} {l2 : Int32} {R0 : Int32 × Int32 × (Nat → Int32) × (Nat → Int32) × (Nat → Int32) × (Nat → Int32) × Int32 × Int32 × Int32 × Int32 × (Nat → Int32) × Int32} (hf : f_X_drawnFed l1 l2 bd_slack bd_sawInches bd_quarrelChance bd_people bd_forkBits nw_seatOf nw_one nw_other nw_kind nw_years nw_sawn nw_pairs sc_seatOf sc_handle sc_both sc_slopOf sc_forkBits sc_canBits sc_bestBits sc_bestSlops sl_bits sl_count = some R0) : xI l E yX10_drawnFed cX10_drawnFed 3 (some .int) 5 115 [.ref (ad 0), .int l1, .int l2] (wX E ad x_imageCount x_lastTrouble x_lastFault x_lastPlace pa_names pa_faultNumber pa_faultPlace rd_tape rd_length rd_end rd_next rd_sort rd_start rd_value rd_word to_unsurePair to_unsureYears to_triedPair to_seats to_slack to_sawInches to_quarrelChance to_people to_forkBits to_unsure to_tried to_triedFedBits tf_seatOf tf_one tf_other tf_kind tf_years tf_sawn tf_pairs tf_gone bd_unsurePair bd_unsureYears bd_triedPair bd_seats bd_slack bd_sawInches bd_quarrelChance bd_people bd_forkBits bd_unsure bd_tried bd_triedFedBits bf_seatOf bf_one bf_other bf_kind bf_years bf_sawn bf_pairs bf_gone nw_seatOf nw_one nw_other nw_kind nw_years nw_sawn nw_pairs nw_gone sc_seatOf sc_handle sc_both sc_slopOf sc_forkBits sc_canBits sc_bestBits sc_bestSlops sl_bits sl_count se_bestRow se_row se_pairAt se_hope se_hopeAt se_slopAt se_farBits se_gain se_worth se_bestWorth se_fresh ch_both ch_cost ch_bit ch_items ch_leastCost ch_leastBits cl_bits cl_count fi_sets fi_count ps_act ps_whom ps_amount ps_next ps_count i0_seatOf i0_one i0_other i0_kind i0_years i0_sawn i0_pairs i0_gone i1_seatOf i1_one i1_other i1_kind i1_years i1_sawn i1_pairs i1_gone i2_seatOf i2_one i2_other i2_kind i2_years i2_sawn i2_pairs i2_gone) (wX E ad x_imageCount R0.2.1 x_lastFault x_lastPlace pa_names pa_faultNumber pa_faultPlace rd_tape rd_length rd_end rd_next rd_sort rd_start rd_value rd_word to_unsurePair to_unsureYears to_triedPair to_seats to_slack to_sawInches to_quarrelChance to_people to_forkBits to_unsure to_tried to_triedFedBits tf_seatOf tf_one tf_other tf_kind tf_years tf_sawn tf_pairs tf_gone bd_unsurePair bd_unsureYears bd_triedPair bd_seats bd_slack bd_sawInches bd_quarrelChance bd_people bd_forkBits bd_unsure bd_tried bd_triedFedBits bf_seatOf bf_one bf_other bf_kind bf_years bf_sawn bf_pairs bf_gone nw_seatOf nw_one nw_other nw_kind nw_years nw_sawn nw_pairs nw_gone R0.2.2.1 R0.2.2.2.1 R0.2.2.2.2.1 R0.2.2.2.2.2.1 R0.2.2.2.2.2.2.1 R0.2.2.2.2.2.2.2.1 R0.2.2.2.2.2.2.2.2.1 R0.2.2.2.2.2.2.2.2.2.1 R0.2.2.2.2.2.2.2.2.2.2.1 R0.2.2.2.2.2.2.2.2.2.2.2 se_bestRow se_row se_pairAt se_hope se_hopeAt se_slopAt se_farBits se_gain se_worth se_bestWorth se_fresh ch_both ch_cost ch_bit ch_items ch_leastCost ch_leastBits cl_bits cl_count fi_sets fi_count ps_act ps_whom ps_amount ps_next ps_count i0_seatOf i0_one i0_other i0_kind i0_years i0_sawn i0_pairs i0_gone i1_seatOf i1_one i1_other i1_kind i1_years i1_sawn i1_pairs i1_gone i2_seatOf i2_one i2_other i2_kind i2_years i2_sawn i2_pairs i2_gone) R0.1 := by
  refine xI_of (by decide) (Nat.le_of_ble_eq_true rfl) (fun p e s m args below meth c A C ls hl G => ?_)
  have hx := C.1
  have hb := C.2.1
  have hl : lv_has ls 3 [(0, .ref (ad 0)), (1, .int l1), (2, .int l2)] := hl
  unfold f_X_drawnFed at hf
  refine lv_aload_n hx hb dX10_drawnFed_0 rfl (lv_at hl 0 rfl) ?_
  obtain ⟨x1, hc, hf⟩ := bd_go hf
  refine xI_V C G (c_X_noTable_x hc) mX10_noTable kX10_187 (wX_at0) rfl ⟨Nat.le_of_ble_eq_true rfl, Nat.le_of_ble_eq_true rfl⟩ rfl hl.1 rfl (Nat.le_of_ble_eq_true rfl) ⟨Nat.le_refl _, Nat.le_refl _⟩ dX10_drawnFed_1 (fun hz1 H locs G => ?_)
  refine lv_if_eq (tgt := 9) hx hb dX10_drawnFed_4 (by decide) (fun h => ?_) (fun h => ?_)
  · have hf := it_t h hf
    refine lv_iload_n hx hb dX10_drawnFed_9 rfl (lv_at hl 1 rfl) ?_
    refine lv_ldcw hx hb C.2.2.2.1 (C.2.2.2.2.1 _ qX10_332) dX10_drawnFed_10 ?_
    obtain ⟨x2, hc, hf⟩ := bd_go hf
    refine xI_S C G (c_X_within_any hc) mX10_within kX10_216 ⟨Nat.le_of_ble_eq_true rfl, Nat.le_of_ble_eq_true rfl⟩ rfl hl.1 rfl (Nat.le_of_ble_eq_true rfl) ⟨Nat.le_refl _, Nat.le_refl _⟩ dX10_drawnFed_13 (fun hz2 H locs G => ?_)
    obtain ⟨b3, hr, hf⟩ := bd_go hf
    cases b3 with
    | true =>
      have hf := it_t rfl hf
      have J : ∀ (H : Heap) (locs : List Loc), xG s E A (wX E ad x_imageCount x1.2 x_lastFault x_lastPlace pa_names pa_faultNumber pa_faultPlace rd_tape rd_length rd_end rd_next rd_sort rd_start rd_value rd_word to_unsurePair to_unsureYears to_triedPair to_seats to_slack to_sawInches to_quarrelChance to_people to_forkBits to_unsure to_tried to_triedFedBits tf_seatOf tf_one tf_other tf_kind tf_years tf_sawn tf_pairs tf_gone bd_unsurePair bd_unsureYears bd_triedPair bd_seats bd_slack bd_sawInches bd_quarrelChance bd_people bd_forkBits bd_unsure bd_tried bd_triedFedBits bf_seatOf bf_one bf_other bf_kind bf_years bf_sawn bf_pairs bf_gone nw_seatOf nw_one nw_other nw_kind nw_years nw_sawn nw_pairs nw_gone sc_seatOf sc_handle sc_both sc_slopOf sc_forkBits sc_canBits sc_bestBits sc_bestSlops sl_bits sl_count se_bestRow se_row se_pairAt se_hope se_hopeAt se_slopAt se_farBits se_gain se_worth se_bestWorth se_fresh ch_both ch_cost ch_bit ch_items ch_leastCost ch_leastBits cl_bits cl_count fi_sets fi_count ps_act ps_whom ps_amount ps_next ps_count i0_seatOf i0_one i0_other i0_kind i0_years i0_sawn i0_pairs i0_gone i1_seatOf i1_one i1_other i1_kind i1_years i1_sawn i1_pairs i1_gone i2_seatOf i2_one i2_other i2_kind i2_years i2_sawn i2_pairs i2_gone) H locs → W p l e (xR 5 115) s m args below meth c H locs 0 0 (MQ below (xqI E A (wX E ad x_imageCount R0.2.1 x_lastFault x_lastPlace pa_names pa_faultNumber pa_faultPlace rd_tape rd_length rd_end rd_next rd_sort rd_start rd_value rd_word to_unsurePair to_unsureYears to_triedPair to_seats to_slack to_sawInches to_quarrelChance to_people to_forkBits to_unsure to_tried to_triedFedBits tf_seatOf tf_one tf_other tf_kind tf_years tf_sawn tf_pairs tf_gone bd_unsurePair bd_unsureYears bd_triedPair bd_seats bd_slack bd_sawInches bd_quarrelChance bd_people bd_forkBits bd_unsure bd_tried bd_triedFedBits bf_seatOf bf_one bf_other bf_kind bf_years bf_sawn bf_pairs bf_gone nw_seatOf nw_one nw_other nw_kind nw_years nw_sawn nw_pairs nw_gone R0.2.2.1 R0.2.2.2.1 R0.2.2.2.2.1 R0.2.2.2.2.2.1 R0.2.2.2.2.2.2.1 R0.2.2.2.2.2.2.2.1 R0.2.2.2.2.2.2.2.2.1 R0.2.2.2.2.2.2.2.2.2.1 R0.2.2.2.2.2.2.2.2.2.2.1 R0.2.2.2.2.2.2.2.2.2.2.2 se_bestRow se_row se_pairAt se_hope se_hopeAt se_slopAt se_farBits se_gain se_worth se_bestWorth se_fresh ch_both ch_cost ch_bit ch_items ch_leastCost ch_leastBits cl_bits cl_count fi_sets fi_count ps_act ps_whom ps_amount ps_next ps_count i0_seatOf i0_one i0_other i0_kind i0_years i0_sawn i0_pairs i0_gone i1_seatOf i1_one i1_other i1_kind i1_years i1_sawn i1_pairs i1_gone i2_seatOf i2_one i2_other i2_kind i2_years i2_sawn i2_pairs i2_gone) (some .int) R0.1) args s 0 0 A) (F0 m 28 ls []) := by
        intro H locs G
        refine lv_aload_n hx hb dX10_drawnFed_28 rfl (lv_at hl 0 rfl) ?_
        refine lv_iconst (v := 2) hx hb dX10_drawnFed_29 (by decide) ?_
        obtain ⟨x4, hc, hf⟩ := bd_go hf
        refine xI_V C G (c_X_refused_x hc) mX10_refused kX10_87 (wX_at0) rfl ⟨Nat.le_of_ble_eq_true rfl, Nat.le_of_ble_eq_true rfl⟩ rfl hl.1 rfl (Nat.le_of_ble_eq_true rfl) ⟨Nat.le_refl _, Nat.le_refl _⟩ dX10_drawnFed_30 (fun hz H locs G => ?_)
        obtain rfl := Option.some.inj hf
        exact xI_ret C G rfl dX10_drawnFed_33
      have hf := hr
      clear hr
      refine lv_if_eq (tgt := 28) hx hb dX10_drawnFed_16 (by decide) (fun h => ?_) (fun h => ?_)
      · have hf := it_t h hf
        exact J _ _ G
      · have hf := it_f h hf
        refine lv_iload_n hx hb dX10_drawnFed_19 rfl (lv_at hl 2 rfl) ?_
        refine lv_bipush (v := 60) hx hb dX10_drawnFed_20 (by decide) ?_
        obtain ⟨x5, hc, hf⟩ := bd_go hf
        refine xI_S C G (c_X_within_any hc) mX10_within kX10_216 ⟨Nat.le_of_ble_eq_true rfl, Nat.le_of_ble_eq_true rfl⟩ rfl hl.1 rfl (Nat.le_of_ble_eq_true rfl) ⟨Nat.le_refl _, Nat.le_refl _⟩ dX10_drawnFed_22 (fun hz5 H locs G => ?_)
        refine lv_if_ne (tgt := 34) hx hb dX10_drawnFed_25 (by decide) (fun h => ?_) (fun h => ?_)
        · have hf := it_f h hf
          exact absurd (Option.some.inj hf) (by decide)
        · have hf := it_t h hf
          exact J _ _ G
    | false =>
      have hf := it_f (by decide) hf
      have J : ∀ (H : Heap) (locs : List Loc), xG s E A (wX E ad x_imageCount x1.2 x_lastFault x_lastPlace pa_names pa_faultNumber pa_faultPlace rd_tape rd_length rd_end rd_next rd_sort rd_start rd_value rd_word to_unsurePair to_unsureYears to_triedPair to_seats to_slack to_sawInches to_quarrelChance to_people to_forkBits to_unsure to_tried to_triedFedBits tf_seatOf tf_one tf_other tf_kind tf_years tf_sawn tf_pairs tf_gone bd_unsurePair bd_unsureYears bd_triedPair bd_seats bd_slack bd_sawInches bd_quarrelChance bd_people bd_forkBits bd_unsure bd_tried bd_triedFedBits bf_seatOf bf_one bf_other bf_kind bf_years bf_sawn bf_pairs bf_gone nw_seatOf nw_one nw_other nw_kind nw_years nw_sawn nw_pairs nw_gone sc_seatOf sc_handle sc_both sc_slopOf sc_forkBits sc_canBits sc_bestBits sc_bestSlops sl_bits sl_count se_bestRow se_row se_pairAt se_hope se_hopeAt se_slopAt se_farBits se_gain se_worth se_bestWorth se_fresh ch_both ch_cost ch_bit ch_items ch_leastCost ch_leastBits cl_bits cl_count fi_sets fi_count ps_act ps_whom ps_amount ps_next ps_count i0_seatOf i0_one i0_other i0_kind i0_years i0_sawn i0_pairs i0_gone i1_seatOf i1_one i1_other i1_kind i1_years i1_sawn i1_pairs i1_gone i2_seatOf i2_one i2_other i2_kind i2_years i2_sawn i2_pairs i2_gone) H locs → W p l e (xR 5 115) s m args below meth c H locs 0 0 (MQ below (xqI E A (wX E ad x_imageCount R0.2.1 x_lastFault x_lastPlace pa_names pa_faultNumber pa_faultPlace rd_tape rd_length rd_end rd_next rd_sort rd_start rd_value rd_word to_unsurePair to_unsureYears to_triedPair to_seats to_slack to_sawInches to_quarrelChance to_people to_forkBits to_unsure to_tried to_triedFedBits tf_seatOf tf_one tf_other tf_kind tf_years tf_sawn tf_pairs tf_gone bd_unsurePair bd_unsureYears bd_triedPair bd_seats bd_slack bd_sawInches bd_quarrelChance bd_people bd_forkBits bd_unsure bd_tried bd_triedFedBits bf_seatOf bf_one bf_other bf_kind bf_years bf_sawn bf_pairs bf_gone nw_seatOf nw_one nw_other nw_kind nw_years nw_sawn nw_pairs nw_gone R0.2.2.1 R0.2.2.2.1 R0.2.2.2.2.1 R0.2.2.2.2.2.1 R0.2.2.2.2.2.2.1 R0.2.2.2.2.2.2.2.1 R0.2.2.2.2.2.2.2.2.1 R0.2.2.2.2.2.2.2.2.2.1 R0.2.2.2.2.2.2.2.2.2.2.1 R0.2.2.2.2.2.2.2.2.2.2.2 se_bestRow se_row se_pairAt se_hope se_hopeAt se_slopAt se_farBits se_gain se_worth se_bestWorth se_fresh ch_both ch_cost ch_bit ch_items ch_leastCost ch_leastBits cl_bits cl_count fi_sets fi_count ps_act ps_whom ps_amount ps_next ps_count i0_seatOf i0_one i0_other i0_kind i0_years i0_sawn i0_pairs i0_gone i1_seatOf i1_one i1_other i1_kind i1_years i1_sawn i1_pairs i1_gone i2_seatOf i2_one i2_other i2_kind i2_years i2_sawn i2_pairs i2_gone) (some .int) R0.1) args s 0 0 A) (F0 m 34 ls []) := by
        intro H locs G
        refine lv_aload_n hx hb dX10_drawnFed_34 rfl (lv_at hl 0 rfl) ?_
        refine lv_iload_n hx hb dX10_drawnFed_35 rfl (lv_at hl 1 rfl) ?_
        refine lv_iload_n hx hb dX10_drawnFed_36 rfl (lv_at hl 2 rfl) ?_
        obtain ⟨x6, hc, hf⟩ := bd_go hf
        refine xV_V C G (c_X_draw_x hc) mX10_draw kX10_333 (wX_at0) rfl ⟨Nat.le_of_ble_eq_true rfl, Nat.le_of_ble_eq_true rfl⟩ rfl hl.1 rfl (Nat.le_of_ble_eq_true rfl) ⟨Nat.le_refl _, Nat.le_refl _⟩ dX10_drawnFed_37 (fun H locs G => ?_)
        refine lv_aload_n hx hb dX10_drawnFed_40 rfl (lv_at hl 0 rfl) ?_
        refine x_get C G fX10_35 (wX_at0) rfl dX10_drawnFed_41 ?_
        obtain ⟨x7, hc, hf⟩ := bd_go hf
        refine xV_V C G (c_Scene_settle_sc hc) mX8_settle kX10_251 (wX_at35) rfl ⟨Nat.le_of_ble_eq_true rfl, Nat.le_of_ble_eq_true rfl⟩ rfl hl.1 rfl (Nat.le_of_ble_eq_true rfl) ⟨Nat.le_refl _, Nat.le_refl _⟩ dX10_drawnFed_44 (fun H locs G => ?_)
        refine lv_aload_n hx hb dX10_drawnFed_47 rfl (lv_at hl 0 rfl) ?_
        refine x_get C G fX10_35 (wX_at0) rfl dX10_drawnFed_48 ?_
        obtain ⟨x8, hc, hf⟩ := bd_go hf
        refine xI_V C G (c_Scene_fedCount_sc hc) mX8_fedCount kX10_254 (wX_at35) rfl ⟨Nat.le_of_ble_eq_true rfl, Nat.le_of_ble_eq_true rfl⟩ rfl hl.1 rfl (Nat.le_of_ble_eq_true rfl) ⟨Nat.le_refl _, Nat.le_refl _⟩ dX10_drawnFed_51 (fun hz H locs G => ?_)
        obtain rfl := Option.some.inj hf
        exact xI_ret C G rfl dX10_drawnFed_54
      have hf := hr
      clear hr
      refine lv_if_eq (tgt := 28) hx hb dX10_drawnFed_16 (by decide) (fun h => ?_) (fun h => ?_)
      · have hf := it_t h hf
        exact absurd (Option.some.inj hf) (by decide)
      · have hf := it_f h hf
        refine lv_iload_n hx hb dX10_drawnFed_19 rfl (lv_at hl 2 rfl) ?_
        refine lv_bipush (v := 60) hx hb dX10_drawnFed_20 (by decide) ?_
        obtain ⟨x9, hc, hf⟩ := bd_go hf
        refine xI_S C G (c_X_within_any hc) mX10_within kX10_216 ⟨Nat.le_of_ble_eq_true rfl, Nat.le_of_ble_eq_true rfl⟩ rfl hl.1 rfl (Nat.le_of_ble_eq_true rfl) ⟨Nat.le_refl _, Nat.le_refl _⟩ dX10_drawnFed_22 (fun hz9 H locs G => ?_)
        refine lv_if_ne (tgt := 34) hx hb dX10_drawnFed_25 (by decide) (fun h => ?_) (fun h => ?_)
        · have hf := it_f h hf
          exact J _ _ G
        · have hf := it_t h hf
          exact absurd (Option.some.inj hf) (by decide)
  · have hf := it_f h hf
    refine lv_iconst (v := -1) hx hb dX10_drawnFed_7 (by decide) ?_
    obtain rfl := Option.some.inj hf
    exact xI_ret C G rfl dX10_drawnFed_8
set_option maxHeartbeats 4000000 in
set_option maxRecDepth 100000 in
theorem w_Now_passYears_nw_L2 {p : Program} {l : Launch} {e : Env} {s : State} {m : MethodId} {args : Array Value} {below : List Frame} {meth : Method} {c : Code} {A : Nat → Prop} {E : xE} {Q : State → Prop} {ad : Nat → Nat} {x_imageCount x_lastTrouble x_lastFault x_lastPlace pa_faultNumber pa_faultPlace rd_length rd_end rd_next rd_sort rd_start rd_value to_seats to_slack to_sawInches to_quarrelChance to_people to_forkBits to_unsure to_tried to_triedFedBits tf_pairs tf_gone bd_seats bd_slack bd_sawInches bd_quarrelChance bd_people bd_forkBits bd_unsure bd_tried bd_triedFedBits bf_pairs bf_gone nw_pairs nw_gone sc_forkBits sc_canBits sc_bestBits sc_bestSlops sl_count se_bestWorth se_fresh ch_items ch_leastCost ch_leastBits cl_count fi_count ps_next ps_count i0_pairs i0_gone i1_pairs i1_gone i2_pairs i2_gone : Int32} {pa_names : Nat → Int64} {rd_tape to_unsurePair to_unsureYears to_triedPair tf_seatOf tf_one tf_other tf_kind tf_years tf_sawn bd_unsurePair bd_unsureYears bd_triedPair bf_seatOf bf_one bf_other bf_kind bf_years bf_sawn nw_seatOf nw_one nw_other nw_kind nw_sawn sc_seatOf sc_handle sc_both sc_slopOf sl_bits se_bestRow se_row se_pairAt se_hope se_hopeAt se_slopAt se_farBits se_gain se_worth ch_both ch_cost ch_bit cl_bits fi_sets ps_act ps_whom ps_amount i0_seatOf i0_one i0_other i0_kind i0_years i0_sawn i1_seatOf i1_one i1_other i1_kind i1_years i1_sawn i2_seatOf i2_one i2_other i2_kind i2_years i2_sawn : Nat → Int32} {rd_word : Int64} {l1 : Int32} {o : (Nat → Int32)} (C : xC p s m args meth c cX4_passYears 3 RX4 E A none) (J : ∀ (H : Heap) (locs : List Loc) (ls : Array Slot), xG s E A (wX E ad x_imageCount x_lastTrouble x_lastFault x_lastPlace pa_names pa_faultNumber pa_faultPlace rd_tape rd_length rd_end rd_next rd_sort rd_start rd_value rd_word to_unsurePair to_unsureYears to_triedPair to_seats to_slack to_sawInches to_quarrelChance to_people to_forkBits to_unsure to_tried to_triedFedBits tf_seatOf tf_one tf_other tf_kind tf_years tf_sawn tf_pairs tf_gone bd_unsurePair bd_unsureYears bd_triedPair bd_seats bd_slack bd_sawInches bd_quarrelChance bd_people bd_forkBits bd_unsure bd_tried bd_triedFedBits bf_seatOf bf_one bf_other bf_kind bf_years bf_sawn bf_pairs bf_gone nw_seatOf nw_one nw_other nw_kind o nw_sawn nw_pairs nw_gone sc_seatOf sc_handle sc_both sc_slopOf sc_forkBits sc_canBits sc_bestBits sc_bestSlops sl_bits sl_count se_bestRow se_row se_pairAt se_hope se_hopeAt se_slopAt se_farBits se_gain se_worth se_bestWorth se_fresh ch_both ch_cost ch_bit ch_items ch_leastCost ch_leastBits cl_bits cl_count fi_sets fi_count ps_act ps_whom ps_amount ps_next ps_count i0_seatOf i0_one i0_other i0_kind i0_years i0_sawn i0_pairs i0_gone i1_seatOf i1_one i1_other i1_kind i1_years i1_sawn i1_pairs i1_gone i2_seatOf i2_one i2_other i2_kind i2_years i2_sawn i2_pairs i2_gone) H locs → lv_has ls 3 [(0, .ref (ad 28)), (1, .int l1)] → W p l e (xR 0 0) s m args below meth c H locs 0 0 Q (F0 m 26 ls [])) :
    ∀ (n : Nat) (l2 : Int32) (nw_years : Nat → Int32) (H : Heap) (locs : List Loc) (ls : Array Slot), xG s E A (wX E ad x_imageCount x_lastTrouble x_lastFault x_lastPlace pa_names pa_faultNumber pa_faultPlace rd_tape rd_length rd_end rd_next rd_sort rd_start rd_value rd_word to_unsurePair to_unsureYears to_triedPair to_seats to_slack to_sawInches to_quarrelChance to_people to_forkBits to_unsure to_tried to_triedFedBits tf_seatOf tf_one tf_other tf_kind tf_years tf_sawn tf_pairs tf_gone bd_unsurePair bd_unsureYears bd_triedPair bd_seats bd_slack bd_sawInches bd_quarrelChance bd_people bd_forkBits bd_unsure bd_tried bd_triedFedBits bf_seatOf bf_one bf_other bf_kind bf_years bf_sawn bf_pairs bf_gone nw_seatOf nw_one nw_other nw_kind nw_years nw_sawn nw_pairs nw_gone sc_seatOf sc_handle sc_both sc_slopOf sc_forkBits sc_canBits sc_bestBits sc_bestSlops sl_bits sl_count se_bestRow se_row se_pairAt se_hope se_hopeAt se_slopAt se_farBits se_gain se_worth se_bestWorth se_fresh ch_both ch_cost ch_bit ch_items ch_leastCost ch_leastBits cl_bits cl_count fi_sets fi_count ps_act ps_whom ps_amount ps_next ps_count i0_seatOf i0_one i0_other i0_kind i0_years i0_sawn i0_pairs i0_gone i1_seatOf i1_one i1_other i1_kind i1_years i1_sawn i1_pairs i1_gone i2_seatOf i2_one i2_other i2_kind i2_years i2_sawn i2_pairs i2_gone) H locs → lv_has ls 3 [(0, .ref (ad 28)), (1, .int l1), (2, .int l2)] → f_Now_passYears_L2 l1 nw_pairs n l2 nw_years = some o → W p l e (xR 0 0) s m args below meth c H locs 0 0 Q (F0 m 2 ls []) := by
  have hx := C.1
  have hb := C.2.1
  intro n
  induction n with
  | zero =>
    intro l2 nw_years H locs ls G hl hf
    exact nomatch (show (none : Option ((Nat → Int32))) = some o from hf)
  | succ n ih =>
    intro l2 nw_years H locs ls G hl hf
    rw [f_Now_passYears_L2] at hf
    refine lv_iload_n hx hb dX4_passYears_2 rfl (lv_at hl 2 rfl) ?_
    refine lv_aload_n hx hb dX4_passYears_3 rfl (lv_at hl 0 rfl) ?_
    refine x_get C G fX4_36.g (wX_at28) rfl dX4_passYears_4 ?_
    refine lv_icmp_ge (tgt := 26) hx hb dX4_passYears_7 (by decide) (fun h => ?_) (fun h => ?_)
    · have hf := it_t h hf
      obtain rfl := Option.some.inj hf
      exact J _ _ _ G (lv_sub hl [0, 1] rfl)
    · have hf := it_f h hf
      refine lv_aload_n hx hb dX4_passYears_10 rfl (lv_at hl 0 rfl) ?_
      refine x_get C G fX4_24 (wX_at28) rfl dX4_passYears_11 ?_
      refine lv_iload_n hx hb dX4_passYears_14 rfl (lv_at hl 2 rfl) ?_
      refine lv_dup2_11 hx hb dX4_passYears_15 rfl rfl ?_
      have hi := ck_in hf
      have hf := ck_go hf
      refine x_iald C G (wX_at33) hi dX4_passYears_16 ?_
      refine lv_iload_n hx hb dX4_passYears_17 rfl (lv_at hl 1 rfl) ?_
      refine lv_iadd hx hb dX4_passYears_18 ?_
      have hi := ck_in hf
      have hf := ck_go hf
      refine x_iast (ws' := (wX E ad x_imageCount x_lastTrouble x_lastFault x_lastPlace pa_names pa_faultNumber pa_faultPlace rd_tape rd_length rd_end rd_next rd_sort rd_start rd_value rd_word to_unsurePair to_unsureYears to_triedPair to_seats to_slack to_sawInches to_quarrelChance to_people to_forkBits to_unsure to_tried to_triedFedBits tf_seatOf tf_one tf_other tf_kind tf_years tf_sawn tf_pairs tf_gone bd_unsurePair bd_unsureYears bd_triedPair bd_seats bd_slack bd_sawInches bd_quarrelChance bd_people bd_forkBits bd_unsure bd_tried bd_triedFedBits bf_seatOf bf_one bf_other bf_kind bf_years bf_sawn bf_pairs bf_gone nw_seatOf nw_one nw_other nw_kind (upd nw_years l2.toNatClampNeg ((nw_years l2.toNatClampNeg) + l1)) nw_sawn nw_pairs nw_gone sc_seatOf sc_handle sc_both sc_slopOf sc_forkBits sc_canBits sc_bestBits sc_bestSlops sl_bits sl_count se_bestRow se_row se_pairAt se_hope se_hopeAt se_slopAt se_farBits se_gain se_worth se_bestWorth se_fresh ch_both ch_cost ch_bit ch_items ch_leastCost ch_leastBits cl_bits cl_count fi_sets fi_count ps_act ps_whom ps_amount ps_next ps_count i0_seatOf i0_one i0_other i0_kind i0_years i0_sawn i0_pairs i0_gone i1_seatOf i1_one i1_other i1_kind i1_years i1_sawn i1_pairs i1_gone i2_seatOf i2_one i2_other i2_kind i2_years i2_sawn i2_pairs i2_gone)) C G (wX_at33) hi wX_set_nw_years dX4_passYears_19 (fun H locs G => ?_)
      obtain ⟨x1, ex1⟩ : ∃ z : Int32, z = l2 + (1 : Int32) := ⟨_, rfl⟩
      have hf := lt_go ex1 hf
      refine lv_iinc (v := x1) (lv' := [(2, .int x1), (0, .ref (ad 28)), (1, .int l1)]) hx hb dX4_passYears_20 hl (k := 2) rfl (by rw [ex1]; rfl) (by decide) rfl (fun ls hl => ?_)
      refine lv_goto (tgt := 2) hx hb dX4_passYears_23 (by decide) ?_
      exact ih x1 (upd nw_years l2.toNatClampNeg ((nw_years l2.toNatClampNeg) + l1)) _ _ _ G (lv_sub hl [1, 2, 0] rfl) hf
set_option maxHeartbeats 4000000 in
set_option maxRecDepth 100000 in
theorem c_Now_passYears_nw {l : Launch} {E : xE} {ad : Nat → Nat} {x_imageCount x_lastTrouble x_lastFault x_lastPlace pa_faultNumber pa_faultPlace rd_length rd_end rd_next rd_sort rd_start rd_value to_seats to_slack to_sawInches to_quarrelChance to_people to_forkBits to_unsure to_tried to_triedFedBits tf_pairs tf_gone bd_seats bd_slack bd_sawInches bd_quarrelChance bd_people bd_forkBits bd_unsure bd_tried bd_triedFedBits bf_pairs bf_gone nw_pairs nw_gone sc_forkBits sc_canBits sc_bestBits sc_bestSlops sl_count se_bestWorth se_fresh ch_items ch_leastCost ch_leastBits cl_count fi_count ps_next ps_count i0_pairs i0_gone i1_pairs i1_gone i2_pairs i2_gone : Int32} {pa_names : Nat → Int64} {rd_tape to_unsurePair to_unsureYears to_triedPair tf_seatOf tf_one tf_other tf_kind tf_years tf_sawn bd_unsurePair bd_unsureYears bd_triedPair bf_seatOf bf_one bf_other bf_kind bf_years bf_sawn nw_seatOf nw_one nw_other nw_kind nw_years nw_sawn sc_seatOf sc_handle sc_both sc_slopOf sl_bits se_bestRow se_row se_pairAt se_hope se_hopeAt se_slopAt se_farBits se_gain se_worth ch_both ch_cost ch_bit cl_bits fi_sets ps_act ps_whom ps_amount i0_seatOf i0_one i0_other i0_kind i0_years i0_sawn i1_seatOf i1_one i1_other i1_kind i1_years i1_sawn i2_seatOf i2_one i2_other i2_kind i2_years i2_sawn : Nat → Int32} {rd_word : Int64} {l1 : Int32} {R0 : (Nat → Int32) × Int32} (hf : f_Now_passYears l1 nw_years nw_pairs nw_gone = some R0) : xV l E yX4_passYears cX4_passYears 3 none 0 0 [.ref (ad 28), .int l1] (wX E ad x_imageCount x_lastTrouble x_lastFault x_lastPlace pa_names pa_faultNumber pa_faultPlace rd_tape rd_length rd_end rd_next rd_sort rd_start rd_value rd_word to_unsurePair to_unsureYears to_triedPair to_seats to_slack to_sawInches to_quarrelChance to_people to_forkBits to_unsure to_tried to_triedFedBits tf_seatOf tf_one tf_other tf_kind tf_years tf_sawn tf_pairs tf_gone bd_unsurePair bd_unsureYears bd_triedPair bd_seats bd_slack bd_sawInches bd_quarrelChance bd_people bd_forkBits bd_unsure bd_tried bd_triedFedBits bf_seatOf bf_one bf_other bf_kind bf_years bf_sawn bf_pairs bf_gone nw_seatOf nw_one nw_other nw_kind nw_years nw_sawn nw_pairs nw_gone sc_seatOf sc_handle sc_both sc_slopOf sc_forkBits sc_canBits sc_bestBits sc_bestSlops sl_bits sl_count se_bestRow se_row se_pairAt se_hope se_hopeAt se_slopAt se_farBits se_gain se_worth se_bestWorth se_fresh ch_both ch_cost ch_bit ch_items ch_leastCost ch_leastBits cl_bits cl_count fi_sets fi_count ps_act ps_whom ps_amount ps_next ps_count i0_seatOf i0_one i0_other i0_kind i0_years i0_sawn i0_pairs i0_gone i1_seatOf i1_one i1_other i1_kind i1_years i1_sawn i1_pairs i1_gone i2_seatOf i2_one i2_other i2_kind i2_years i2_sawn i2_pairs i2_gone) (wX E ad x_imageCount x_lastTrouble x_lastFault x_lastPlace pa_names pa_faultNumber pa_faultPlace rd_tape rd_length rd_end rd_next rd_sort rd_start rd_value rd_word to_unsurePair to_unsureYears to_triedPair to_seats to_slack to_sawInches to_quarrelChance to_people to_forkBits to_unsure to_tried to_triedFedBits tf_seatOf tf_one tf_other tf_kind tf_years tf_sawn tf_pairs tf_gone bd_unsurePair bd_unsureYears bd_triedPair bd_seats bd_slack bd_sawInches bd_quarrelChance bd_people bd_forkBits bd_unsure bd_tried bd_triedFedBits bf_seatOf bf_one bf_other bf_kind bf_years bf_sawn bf_pairs bf_gone nw_seatOf nw_one nw_other nw_kind R0.1 nw_sawn nw_pairs R0.2 sc_seatOf sc_handle sc_both sc_slopOf sc_forkBits sc_canBits sc_bestBits sc_bestSlops sl_bits sl_count se_bestRow se_row se_pairAt se_hope se_hopeAt se_slopAt se_farBits se_gain se_worth se_bestWorth se_fresh ch_both ch_cost ch_bit ch_items ch_leastCost ch_leastBits cl_bits cl_count fi_sets fi_count ps_act ps_whom ps_amount ps_next ps_count i0_seatOf i0_one i0_other i0_kind i0_years i0_sawn i0_pairs i0_gone i1_seatOf i1_one i1_other i1_kind i1_years i1_sawn i1_pairs i1_gone i2_seatOf i2_one i2_other i2_kind i2_years i2_sawn i2_pairs i2_gone) := by
  refine xV_of (by decide) (Nat.le_of_ble_eq_true rfl) (fun p e s m args below meth c A C ls hl G => ?_)
  have hx := C.1
  have hb := C.2.1
  have hl : lv_has ls 3 [(0, .ref (ad 28)), (1, .int l1)] := hl
  unfold f_Now_passYears at hf
  refine lv_iconst (v := 0) hx hb dX4_passYears_0 (by decide) ?_
  refine lv_istore_n (lv' := [(2, .int (0 : Int32)), (0, .ref (ad 28)), (1, .int l1)]) hx hb dX4_passYears_1 rfl hl (by decide) rfl (fun ls hl => ?_)
  obtain ⟨x2, hr, hf⟩ := bd_go hf
  have Jx2 : ∀ (H : Heap) (locs : List Loc) (ls : Array Slot), xG s E A (wX E ad x_imageCount x_lastTrouble x_lastFault x_lastPlace pa_names pa_faultNumber pa_faultPlace rd_tape rd_length rd_end rd_next rd_sort rd_start rd_value rd_word to_unsurePair to_unsureYears to_triedPair to_seats to_slack to_sawInches to_quarrelChance to_people to_forkBits to_unsure to_tried to_triedFedBits tf_seatOf tf_one tf_other tf_kind tf_years tf_sawn tf_pairs tf_gone bd_unsurePair bd_unsureYears bd_triedPair bd_seats bd_slack bd_sawInches bd_quarrelChance bd_people bd_forkBits bd_unsure bd_tried bd_triedFedBits bf_seatOf bf_one bf_other bf_kind bf_years bf_sawn bf_pairs bf_gone nw_seatOf nw_one nw_other nw_kind x2 nw_sawn nw_pairs nw_gone sc_seatOf sc_handle sc_both sc_slopOf sc_forkBits sc_canBits sc_bestBits sc_bestSlops sl_bits sl_count se_bestRow se_row se_pairAt se_hope se_hopeAt se_slopAt se_farBits se_gain se_worth se_bestWorth se_fresh ch_both ch_cost ch_bit ch_items ch_leastCost ch_leastBits cl_bits cl_count fi_sets fi_count ps_act ps_whom ps_amount ps_next ps_count i0_seatOf i0_one i0_other i0_kind i0_years i0_sawn i0_pairs i0_gone i1_seatOf i1_one i1_other i1_kind i1_years i1_sawn i1_pairs i1_gone i2_seatOf i2_one i2_other i2_kind i2_years i2_sawn i2_pairs i2_gone) H locs → lv_has ls 3 [(0, .ref (ad 28)), (1, .int l1)] → W p l e (xR 0 0) s m args below meth c H locs 0 0 (MQ below (xqV E A (wX E ad x_imageCount x_lastTrouble x_lastFault x_lastPlace pa_names pa_faultNumber pa_faultPlace rd_tape rd_length rd_end rd_next rd_sort rd_start rd_value rd_word to_unsurePair to_unsureYears to_triedPair to_seats to_slack to_sawInches to_quarrelChance to_people to_forkBits to_unsure to_tried to_triedFedBits tf_seatOf tf_one tf_other tf_kind tf_years tf_sawn tf_pairs tf_gone bd_unsurePair bd_unsureYears bd_triedPair bd_seats bd_slack bd_sawInches bd_quarrelChance bd_people bd_forkBits bd_unsure bd_tried bd_triedFedBits bf_seatOf bf_one bf_other bf_kind bf_years bf_sawn bf_pairs bf_gone nw_seatOf nw_one nw_other nw_kind R0.1 nw_sawn nw_pairs R0.2 sc_seatOf sc_handle sc_both sc_slopOf sc_forkBits sc_canBits sc_bestBits sc_bestSlops sl_bits sl_count se_bestRow se_row se_pairAt se_hope se_hopeAt se_slopAt se_farBits se_gain se_worth se_bestWorth se_fresh ch_both ch_cost ch_bit ch_items ch_leastCost ch_leastBits cl_bits cl_count fi_sets fi_count ps_act ps_whom ps_amount ps_next ps_count i0_seatOf i0_one i0_other i0_kind i0_years i0_sawn i0_pairs i0_gone i1_seatOf i1_one i1_other i1_kind i1_years i1_sawn i1_pairs i1_gone i2_seatOf i2_one i2_other i2_kind i2_years i2_sawn i2_pairs i2_gone)) args s 0 0 A) (F0 m 26 ls []) := by
    intro H locs ls G hl
    refine lv_aload_n hx hb dX4_passYears_26 rfl (lv_at hl 0 rfl) ?_
    refine lv_dup hx hb dX4_passYears_27 rfl ?_
    refine x_get C G fX4_40.g (wX_at28) rfl dX4_passYears_28 ?_
    refine lv_iload_n hx hb dX4_passYears_31 rfl (lv_at hl 1 rfl) ?_
    refine lv_iadd hx hb dX4_passYears_32 ?_
    refine lv_topi (fun x3 ex3 => ?_)
    have hf := lt_go ex3 hf
    refine x_put (ws' := (wX E ad x_imageCount x_lastTrouble x_lastFault x_lastPlace pa_names pa_faultNumber pa_faultPlace rd_tape rd_length rd_end rd_next rd_sort rd_start rd_value rd_word to_unsurePair to_unsureYears to_triedPair to_seats to_slack to_sawInches to_quarrelChance to_people to_forkBits to_unsure to_tried to_triedFedBits tf_seatOf tf_one tf_other tf_kind tf_years tf_sawn tf_pairs tf_gone bd_unsurePair bd_unsureYears bd_triedPair bd_seats bd_slack bd_sawInches bd_quarrelChance bd_people bd_forkBits bd_unsure bd_tried bd_triedFedBits bf_seatOf bf_one bf_other bf_kind bf_years bf_sawn bf_pairs bf_gone nw_seatOf nw_one nw_other nw_kind x2 nw_sawn nw_pairs x3 sc_seatOf sc_handle sc_both sc_slopOf sc_forkBits sc_canBits sc_bestBits sc_bestSlops sl_bits sl_count se_bestRow se_row se_pairAt se_hope se_hopeAt se_slopAt se_farBits se_gain se_worth se_bestWorth se_fresh ch_both ch_cost ch_bit ch_items ch_leastCost ch_leastBits cl_bits cl_count fi_sets fi_count ps_act ps_whom ps_amount ps_next ps_count i0_seatOf i0_one i0_other i0_kind i0_years i0_sawn i0_pairs i0_gone i1_seatOf i1_one i1_other i1_kind i1_years i1_sawn i1_pairs i1_gone i2_seatOf i2_one i2_other i2_kind i2_years i2_sawn i2_pairs i2_gone)) C G fX4_40 (wX_at28) rfl rfl (Nat.le_of_ble_eq_true rfl) wX_set_nw_gone dX4_passYears_33 (fun H locs G => ?_)
    obtain rfl := Option.some.inj hf
    exact xV_ret C G dX4_passYears_36
  exact w_Now_passYears_nw_L2 C Jx2 fu _ _ _ _ _ G (lv_sub hl [1, 2, 0] rfl) hr
set_option maxHeartbeats 4000000 in
set_option maxRecDepth 100000 in
theorem c_Past_keep_ps {l : Launch} {E : xE} {ad : Nat → Nat} {x_imageCount x_lastTrouble x_lastFault x_lastPlace pa_faultNumber pa_faultPlace rd_length rd_end rd_next rd_sort rd_start rd_value to_seats to_slack to_sawInches to_quarrelChance to_people to_forkBits to_unsure to_tried to_triedFedBits tf_pairs tf_gone bd_seats bd_slack bd_sawInches bd_quarrelChance bd_people bd_forkBits bd_unsure bd_tried bd_triedFedBits bf_pairs bf_gone nw_pairs nw_gone sc_forkBits sc_canBits sc_bestBits sc_bestSlops sl_count se_bestWorth se_fresh ch_items ch_leastCost ch_leastBits cl_count fi_count ps_next ps_count i0_pairs i0_gone i1_pairs i1_gone i2_pairs i2_gone : Int32} {pa_names : Nat → Int64} {rd_tape to_unsurePair to_unsureYears to_triedPair tf_seatOf tf_one tf_other tf_kind tf_years tf_sawn bd_unsurePair bd_unsureYears bd_triedPair bf_seatOf bf_one bf_other bf_kind bf_years bf_sawn nw_seatOf nw_one nw_other nw_kind nw_years nw_sawn sc_seatOf sc_handle sc_both sc_slopOf sl_bits se_bestRow se_row se_pairAt se_hope se_hopeAt se_slopAt se_farBits se_gain se_worth ch_both ch_cost ch_bit cl_bits fi_sets ps_act ps_whom ps_amount i0_seatOf i0_one i0_other i0_kind i0_years i0_sawn i1_seatOf i1_one i1_other i1_kind i1_years i1_sawn i2_seatOf i2_one i2_other i2_kind i2_years i2_sawn : Nat → Int32} {rd_word : Int64} {l1 : Int32} {l2 : Int32} {l3 : Int32} {R0 : (Nat → Int32) × (Nat → Int32) × (Nat → Int32) × Int32 × Int32} (hf : f_Past_keep l1 l2 l3 ps_act ps_whom ps_amount ps_next ps_count = some R0) : xV l E yX6_keep cX6_keep 4 none 1 21 [.ref (ad 60), .int l1, .int l2, .int l3] (wX E ad x_imageCount x_lastTrouble x_lastFault x_lastPlace pa_names pa_faultNumber pa_faultPlace rd_tape rd_length rd_end rd_next rd_sort rd_start rd_value rd_word to_unsurePair to_unsureYears to_triedPair to_seats to_slack to_sawInches to_quarrelChance to_people to_forkBits to_unsure to_tried to_triedFedBits tf_seatOf tf_one tf_other tf_kind tf_years tf_sawn tf_pairs tf_gone bd_unsurePair bd_unsureYears bd_triedPair bd_seats bd_slack bd_sawInches bd_quarrelChance bd_people bd_forkBits bd_unsure bd_tried bd_triedFedBits bf_seatOf bf_one bf_other bf_kind bf_years bf_sawn bf_pairs bf_gone nw_seatOf nw_one nw_other nw_kind nw_years nw_sawn nw_pairs nw_gone sc_seatOf sc_handle sc_both sc_slopOf sc_forkBits sc_canBits sc_bestBits sc_bestSlops sl_bits sl_count se_bestRow se_row se_pairAt se_hope se_hopeAt se_slopAt se_farBits se_gain se_worth se_bestWorth se_fresh ch_both ch_cost ch_bit ch_items ch_leastCost ch_leastBits cl_bits cl_count fi_sets fi_count ps_act ps_whom ps_amount ps_next ps_count i0_seatOf i0_one i0_other i0_kind i0_years i0_sawn i0_pairs i0_gone i1_seatOf i1_one i1_other i1_kind i1_years i1_sawn i1_pairs i1_gone i2_seatOf i2_one i2_other i2_kind i2_years i2_sawn i2_pairs i2_gone) (wX E ad x_imageCount x_lastTrouble x_lastFault x_lastPlace pa_names pa_faultNumber pa_faultPlace rd_tape rd_length rd_end rd_next rd_sort rd_start rd_value rd_word to_unsurePair to_unsureYears to_triedPair to_seats to_slack to_sawInches to_quarrelChance to_people to_forkBits to_unsure to_tried to_triedFedBits tf_seatOf tf_one tf_other tf_kind tf_years tf_sawn tf_pairs tf_gone bd_unsurePair bd_unsureYears bd_triedPair bd_seats bd_slack bd_sawInches bd_quarrelChance bd_people bd_forkBits bd_unsure bd_tried bd_triedFedBits bf_seatOf bf_one bf_other bf_kind bf_years bf_sawn bf_pairs bf_gone nw_seatOf nw_one nw_other nw_kind nw_years nw_sawn nw_pairs nw_gone sc_seatOf sc_handle sc_both sc_slopOf sc_forkBits sc_canBits sc_bestBits sc_bestSlops sl_bits sl_count se_bestRow se_row se_pairAt se_hope se_hopeAt se_slopAt se_farBits se_gain se_worth se_bestWorth se_fresh ch_both ch_cost ch_bit ch_items ch_leastCost ch_leastBits cl_bits cl_count fi_sets fi_count R0.1 R0.2.1 R0.2.2.1 R0.2.2.2.1 R0.2.2.2.2 i0_seatOf i0_one i0_other i0_kind i0_years i0_sawn i0_pairs i0_gone i1_seatOf i1_one i1_other i1_kind i1_years i1_sawn i1_pairs i1_gone i2_seatOf i2_one i2_other i2_kind i2_years i2_sawn i2_pairs i2_gone) := by
  refine xV_of (by decide) (Nat.le_of_ble_eq_true rfl) (fun p e s m args below meth c A C ls hl G => ?_)
  have hx := C.1
  have hb := C.2.1
  have hl : lv_has ls 4 [(0, .ref (ad 60)), (1, .int l1), (2, .int l2), (3, .int l3)] := hl
  unfold f_Past_keep at hf
  refine lv_aload_n hx hb dX6_keep_0 rfl (lv_at hl 0 rfl) ?_
  refine x_get C G fX6_9 (wX_at60) rfl dX6_keep_1 ?_
  refine lv_aload_n hx hb dX6_keep_4 rfl (lv_at hl 0 rfl) ?_
  refine x_get C G fX6_21.g (wX_at60) rfl dX6_keep_5 ?_
  refine lv_iload_n hx hb dX6_keep_8 rfl (lv_at hl 1 rfl) ?_
  have hi := ck_in hf
  have hf := ck_go hf
  refine x_iast (ws' := (wX E ad x_imageCount x_lastTrouble x_lastFault x_lastPlace pa_names pa_faultNumber pa_faultPlace rd_tape rd_length rd_end rd_next rd_sort rd_start rd_value rd_word to_unsurePair to_unsureYears to_triedPair to_seats to_slack to_sawInches to_quarrelChance to_people to_forkBits to_unsure to_tried to_triedFedBits tf_seatOf tf_one tf_other tf_kind tf_years tf_sawn tf_pairs tf_gone bd_unsurePair bd_unsureYears bd_triedPair bd_seats bd_slack bd_sawInches bd_quarrelChance bd_people bd_forkBits bd_unsure bd_tried bd_triedFedBits bf_seatOf bf_one bf_other bf_kind bf_years bf_sawn bf_pairs bf_gone nw_seatOf nw_one nw_other nw_kind nw_years nw_sawn nw_pairs nw_gone sc_seatOf sc_handle sc_both sc_slopOf sc_forkBits sc_canBits sc_bestBits sc_bestSlops sl_bits sl_count se_bestRow se_row se_pairAt se_hope se_hopeAt se_slopAt se_farBits se_gain se_worth se_bestWorth se_fresh ch_both ch_cost ch_bit ch_items ch_leastCost ch_leastBits cl_bits cl_count fi_sets fi_count (upd ps_act ps_next.toNatClampNeg l1) ps_whom ps_amount ps_next ps_count i0_seatOf i0_one i0_other i0_kind i0_years i0_sawn i0_pairs i0_gone i1_seatOf i1_one i1_other i1_kind i1_years i1_sawn i1_pairs i1_gone i2_seatOf i2_one i2_other i2_kind i2_years i2_sawn i2_pairs i2_gone)) C G (wX_at61) hi wX_set_ps_act dX6_keep_9 (fun H locs G => ?_)
  refine lv_aload_n hx hb dX6_keep_10 rfl (lv_at hl 0 rfl) ?_
  refine x_get C G fX6_15 (wX_at60) rfl dX6_keep_11 ?_
  refine lv_aload_n hx hb dX6_keep_14 rfl (lv_at hl 0 rfl) ?_
  refine x_get C G fX6_21.g (wX_at60) rfl dX6_keep_15 ?_
  refine lv_iload_n hx hb dX6_keep_18 rfl (lv_at hl 2 rfl) ?_
  have hi := ck_in hf
  have hf := ck_go hf
  refine x_iast (ws' := (wX E ad x_imageCount x_lastTrouble x_lastFault x_lastPlace pa_names pa_faultNumber pa_faultPlace rd_tape rd_length rd_end rd_next rd_sort rd_start rd_value rd_word to_unsurePair to_unsureYears to_triedPair to_seats to_slack to_sawInches to_quarrelChance to_people to_forkBits to_unsure to_tried to_triedFedBits tf_seatOf tf_one tf_other tf_kind tf_years tf_sawn tf_pairs tf_gone bd_unsurePair bd_unsureYears bd_triedPair bd_seats bd_slack bd_sawInches bd_quarrelChance bd_people bd_forkBits bd_unsure bd_tried bd_triedFedBits bf_seatOf bf_one bf_other bf_kind bf_years bf_sawn bf_pairs bf_gone nw_seatOf nw_one nw_other nw_kind nw_years nw_sawn nw_pairs nw_gone sc_seatOf sc_handle sc_both sc_slopOf sc_forkBits sc_canBits sc_bestBits sc_bestSlops sl_bits sl_count se_bestRow se_row se_pairAt se_hope se_hopeAt se_slopAt se_farBits se_gain se_worth se_bestWorth se_fresh ch_both ch_cost ch_bit ch_items ch_leastCost ch_leastBits cl_bits cl_count fi_sets fi_count (upd ps_act ps_next.toNatClampNeg l1) (upd ps_whom ps_next.toNatClampNeg l2) ps_amount ps_next ps_count i0_seatOf i0_one i0_other i0_kind i0_years i0_sawn i0_pairs i0_gone i1_seatOf i1_one i1_other i1_kind i1_years i1_sawn i1_pairs i1_gone i2_seatOf i2_one i2_other i2_kind i2_years i2_sawn i2_pairs i2_gone)) C G (wX_at62) hi wX_set_ps_whom dX6_keep_19 (fun H locs G => ?_)
  refine lv_aload_n hx hb dX6_keep_20 rfl (lv_at hl 0 rfl) ?_
  refine x_get C G fX6_18 (wX_at60) rfl dX6_keep_21 ?_
  refine lv_aload_n hx hb dX6_keep_24 rfl (lv_at hl 0 rfl) ?_
  refine x_get C G fX6_21.g (wX_at60) rfl dX6_keep_25 ?_
  refine lv_iload_n hx hb dX6_keep_28 rfl (lv_at hl 3 rfl) ?_
  have hi := ck_in hf
  have hf := ck_go hf
  refine x_iast (ws' := (wX E ad x_imageCount x_lastTrouble x_lastFault x_lastPlace pa_names pa_faultNumber pa_faultPlace rd_tape rd_length rd_end rd_next rd_sort rd_start rd_value rd_word to_unsurePair to_unsureYears to_triedPair to_seats to_slack to_sawInches to_quarrelChance to_people to_forkBits to_unsure to_tried to_triedFedBits tf_seatOf tf_one tf_other tf_kind tf_years tf_sawn tf_pairs tf_gone bd_unsurePair bd_unsureYears bd_triedPair bd_seats bd_slack bd_sawInches bd_quarrelChance bd_people bd_forkBits bd_unsure bd_tried bd_triedFedBits bf_seatOf bf_one bf_other bf_kind bf_years bf_sawn bf_pairs bf_gone nw_seatOf nw_one nw_other nw_kind nw_years nw_sawn nw_pairs nw_gone sc_seatOf sc_handle sc_both sc_slopOf sc_forkBits sc_canBits sc_bestBits sc_bestSlops sl_bits sl_count se_bestRow se_row se_pairAt se_hope se_hopeAt se_slopAt se_farBits se_gain se_worth se_bestWorth se_fresh ch_both ch_cost ch_bit ch_items ch_leastCost ch_leastBits cl_bits cl_count fi_sets fi_count (upd ps_act ps_next.toNatClampNeg l1) (upd ps_whom ps_next.toNatClampNeg l2) (upd ps_amount ps_next.toNatClampNeg l3) ps_next ps_count i0_seatOf i0_one i0_other i0_kind i0_years i0_sawn i0_pairs i0_gone i1_seatOf i1_one i1_other i1_kind i1_years i1_sawn i1_pairs i1_gone i2_seatOf i2_one i2_other i2_kind i2_years i2_sawn i2_pairs i2_gone)) C G (wX_at63) hi wX_set_ps_amount dX6_keep_29 (fun H locs G => ?_)
  refine lv_aload_n hx hb dX6_keep_30 rfl (lv_at hl 0 rfl) ?_
  refine lv_aload_n hx hb dX6_keep_31 rfl (lv_at hl 0 rfl) ?_
  refine x_get C G fX6_21.g (wX_at60) rfl dX6_keep_32 ?_
  refine lv_iconst (v := 1) hx hb dX6_keep_35 (by decide) ?_
  refine lv_iadd hx hb dX6_keep_36 ?_
  refine lv_bipush (v := 16) hx hb dX6_keep_37 (by decide) ?_
  refine lv_irem hx hb dX6_keep_39 (by decide) ?_
  refine lv_topi (fun x1 ex1 => ?_)
  have hf := lt_go ex1 hf
  refine x_put (ws' := (wX E ad x_imageCount x_lastTrouble x_lastFault x_lastPlace pa_names pa_faultNumber pa_faultPlace rd_tape rd_length rd_end rd_next rd_sort rd_start rd_value rd_word to_unsurePair to_unsureYears to_triedPair to_seats to_slack to_sawInches to_quarrelChance to_people to_forkBits to_unsure to_tried to_triedFedBits tf_seatOf tf_one tf_other tf_kind tf_years tf_sawn tf_pairs tf_gone bd_unsurePair bd_unsureYears bd_triedPair bd_seats bd_slack bd_sawInches bd_quarrelChance bd_people bd_forkBits bd_unsure bd_tried bd_triedFedBits bf_seatOf bf_one bf_other bf_kind bf_years bf_sawn bf_pairs bf_gone nw_seatOf nw_one nw_other nw_kind nw_years nw_sawn nw_pairs nw_gone sc_seatOf sc_handle sc_both sc_slopOf sc_forkBits sc_canBits sc_bestBits sc_bestSlops sl_bits sl_count se_bestRow se_row se_pairAt se_hope se_hopeAt se_slopAt se_farBits se_gain se_worth se_bestWorth se_fresh ch_both ch_cost ch_bit ch_items ch_leastCost ch_leastBits cl_bits cl_count fi_sets fi_count (upd ps_act ps_next.toNatClampNeg l1) (upd ps_whom ps_next.toNatClampNeg l2) (upd ps_amount ps_next.toNatClampNeg l3) x1 ps_count i0_seatOf i0_one i0_other i0_kind i0_years i0_sawn i0_pairs i0_gone i1_seatOf i1_one i1_other i1_kind i1_years i1_sawn i1_pairs i1_gone i2_seatOf i2_one i2_other i2_kind i2_years i2_sawn i2_pairs i2_gone)) C G fX6_21 (wX_at60) rfl rfl (Nat.le_of_ble_eq_true rfl) wX_set_ps_next dX6_keep_40 (fun H locs G => ?_)
  refine lv_aload_n hx hb dX6_keep_43 rfl (lv_at hl 0 rfl) ?_
  refine lv_aload_n hx hb dX6_keep_44 rfl (lv_at hl 0 rfl) ?_
  refine x_get C G fX6_25.g (wX_at60) rfl dX6_keep_45 ?_
  refine lv_iconst (v := 1) hx hb dX6_keep_48 (by decide) ?_
  refine lv_iadd hx hb dX6_keep_49 ?_
  refine lv_bipush (v := 16) hx hb dX6_keep_50 (by decide) ?_
  refine x_min C mMath_min kX6_28 hl.1 (Nat.le_of_ble_eq_true rfl) (Nat.le_of_ble_eq_true rfl) ⟨Nat.le_refl _, Nat.le_refl _⟩ dX6_keep_52 ?_
  refine lv_topi (fun x2 ex2 => ?_)
  have hf := lt_go ex2 hf
  refine x_put (ws' := (wX E ad x_imageCount x_lastTrouble x_lastFault x_lastPlace pa_names pa_faultNumber pa_faultPlace rd_tape rd_length rd_end rd_next rd_sort rd_start rd_value rd_word to_unsurePair to_unsureYears to_triedPair to_seats to_slack to_sawInches to_quarrelChance to_people to_forkBits to_unsure to_tried to_triedFedBits tf_seatOf tf_one tf_other tf_kind tf_years tf_sawn tf_pairs tf_gone bd_unsurePair bd_unsureYears bd_triedPair bd_seats bd_slack bd_sawInches bd_quarrelChance bd_people bd_forkBits bd_unsure bd_tried bd_triedFedBits bf_seatOf bf_one bf_other bf_kind bf_years bf_sawn bf_pairs bf_gone nw_seatOf nw_one nw_other nw_kind nw_years nw_sawn nw_pairs nw_gone sc_seatOf sc_handle sc_both sc_slopOf sc_forkBits sc_canBits sc_bestBits sc_bestSlops sl_bits sl_count se_bestRow se_row se_pairAt se_hope se_hopeAt se_slopAt se_farBits se_gain se_worth se_bestWorth se_fresh ch_both ch_cost ch_bit ch_items ch_leastCost ch_leastBits cl_bits cl_count fi_sets fi_count (upd ps_act ps_next.toNatClampNeg l1) (upd ps_whom ps_next.toNatClampNeg l2) (upd ps_amount ps_next.toNatClampNeg l3) x1 x2 i0_seatOf i0_one i0_other i0_kind i0_years i0_sawn i0_pairs i0_gone i1_seatOf i1_one i1_other i1_kind i1_years i1_sawn i1_pairs i1_gone i2_seatOf i2_one i2_other i2_kind i2_years i2_sawn i2_pairs i2_gone)) C G fX6_25 (wX_at60) rfl rfl (Nat.le_of_ble_eq_true rfl) wX_set_ps_count dX6_keep_55 (fun H locs G => ?_)
  obtain rfl := Option.some.inj hf
  exact xV_ret C G dX6_keep_58
set_option maxHeartbeats 4000000 in
set_option maxRecDepth 100000 in
theorem c_X_acted_x {l : Launch} {E : xE} {ad : Nat → Nat} {x_imageCount x_lastTrouble x_lastFault x_lastPlace pa_faultNumber pa_faultPlace rd_length rd_end rd_next rd_sort rd_start rd_value to_seats to_slack to_sawInches to_quarrelChance to_people to_forkBits to_unsure to_tried to_triedFedBits tf_pairs tf_gone bd_seats bd_slack bd_sawInches bd_quarrelChance bd_people bd_forkBits bd_unsure bd_tried bd_triedFedBits bf_pairs bf_gone nw_pairs nw_gone sc_forkBits sc_canBits sc_bestBits sc_bestSlops sl_count se_bestWorth se_fresh ch_items ch_leastCost ch_leastBits cl_count fi_count ps_next ps_count i0_pairs i0_gone i1_pairs i1_gone i2_pairs i2_gone : Int32} {pa_names : Nat → Int64} {rd_tape to_unsurePair to_unsureYears to_triedPair tf_seatOf tf_one tf_other tf_kind tf_years tf_sawn bd_unsurePair bd_unsureYears bd_triedPair bf_seatOf bf_one bf_other bf_kind bf_years bf_sawn nw_seatOf nw_one nw_other nw_kind nw_years nw_sawn sc_seatOf sc_handle sc_both sc_slopOf sl_bits se_bestRow se_row se_pairAt se_hope se_hopeAt se_slopAt se_farBits se_gain se_worth ch_both ch_cost ch_bit cl_bits fi_sets ps_act ps_whom ps_amount i0_seatOf i0_one i0_other i0_kind i0_years i0_sawn i1_seatOf i1_one i1_other i1_kind i1_years i1_sawn i2_seatOf i2_one i2_other i2_kind i2_years i2_sawn : Nat → Int32} {rd_word : Int64} {l1 : Int32} {l2 : Int32} {l3 : Int32} {R0 : Int32 × (Nat → Int32) × (Nat → Int32) × (Nat → Int32) × Int32 × Int32} (hf : f_X_acted l1 l2 l3 ps_act ps_whom ps_amount ps_next ps_count = some R0) : xV l E yX10_acted cX10_acted 4 none 2 44 [.ref (ad 0), .int l1, .int l2, .int l3] (wX E ad x_imageCount x_lastTrouble x_lastFault x_lastPlace pa_names pa_faultNumber pa_faultPlace rd_tape rd_length rd_end rd_next rd_sort rd_start rd_value rd_word to_unsurePair to_unsureYears to_triedPair to_seats to_slack to_sawInches to_quarrelChance to_people to_forkBits to_unsure to_tried to_triedFedBits tf_seatOf tf_one tf_other tf_kind tf_years tf_sawn tf_pairs tf_gone bd_unsurePair bd_unsureYears bd_triedPair bd_seats bd_slack bd_sawInches bd_quarrelChance bd_people bd_forkBits bd_unsure bd_tried bd_triedFedBits bf_seatOf bf_one bf_other bf_kind bf_years bf_sawn bf_pairs bf_gone nw_seatOf nw_one nw_other nw_kind nw_years nw_sawn nw_pairs nw_gone sc_seatOf sc_handle sc_both sc_slopOf sc_forkBits sc_canBits sc_bestBits sc_bestSlops sl_bits sl_count se_bestRow se_row se_pairAt se_hope se_hopeAt se_slopAt se_farBits se_gain se_worth se_bestWorth se_fresh ch_both ch_cost ch_bit ch_items ch_leastCost ch_leastBits cl_bits cl_count fi_sets fi_count ps_act ps_whom ps_amount ps_next ps_count i0_seatOf i0_one i0_other i0_kind i0_years i0_sawn i0_pairs i0_gone i1_seatOf i1_one i1_other i1_kind i1_years i1_sawn i1_pairs i1_gone i2_seatOf i2_one i2_other i2_kind i2_years i2_sawn i2_pairs i2_gone) (wX E ad x_imageCount x_lastTrouble x_lastFault x_lastPlace pa_names pa_faultNumber pa_faultPlace rd_tape rd_length rd_end rd_next rd_sort rd_start rd_value rd_word to_unsurePair to_unsureYears to_triedPair to_seats to_slack to_sawInches to_quarrelChance to_people to_forkBits to_unsure to_tried to_triedFedBits tf_seatOf tf_one tf_other tf_kind tf_years tf_sawn tf_pairs tf_gone bd_unsurePair bd_unsureYears bd_triedPair bd_seats bd_slack bd_sawInches bd_quarrelChance bd_people bd_forkBits bd_unsure bd_tried bd_triedFedBits bf_seatOf bf_one bf_other bf_kind bf_years bf_sawn bf_pairs bf_gone nw_seatOf nw_one nw_other nw_kind nw_years nw_sawn nw_pairs nw_gone sc_seatOf sc_handle sc_both sc_slopOf sc_forkBits sc_canBits sc_bestBits sc_bestSlops sl_bits sl_count se_bestRow se_row se_pairAt se_hope se_hopeAt se_slopAt se_farBits se_gain se_worth se_bestWorth R0.1 ch_both ch_cost ch_bit ch_items ch_leastCost ch_leastBits cl_bits cl_count fi_sets fi_count R0.2.1 R0.2.2.1 R0.2.2.2.1 R0.2.2.2.2.1 R0.2.2.2.2.2 i0_seatOf i0_one i0_other i0_kind i0_years i0_sawn i0_pairs i0_gone i1_seatOf i1_one i1_other i1_kind i1_years i1_sawn i1_pairs i1_gone i2_seatOf i2_one i2_other i2_kind i2_years i2_sawn i2_pairs i2_gone) := by
  refine xV_of (by decide) (Nat.le_of_ble_eq_true rfl) (fun p e s m args below meth c A C ls hl G => ?_)
  have hx := C.1
  have hb := C.2.1
  have hl : lv_has ls 4 [(0, .ref (ad 0)), (1, .int l1), (2, .int l2), (3, .int l3)] := hl
  unfold f_X_acted at hf
  refine lv_aload_n hx hb dX10_acted_0 rfl (lv_at hl 0 rfl) ?_
  refine x_get C G fX10_65 (wX_at0) rfl dX10_acted_1 ?_
  refine lv_iload_n hx hb dX10_acted_4 rfl (lv_at hl 1 rfl) ?_
  refine lv_iload_n hx hb dX10_acted_5 rfl (lv_at hl 2 rfl) ?_
  refine lv_iload_n hx hb dX10_acted_6 rfl (lv_at hl 3 rfl) ?_
  obtain ⟨x1, hc, hf⟩ := bd_go hf
  refine xV_V C G (c_Past_keep_ps hc) mX6_keep kX10_422 (wX_at60) rfl ⟨Nat.le_of_ble_eq_true rfl, Nat.le_of_ble_eq_true rfl⟩ rfl hl.1 rfl (Nat.le_of_ble_eq_true rfl) ⟨Nat.le_refl _, Nat.le_refl _⟩ dX10_acted_7 (fun H locs G => ?_)
  refine lv_aload_n hx hb dX10_acted_10 rfl (lv_at hl 0 rfl) ?_
  refine x_get C G fX10_42 (wX_at0) rfl dX10_acted_11 ?_
  refine lv_iconst (v := 0) hx hb dX10_acted_14 (by decide) ?_
  refine x_put (ws' := (wX E ad x_imageCount x_lastTrouble x_lastFault x_lastPlace pa_names pa_faultNumber pa_faultPlace rd_tape rd_length rd_end rd_next rd_sort rd_start rd_value rd_word to_unsurePair to_unsureYears to_triedPair to_seats to_slack to_sawInches to_quarrelChance to_people to_forkBits to_unsure to_tried to_triedFedBits tf_seatOf tf_one tf_other tf_kind tf_years tf_sawn tf_pairs tf_gone bd_unsurePair bd_unsureYears bd_triedPair bd_seats bd_slack bd_sawInches bd_quarrelChance bd_people bd_forkBits bd_unsure bd_tried bd_triedFedBits bf_seatOf bf_one bf_other bf_kind bf_years bf_sawn bf_pairs bf_gone nw_seatOf nw_one nw_other nw_kind nw_years nw_sawn nw_pairs nw_gone sc_seatOf sc_handle sc_both sc_slopOf sc_forkBits sc_canBits sc_bestBits sc_bestSlops sl_bits sl_count se_bestRow se_row se_pairAt se_hope se_hopeAt se_slopAt se_farBits se_gain se_worth se_bestWorth (0 : Int32) ch_both ch_cost ch_bit ch_items ch_leastCost ch_leastBits cl_bits cl_count fi_sets fi_count x1.1 x1.2.1 x1.2.2.1 x1.2.2.2.1 x1.2.2.2.2 i0_seatOf i0_one i0_other i0_kind i0_years i0_sawn i0_pairs i0_gone i1_seatOf i1_one i1_other i1_kind i1_years i1_sawn i1_pairs i1_gone i2_seatOf i2_one i2_other i2_kind i2_years i2_sawn i2_pairs i2_gone)) C G fX10_128 (wX_at42) rfl rfl (Nat.le_of_ble_eq_true rfl) wX_set_se_fresh dX10_acted_15 (fun H locs G => ?_)
  obtain rfl := Option.some.inj hf
  exact xV_ret C G dX10_acted_18
set_option maxHeartbeats 4000000 in
set_option maxRecDepth 100000 in
theorem c_X_year_x {l : Launch} {E : xE} {ad : Nat → Nat} {x_imageCount x_lastTrouble x_lastFault x_lastPlace pa_faultNumber pa_faultPlace rd_length rd_end rd_next rd_sort rd_start rd_value to_seats to_slack to_sawInches to_quarrelChance to_people to_forkBits to_unsure to_tried to_triedFedBits tf_pairs tf_gone bd_seats bd_slack bd_sawInches bd_quarrelChance bd_people bd_forkBits bd_unsure bd_tried bd_triedFedBits bf_pairs bf_gone nw_pairs nw_gone sc_forkBits sc_canBits sc_bestBits sc_bestSlops sl_count se_bestWorth se_fresh ch_items ch_leastCost ch_leastBits cl_count fi_count ps_next ps_count i0_pairs i0_gone i1_pairs i1_gone i2_pairs i2_gone : Int32} {pa_names : Nat → Int64} {rd_tape to_unsurePair to_unsureYears to_triedPair tf_seatOf tf_one tf_other tf_kind tf_years tf_sawn bd_unsurePair bd_unsureYears bd_triedPair bf_seatOf bf_one bf_other bf_kind bf_years bf_sawn nw_seatOf nw_one nw_other nw_kind nw_years nw_sawn sc_seatOf sc_handle sc_both sc_slopOf sl_bits se_bestRow se_row se_pairAt se_hope se_hopeAt se_slopAt se_farBits se_gain se_worth ch_both ch_cost ch_bit cl_bits fi_sets ps_act ps_whom ps_amount i0_seatOf i0_one i0_other i0_kind i0_years i0_sawn i1_seatOf i1_one i1_other i1_kind i1_years i1_sawn i2_seatOf i2_one i2_other i2_kind i2_years i2_sawn : Nat → Int32} {rd_word : Int64} {R0 : Int32 × Int32 × (Nat → Int32) × Int32 × (Nat → Int32) × (Nat → Int32) × (Nat → Int32) × (Nat → Int32) × Int32 × Int32 × Int32 × Int32 × (Nat → Int32) × Int32 × Int32 × (Nat → Int32) × (Nat → Int32) × (Nat → Int32) × Int32 × Int32} (hf : f_X_year bd_slack bd_people bd_forkBits nw_seatOf nw_one nw_other nw_kind nw_years nw_sawn nw_pairs nw_gone sc_seatOf sc_handle sc_both sc_slopOf sc_forkBits sc_canBits sc_bestBits sc_bestSlops sl_bits sl_count se_fresh ps_act ps_whom ps_amount ps_next ps_count = some R0) : xI l E yX10_year cX10_year 1 (some .int) 6 136 [.ref (ad 0)] (wX E ad x_imageCount x_lastTrouble x_lastFault x_lastPlace pa_names pa_faultNumber pa_faultPlace rd_tape rd_length rd_end rd_next rd_sort rd_start rd_value rd_word to_unsurePair to_unsureYears to_triedPair to_seats to_slack to_sawInches to_quarrelChance to_people to_forkBits to_unsure to_tried to_triedFedBits tf_seatOf tf_one tf_other tf_kind tf_years tf_sawn tf_pairs tf_gone bd_unsurePair bd_unsureYears bd_triedPair bd_seats bd_slack bd_sawInches bd_quarrelChance bd_people bd_forkBits bd_unsure bd_tried bd_triedFedBits bf_seatOf bf_one bf_other bf_kind bf_years bf_sawn bf_pairs bf_gone nw_seatOf nw_one nw_other nw_kind nw_years nw_sawn nw_pairs nw_gone sc_seatOf sc_handle sc_both sc_slopOf sc_forkBits sc_canBits sc_bestBits sc_bestSlops sl_bits sl_count se_bestRow se_row se_pairAt se_hope se_hopeAt se_slopAt se_farBits se_gain se_worth se_bestWorth se_fresh ch_both ch_cost ch_bit ch_items ch_leastCost ch_leastBits cl_bits cl_count fi_sets fi_count ps_act ps_whom ps_amount ps_next ps_count i0_seatOf i0_one i0_other i0_kind i0_years i0_sawn i0_pairs i0_gone i1_seatOf i1_one i1_other i1_kind i1_years i1_sawn i1_pairs i1_gone i2_seatOf i2_one i2_other i2_kind i2_years i2_sawn i2_pairs i2_gone) (wX E ad x_imageCount R0.2.1 x_lastFault x_lastPlace pa_names pa_faultNumber pa_faultPlace rd_tape rd_length rd_end rd_next rd_sort rd_start rd_value rd_word to_unsurePair to_unsureYears to_triedPair to_seats to_slack to_sawInches to_quarrelChance to_people to_forkBits to_unsure to_tried to_triedFedBits tf_seatOf tf_one tf_other tf_kind tf_years tf_sawn tf_pairs tf_gone bd_unsurePair bd_unsureYears bd_triedPair bd_seats bd_slack bd_sawInches bd_quarrelChance bd_people bd_forkBits bd_unsure bd_tried bd_triedFedBits bf_seatOf bf_one bf_other bf_kind bf_years bf_sawn bf_pairs bf_gone nw_seatOf nw_one nw_other nw_kind R0.2.2.1 nw_sawn nw_pairs R0.2.2.2.1 R0.2.2.2.2.1 R0.2.2.2.2.2.1 R0.2.2.2.2.2.2.1 R0.2.2.2.2.2.2.2.1 R0.2.2.2.2.2.2.2.2.1 R0.2.2.2.2.2.2.2.2.2.1 R0.2.2.2.2.2.2.2.2.2.2.1 R0.2.2.2.2.2.2.2.2.2.2.2.1 R0.2.2.2.2.2.2.2.2.2.2.2.2.1 R0.2.2.2.2.2.2.2.2.2.2.2.2.2.1 se_bestRow se_row se_pairAt se_hope se_hopeAt se_slopAt se_farBits se_gain se_worth se_bestWorth R0.2.2.2.2.2.2.2.2.2.2.2.2.2.2.1 ch_both ch_cost ch_bit ch_items ch_leastCost ch_leastBits cl_bits cl_count fi_sets fi_count R0.2.2.2.2.2.2.2.2.2.2.2.2.2.2.2.1 R0.2.2.2.2.2.2.2.2.2.2.2.2.2.2.2.2.1 R0.2.2.2.2.2.2.2.2.2.2.2.2.2.2.2.2.2.1 R0.2.2.2.2.2.2.2.2.2.2.2.2.2.2.2.2.2.2.1 R0.2.2.2.2.2.2.2.2.2.2.2.2.2.2.2.2.2.2.2 i0_seatOf i0_one i0_other i0_kind i0_years i0_sawn i0_pairs i0_gone i1_seatOf i1_one i1_other i1_kind i1_years i1_sawn i1_pairs i1_gone i2_seatOf i2_one i2_other i2_kind i2_years i2_sawn i2_pairs i2_gone) R0.1 := by
  refine xI_of (by decide) (Nat.le_of_ble_eq_true rfl) (fun p e s m args below meth c A C ls hl G => ?_)
  have hx := C.1
  have hb := C.2.1
  have hl : lv_has ls 1 [(0, .ref (ad 0))] := hl
  unfold f_X_year at hf
  refine lv_aload_n hx hb dX10_year_0 rfl (lv_at hl 0 rfl) ?_
  obtain ⟨x1, hc, hf⟩ := bd_go hf
  refine xI_V C G (c_X_noTable_x hc) mX10_noTable kX10_187 (wX_at0) rfl ⟨Nat.le_of_ble_eq_true rfl, Nat.le_of_ble_eq_true rfl⟩ rfl hl.1 rfl (Nat.le_of_ble_eq_true rfl) ⟨Nat.le_refl _, Nat.le_refl _⟩ dX10_year_1 (fun hz1 H locs G => ?_)
  refine lv_if_eq (tgt := 9) hx hb dX10_year_4 (by decide) (fun h => ?_) (fun h => ?_)
  · have hf := it_t h hf
    refine lv_aload_n hx hb dX10_year_9 rfl (lv_at hl 0 rfl) ?_
    refine x_get C G fX10_26 (wX_at0) rfl dX10_year_10 ?_
    refine x_get C G fX10_339.g (wX_at28) rfl dX10_year_13 ?_
    refine lv_sipush (v := 999) hx hb dX10_year_16 (by decide) ?_
    refine lv_icmp_lt (tgt := 28) hx hb dX10_year_19 (by decide) (fun h => ?_) (fun h => ?_)
    · have hf := it_t h hf
      refine lv_aload_n hx hb dX10_year_28 rfl (lv_at hl 0 rfl) ?_
      refine x_get C G fX10_26 (wX_at0) rfl dX10_year_29 ?_
      refine lv_iconst (v := 1) hx hb dX10_year_32 (by decide) ?_
      obtain ⟨x2, hc, hf⟩ := bd_go hf
      refine xV_V C G (c_Now_passYears_nw hc) mX4_passYears kX10_342 (wX_at28) rfl ⟨Nat.le_of_ble_eq_true rfl, Nat.le_of_ble_eq_true rfl⟩ rfl hl.1 rfl (Nat.le_of_ble_eq_true rfl) ⟨Nat.le_refl _, Nat.le_refl _⟩ dX10_year_33 (fun H locs G => ?_)
      refine lv_aload_n hx hb dX10_year_36 rfl (lv_at hl 0 rfl) ?_
      refine lv_iconst (v := 0) hx hb dX10_year_37 (by decide) ?_
      refine lv_iconst (v := 0) hx hb dX10_year_38 (by decide) ?_
      refine lv_iconst (v := 0) hx hb dX10_year_39 (by decide) ?_
      obtain ⟨x3, hc, hf⟩ := bd_go hf
      refine xV_V C G (c_X_acted_x hc) mX10_acted kX10_345 (wX_at0) rfl ⟨Nat.le_of_ble_eq_true rfl, Nat.le_of_ble_eq_true rfl⟩ rfl hl.1 rfl (Nat.le_of_ble_eq_true rfl) ⟨Nat.le_refl _, Nat.le_refl _⟩ dX10_year_40 (fun H locs G => ?_)
      refine lv_aload_n hx hb dX10_year_43 rfl (lv_at hl 0 rfl) ?_
      refine lv_iconst (v := 0) hx hb dX10_year_44 (by decide) ?_
      obtain ⟨x4, hc, hf⟩ := bd_go hf
      refine xI_V C G (c_X_fedBehind_x hc) mX10_fedBehind kX10_191 (wX_at0) rfl ⟨Nat.le_of_ble_eq_true rfl, Nat.le_of_ble_eq_true rfl⟩ rfl hl.1 rfl (Nat.le_of_ble_eq_true rfl) ⟨Nat.le_refl _, Nat.le_refl _⟩ dX10_year_45 (fun hz H locs G => ?_)
      obtain rfl := Option.some.inj hf
      exact xI_ret C G rfl dX10_year_48
    · have hf := it_f h hf
      refine lv_aload_n hx hb dX10_year_22 rfl (lv_at hl 0 rfl) ?_
      refine lv_iconst (v := 3) hx hb dX10_year_23 (by decide) ?_
      obtain ⟨x5, hc, hf⟩ := bd_go hf
      refine xI_V C G (c_X_refused_x hc) mX10_refused kX10_87 (wX_at0) rfl ⟨Nat.le_of_ble_eq_true rfl, Nat.le_of_ble_eq_true rfl⟩ rfl hl.1 rfl (Nat.le_of_ble_eq_true rfl) ⟨Nat.le_refl _, Nat.le_refl _⟩ dX10_year_24 (fun hz H locs G => ?_)
      obtain rfl := Option.some.inj hf
      exact xI_ret C G rfl dX10_year_27
  · have hf := it_f h hf
    refine lv_iconst (v := -1) hx hb dX10_year_7 (by decide) ?_
    obtain rfl := Option.some.inj hf
    exact xI_ret C G rfl dX10_year_8
set_option maxHeartbeats 4000000 in
set_option maxRecDepth 100000 in
theorem c_X_quarrel_x {l : Launch} {E : xE} {ad : Nat → Nat} {x_imageCount x_lastTrouble x_lastFault x_lastPlace pa_faultNumber pa_faultPlace rd_length rd_end rd_next rd_sort rd_start rd_value to_seats to_slack to_sawInches to_quarrelChance to_people to_forkBits to_unsure to_tried to_triedFedBits tf_pairs tf_gone bd_seats bd_slack bd_sawInches bd_quarrelChance bd_people bd_forkBits bd_unsure bd_tried bd_triedFedBits bf_pairs bf_gone nw_pairs nw_gone sc_forkBits sc_canBits sc_bestBits sc_bestSlops sl_count se_bestWorth se_fresh ch_items ch_leastCost ch_leastBits cl_count fi_count ps_next ps_count i0_pairs i0_gone i1_pairs i1_gone i2_pairs i2_gone : Int32} {pa_names : Nat → Int64} {rd_tape to_unsurePair to_unsureYears to_triedPair tf_seatOf tf_one tf_other tf_kind tf_years tf_sawn bd_unsurePair bd_unsureYears bd_triedPair bf_seatOf bf_one bf_other bf_kind bf_years bf_sawn nw_seatOf nw_one nw_other nw_kind nw_years nw_sawn sc_seatOf sc_handle sc_both sc_slopOf sl_bits se_bestRow se_row se_pairAt se_hope se_hopeAt se_slopAt se_farBits se_gain se_worth ch_both ch_cost ch_bit cl_bits fi_sets ps_act ps_whom ps_amount i0_seatOf i0_one i0_other i0_kind i0_years i0_sawn i1_seatOf i1_one i1_other i1_kind i1_years i1_sawn i2_seatOf i2_one i2_other i2_kind i2_years i2_sawn : Nat → Int32} {rd_word : Int64} {l1 : Int32} {R0 : Int32 × Int32 × (Nat → Int32) × Int32 × (Nat → Int32) × (Nat → Int32) × (Nat → Int32) × Int32 × Int32} (hf : f_X_quarrel l1 bd_sawInches nw_kind nw_years nw_sawn nw_pairs se_fresh ps_act ps_whom ps_amount ps_next ps_count = some R0) : xI l E yX10_quarrel cX10_quarrel 4 (some .int) 3 67 [.ref (ad 0), .int l1] (wX E ad x_imageCount x_lastTrouble x_lastFault x_lastPlace pa_names pa_faultNumber pa_faultPlace rd_tape rd_length rd_end rd_next rd_sort rd_start rd_value rd_word to_unsurePair to_unsureYears to_triedPair to_seats to_slack to_sawInches to_quarrelChance to_people to_forkBits to_unsure to_tried to_triedFedBits tf_seatOf tf_one tf_other tf_kind tf_years tf_sawn tf_pairs tf_gone bd_unsurePair bd_unsureYears bd_triedPair bd_seats bd_slack bd_sawInches bd_quarrelChance bd_people bd_forkBits bd_unsure bd_tried bd_triedFedBits bf_seatOf bf_one bf_other bf_kind bf_years bf_sawn bf_pairs bf_gone nw_seatOf nw_one nw_other nw_kind nw_years nw_sawn nw_pairs nw_gone sc_seatOf sc_handle sc_both sc_slopOf sc_forkBits sc_canBits sc_bestBits sc_bestSlops sl_bits sl_count se_bestRow se_row se_pairAt se_hope se_hopeAt se_slopAt se_farBits se_gain se_worth se_bestWorth se_fresh ch_both ch_cost ch_bit ch_items ch_leastCost ch_leastBits cl_bits cl_count fi_sets fi_count ps_act ps_whom ps_amount ps_next ps_count i0_seatOf i0_one i0_other i0_kind i0_years i0_sawn i0_pairs i0_gone i1_seatOf i1_one i1_other i1_kind i1_years i1_sawn i1_pairs i1_gone i2_seatOf i2_one i2_other i2_kind i2_years i2_sawn i2_pairs i2_gone) (wX E ad x_imageCount R0.2.1 x_lastFault x_lastPlace pa_names pa_faultNumber pa_faultPlace rd_tape rd_length rd_end rd_next rd_sort rd_start rd_value rd_word to_unsurePair to_unsureYears to_triedPair to_seats to_slack to_sawInches to_quarrelChance to_people to_forkBits to_unsure to_tried to_triedFedBits tf_seatOf tf_one tf_other tf_kind tf_years tf_sawn tf_pairs tf_gone bd_unsurePair bd_unsureYears bd_triedPair bd_seats bd_slack bd_sawInches bd_quarrelChance bd_people bd_forkBits bd_unsure bd_tried bd_triedFedBits bf_seatOf bf_one bf_other bf_kind bf_years bf_sawn bf_pairs bf_gone nw_seatOf nw_one nw_other nw_kind nw_years R0.2.2.1 nw_pairs nw_gone sc_seatOf sc_handle sc_both sc_slopOf sc_forkBits sc_canBits sc_bestBits sc_bestSlops sl_bits sl_count se_bestRow se_row se_pairAt se_hope se_hopeAt se_slopAt se_farBits se_gain se_worth se_bestWorth R0.2.2.2.1 ch_both ch_cost ch_bit ch_items ch_leastCost ch_leastBits cl_bits cl_count fi_sets fi_count R0.2.2.2.2.1 R0.2.2.2.2.2.1 R0.2.2.2.2.2.2.1 R0.2.2.2.2.2.2.2.1 R0.2.2.2.2.2.2.2.2 i0_seatOf i0_one i0_other i0_kind i0_years i0_sawn i0_pairs i0_gone i1_seatOf i1_one i1_other i1_kind i1_years i1_sawn i1_pairs i1_gone i2_seatOf i2_one i2_other i2_kind i2_years i2_sawn i2_pairs i2_gone) R0.1 := by
  refine xI_of (by decide) (Nat.le_of_ble_eq_true rfl) (fun p e s m args below meth c A C ls hl G => ?_)
  have hx := C.1
  have hb := C.2.1
  have hl : lv_has ls 4 [(0, .ref (ad 0)), (1, .int l1)] := hl
  unfold f_X_quarrel at hf
  refine lv_aload_n hx hb dX10_quarrel_0 rfl (lv_at hl 0 rfl) ?_
  refine lv_iload_n hx hb dX10_quarrel_1 rfl (lv_at hl 1 rfl) ?_
  obtain ⟨x1, hc, hf⟩ := bd_go hf
  refine xI_V C G (c_X_noPair_x hc) mX10_noPair kX10_142 (wX_at0) rfl ⟨Nat.le_of_ble_eq_true rfl, Nat.le_of_ble_eq_true rfl⟩ rfl hl.1 rfl (Nat.le_of_ble_eq_true rfl) ⟨Nat.le_refl _, Nat.le_refl _⟩ dX10_quarrel_2 (fun hz1 H locs G => ?_)
  refine lv_if_eq (tgt := 10) hx hb dX10_quarrel_5 (by decide) (fun h => ?_) (fun h => ?_)
  · have hf := it_t h hf
    refine lv_aload_n hx hb dX10_quarrel_10 rfl (lv_at hl 0 rfl) ?_
    refine x_get C G fX10_26 (wX_at0) rfl dX10_quarrel_11 ?_
    refine lv_iload_n hx hb dX10_quarrel_14 rfl (lv_at hl 1 rfl) ?_
    obtain ⟨x2, hc, hf⟩ := bd_go hf
    refine xI_V C G (c_Now_handle_nw hc) mX4_handle kX10_154 (wX_at28) rfl ⟨Nat.le_of_ble_eq_true rfl, Nat.le_of_ble_eq_true rfl⟩ rfl hl.1 rfl (Nat.le_of_ble_eq_true rfl) ⟨Nat.le_refl _, Nat.le_refl _⟩ dX10_quarrel_15 (fun hz H locs G => ?_)
    refine lv_istore_n (lv' := [(2, .int x2), (0, .ref (ad 0)), (1, .int l1)]) hx hb dX10_quarrel_18 rfl hl (by decide) rfl (fun ls hl => ?_)
    refine lv_aload_n hx hb dX10_quarrel_19 rfl (lv_at hl 1 rfl) ?_
    refine x_get C G fX10_26 (wX_at0) rfl dX10_quarrel_20 ?_
    refine x_get C G fX10_157 (wX_at28) rfl dX10_quarrel_23 ?_
    refine lv_iload_n hx hb dX10_quarrel_26 rfl (lv_at hl 2 rfl) ?_
    have hi := ck_in hf
    have hf := ck_go hf
    refine x_iald C G (wX_at32) hi dX10_quarrel_27 ?_
    refine lv_iconst (v := 2) hx hb dX10_quarrel_28 (by decide) ?_
    obtain ⟨b3, hr, hf⟩ := bd_go hf
    cases b3 with
    | true =>
      have hf := it_t rfl hf
      have J : ∀ (H : Heap) (locs : List Loc), xG s E A (wX E ad x_imageCount x1.2 x_lastFault x_lastPlace pa_names pa_faultNumber pa_faultPlace rd_tape rd_length rd_end rd_next rd_sort rd_start rd_value rd_word to_unsurePair to_unsureYears to_triedPair to_seats to_slack to_sawInches to_quarrelChance to_people to_forkBits to_unsure to_tried to_triedFedBits tf_seatOf tf_one tf_other tf_kind tf_years tf_sawn tf_pairs tf_gone bd_unsurePair bd_unsureYears bd_triedPair bd_seats bd_slack bd_sawInches bd_quarrelChance bd_people bd_forkBits bd_unsure bd_tried bd_triedFedBits bf_seatOf bf_one bf_other bf_kind bf_years bf_sawn bf_pairs bf_gone nw_seatOf nw_one nw_other nw_kind nw_years nw_sawn nw_pairs nw_gone sc_seatOf sc_handle sc_both sc_slopOf sc_forkBits sc_canBits sc_bestBits sc_bestSlops sl_bits sl_count se_bestRow se_row se_pairAt se_hope se_hopeAt se_slopAt se_farBits se_gain se_worth se_bestWorth se_fresh ch_both ch_cost ch_bit ch_items ch_leastCost ch_leastBits cl_bits cl_count fi_sets fi_count ps_act ps_whom ps_amount ps_next ps_count i0_seatOf i0_one i0_other i0_kind i0_years i0_sawn i0_pairs i0_gone i1_seatOf i1_one i1_other i1_kind i1_years i1_sawn i1_pairs i1_gone i2_seatOf i2_one i2_other i2_kind i2_years i2_sawn i2_pairs i2_gone) H locs → W p l e (xR 3 67) s m args below meth c H locs 0 0 (MQ below (xqI E A (wX E ad x_imageCount R0.2.1 x_lastFault x_lastPlace pa_names pa_faultNumber pa_faultPlace rd_tape rd_length rd_end rd_next rd_sort rd_start rd_value rd_word to_unsurePair to_unsureYears to_triedPair to_seats to_slack to_sawInches to_quarrelChance to_people to_forkBits to_unsure to_tried to_triedFedBits tf_seatOf tf_one tf_other tf_kind tf_years tf_sawn tf_pairs tf_gone bd_unsurePair bd_unsureYears bd_triedPair bd_seats bd_slack bd_sawInches bd_quarrelChance bd_people bd_forkBits bd_unsure bd_tried bd_triedFedBits bf_seatOf bf_one bf_other bf_kind bf_years bf_sawn bf_pairs bf_gone nw_seatOf nw_one nw_other nw_kind nw_years R0.2.2.1 nw_pairs nw_gone sc_seatOf sc_handle sc_both sc_slopOf sc_forkBits sc_canBits sc_bestBits sc_bestSlops sl_bits sl_count se_bestRow se_row se_pairAt se_hope se_hopeAt se_slopAt se_farBits se_gain se_worth se_bestWorth R0.2.2.2.1 ch_both ch_cost ch_bit ch_items ch_leastCost ch_leastBits cl_bits cl_count fi_sets fi_count R0.2.2.2.2.1 R0.2.2.2.2.2.1 R0.2.2.2.2.2.2.1 R0.2.2.2.2.2.2.2.1 R0.2.2.2.2.2.2.2.2 i0_seatOf i0_one i0_other i0_kind i0_years i0_sawn i0_pairs i0_gone i1_seatOf i1_one i1_other i1_kind i1_years i1_sawn i1_pairs i1_gone i2_seatOf i2_one i2_other i2_kind i2_years i2_sawn i2_pairs i2_gone) (some .int) R0.1) args s 0 0 A) (F0 m 36 ls []) := by
        intro H locs G
        refine lv_aload_n hx hb dX10_quarrel_36 rfl (lv_at hl 1 rfl) ?_
        refine lv_iconst (v := 5) hx hb dX10_quarrel_37 (by decide) ?_
        obtain ⟨x4, hc, hf⟩ := bd_go hf
        refine xI_V C G (c_X_refused_x hc) mX10_refused kX10_87 (wX_at0) rfl ⟨Nat.le_of_ble_eq_true rfl, Nat.le_of_ble_eq_true rfl⟩ rfl hl.1 rfl (Nat.le_of_ble_eq_true rfl) ⟨Nat.le_refl _, Nat.le_refl _⟩ dX10_quarrel_38 (fun hz H locs G => ?_)
        obtain rfl := Option.some.inj hf
        exact xI_ret C G rfl dX10_quarrel_41
      have hf := hr
      clear hr
      refine lv_icmp_eq (tgt := 36) hx hb dX10_quarrel_29 (by decide) (fun h => ?_) (fun h => ?_)
      · have hf := it_t h hf
        exact J _ _ G
      · have hf := it_f h hf
        refine lv_iload_n hx hb dX10_quarrel_32 rfl (lv_at hl 0 rfl) ?_
        refine lv_if_ne (tgt := 42) hx hb dX10_quarrel_33 (by decide) (fun h => ?_) (fun h => ?_)
        · have hf := it_f h hf
          exact absurd (Option.some.inj hf) (by decide)
        · have hf := it_t h hf
          exact J _ _ G
    | false =>
      have hf := it_f (by decide) hf
      have J : ∀ (H : Heap) (locs : List Loc), xG s E A (wX E ad x_imageCount x1.2 x_lastFault x_lastPlace pa_names pa_faultNumber pa_faultPlace rd_tape rd_length rd_end rd_next rd_sort rd_start rd_value rd_word to_unsurePair to_unsureYears to_triedPair to_seats to_slack to_sawInches to_quarrelChance to_people to_forkBits to_unsure to_tried to_triedFedBits tf_seatOf tf_one tf_other tf_kind tf_years tf_sawn tf_pairs tf_gone bd_unsurePair bd_unsureYears bd_triedPair bd_seats bd_slack bd_sawInches bd_quarrelChance bd_people bd_forkBits bd_unsure bd_tried bd_triedFedBits bf_seatOf bf_one bf_other bf_kind bf_years bf_sawn bf_pairs bf_gone nw_seatOf nw_one nw_other nw_kind nw_years nw_sawn nw_pairs nw_gone sc_seatOf sc_handle sc_both sc_slopOf sc_forkBits sc_canBits sc_bestBits sc_bestSlops sl_bits sl_count se_bestRow se_row se_pairAt se_hope se_hopeAt se_slopAt se_farBits se_gain se_worth se_bestWorth se_fresh ch_both ch_cost ch_bit ch_items ch_leastCost ch_leastBits cl_bits cl_count fi_sets fi_count ps_act ps_whom ps_amount ps_next ps_count i0_seatOf i0_one i0_other i0_kind i0_years i0_sawn i0_pairs i0_gone i1_seatOf i1_one i1_other i1_kind i1_years i1_sawn i1_pairs i1_gone i2_seatOf i2_one i2_other i2_kind i2_years i2_sawn i2_pairs i2_gone) H locs → W p l e (xR 3 67) s m args below meth c H locs 0 0 (MQ below (xqI E A (wX E ad x_imageCount R0.2.1 x_lastFault x_lastPlace pa_names pa_faultNumber pa_faultPlace rd_tape rd_length rd_end rd_next rd_sort rd_start rd_value rd_word to_unsurePair to_unsureYears to_triedPair to_seats to_slack to_sawInches to_quarrelChance to_people to_forkBits to_unsure to_tried to_triedFedBits tf_seatOf tf_one tf_other tf_kind tf_years tf_sawn tf_pairs tf_gone bd_unsurePair bd_unsureYears bd_triedPair bd_seats bd_slack bd_sawInches bd_quarrelChance bd_people bd_forkBits bd_unsure bd_tried bd_triedFedBits bf_seatOf bf_one bf_other bf_kind bf_years bf_sawn bf_pairs bf_gone nw_seatOf nw_one nw_other nw_kind nw_years R0.2.2.1 nw_pairs nw_gone sc_seatOf sc_handle sc_both sc_slopOf sc_forkBits sc_canBits sc_bestBits sc_bestSlops sl_bits sl_count se_bestRow se_row se_pairAt se_hope se_hopeAt se_slopAt se_farBits se_gain se_worth se_bestWorth R0.2.2.2.1 ch_both ch_cost ch_bit ch_items ch_leastCost ch_leastBits cl_bits cl_count fi_sets fi_count R0.2.2.2.2.1 R0.2.2.2.2.2.1 R0.2.2.2.2.2.2.1 R0.2.2.2.2.2.2.2.1 R0.2.2.2.2.2.2.2.2 i0_seatOf i0_one i0_other i0_kind i0_years i0_sawn i0_pairs i0_gone i1_seatOf i1_one i1_other i1_kind i1_years i1_sawn i1_pairs i1_gone i2_seatOf i2_one i2_other i2_kind i2_years i2_sawn i2_pairs i2_gone) (some .int) R0.1) args s 0 0 A) (F0 m 42 ls []) := by
        intro H locs G
        refine lv_aload_n hx hb dX10_quarrel_42 rfl (lv_at hl 1 rfl) ?_
        refine x_get C G fX10_22 (wX_at0) rfl dX10_quarrel_43 ?_
        refine x_get C G fX10_349.g (wX_at17) rfl dX10_quarrel_46 ?_
        refine lv_iload_n hx hb dX10_quarrel_49 rfl (lv_at hl 0 rfl) ?_
        refine x_min C mMath_min kX10_352 hl.1 (Nat.le_of_ble_eq_true rfl) (Nat.le_of_ble_eq_true rfl) ⟨Nat.le_refl _, Nat.le_refl _⟩ dX10_quarrel_50 ?_
        refine lv_topi (fun x5 ex5 => ?_)
        have hf := lt_go ex5 hf
        refine lv_istore_n (lv' := [(3, .int x5), (2, .int x2), (0, .ref (ad 0)), (1, .int l1)]) hx hb dX10_quarrel_53 rfl hl (by decide) rfl (fun ls hl => ?_)
        refine lv_aload_n hx hb dX10_quarrel_54 rfl (lv_at hl 2 rfl) ?_
        refine x_get C G fX10_26 (wX_at0) rfl dX10_quarrel_55 ?_
        refine x_get C G fX10_160 (wX_at28) rfl dX10_quarrel_58 ?_
        refine lv_iload_n hx hb dX10_quarrel_61 rfl (lv_at hl 3 rfl) ?_
        refine lv_dup2_11 hx hb dX10_quarrel_62 rfl rfl ?_
        have hi := ck_in hf
        have hf := ck_go hf
        refine x_iald C G (wX_at34) hi dX10_quarrel_63 ?_
        refine lv_iload_n hx hb dX10_quarrel_64 rfl (lv_at hl 0 rfl) ?_
        refine lv_iadd hx hb dX10_quarrel_65 ?_
        have hi := ck_in hf
        have hf := ck_go hf
        refine x_iast (ws' := (wX E ad x_imageCount x1.2 x_lastFault x_lastPlace pa_names pa_faultNumber pa_faultPlace rd_tape rd_length rd_end rd_next rd_sort rd_start rd_value rd_word to_unsurePair to_unsureYears to_triedPair to_seats to_slack to_sawInches to_quarrelChance to_people to_forkBits to_unsure to_tried to_triedFedBits tf_seatOf tf_one tf_other tf_kind tf_years tf_sawn tf_pairs tf_gone bd_unsurePair bd_unsureYears bd_triedPair bd_seats bd_slack bd_sawInches bd_quarrelChance bd_people bd_forkBits bd_unsure bd_tried bd_triedFedBits bf_seatOf bf_one bf_other bf_kind bf_years bf_sawn bf_pairs bf_gone nw_seatOf nw_one nw_other nw_kind nw_years (upd nw_sawn l1.toNatClampNeg ((nw_sawn l1.toNatClampNeg) + x5)) nw_pairs nw_gone sc_seatOf sc_handle sc_both sc_slopOf sc_forkBits sc_canBits sc_bestBits sc_bestSlops sl_bits sl_count se_bestRow se_row se_pairAt se_hope se_hopeAt se_slopAt se_farBits se_gain se_worth se_bestWorth se_fresh ch_both ch_cost ch_bit ch_items ch_leastCost ch_leastBits cl_bits cl_count fi_sets fi_count ps_act ps_whom ps_amount ps_next ps_count i0_seatOf i0_one i0_other i0_kind i0_years i0_sawn i0_pairs i0_gone i1_seatOf i1_one i1_other i1_kind i1_years i1_sawn i1_pairs i1_gone i2_seatOf i2_one i2_other i2_kind i2_years i2_sawn i2_pairs i2_gone)) C G (wX_at34) hi wX_set_nw_sawn dX10_quarrel_66 (fun H locs G => ?_)
        refine lv_aload_n hx hb dX10_quarrel_67 rfl (lv_at hl 2 rfl) ?_
        refine lv_iconst (v := 1) hx hb dX10_quarrel_68 (by decide) ?_
        refine lv_iload_n hx hb dX10_quarrel_69 rfl (lv_at hl 3 rfl) ?_
        refine lv_iload_n hx hb dX10_quarrel_70 rfl (lv_at hl 0 rfl) ?_
        obtain ⟨x6, hc, hf⟩ := bd_go hf
        refine xV_V C G (c_X_acted_x hc) mX10_acted kX10_345 (wX_at0) rfl ⟨Nat.le_of_ble_eq_true rfl, Nat.le_of_ble_eq_true rfl⟩ rfl hl.1 rfl (Nat.le_of_ble_eq_true rfl) ⟨Nat.le_refl _, Nat.le_refl _⟩ dX10_quarrel_71 (fun H locs G => ?_)
        refine lv_aload_n hx hb dX10_quarrel_74 rfl (lv_at hl 2 rfl) ?_
        refine x_get C G fX10_26 (wX_at0) rfl dX10_quarrel_75 ?_
        refine lv_iload_n hx hb dX10_quarrel_78 rfl (lv_at hl 3 rfl) ?_
        obtain ⟨x7, hc, hf⟩ := bd_go hf
        refine xI_V C G (c_Now_handle_nw hc) mX4_handle kX10_154 (wX_at28) rfl ⟨Nat.le_of_ble_eq_true rfl, Nat.le_of_ble_eq_true rfl⟩ rfl hl.1 rfl (Nat.le_of_ble_eq_true rfl) ⟨Nat.le_refl _, Nat.le_refl _⟩ dX10_quarrel_79 (fun hz H locs G => ?_)
        obtain rfl := Option.some.inj hf
        exact xI_ret C G rfl dX10_quarrel_82
      have hf := hr
      clear hr
      refine lv_icmp_eq (tgt := 36) hx hb dX10_quarrel_29 (by decide) (fun h => ?_) (fun h => ?_)
      · have hf := it_t h hf
        exact absurd (Option.some.inj hf) (by decide)
      · have hf := it_f h hf
        refine lv_iload_n hx hb dX10_quarrel_32 rfl (lv_at hl 0 rfl) ?_
        refine lv_if_ne (tgt := 42) hx hb dX10_quarrel_33 (by decide) (fun h => ?_) (fun h => ?_)
        · have hf := it_f h hf
          exact J _ _ G
        · have hf := it_t h hf
          exact absurd (Option.some.inj hf) (by decide)
  · have hf := it_f h hf
    refine lv_iconst (v := -1) hx hb dX10_quarrel_8 (by decide) ?_
    obtain rfl := Option.some.inj hf
    exact xI_ret C G rfl dX10_quarrel_9
set_option maxHeartbeats 4000000 in
set_option maxRecDepth 100000 in
theorem c_X_sit_x {l : Launch} {E : xE} {ad : Nat → Nat} {x_imageCount x_lastTrouble x_lastFault x_lastPlace pa_faultNumber pa_faultPlace rd_length rd_end rd_next rd_sort rd_start rd_value to_seats to_slack to_sawInches to_quarrelChance to_people to_forkBits to_unsure to_tried to_triedFedBits tf_pairs tf_gone bd_seats bd_slack bd_sawInches bd_quarrelChance bd_people bd_forkBits bd_unsure bd_tried bd_triedFedBits bf_pairs bf_gone nw_pairs nw_gone sc_forkBits sc_canBits sc_bestBits sc_bestSlops sl_count se_bestWorth se_fresh ch_items ch_leastCost ch_leastBits cl_count fi_count ps_next ps_count i0_pairs i0_gone i1_pairs i1_gone i2_pairs i2_gone : Int32} {pa_names : Nat → Int64} {rd_tape to_unsurePair to_unsureYears to_triedPair tf_seatOf tf_one tf_other tf_kind tf_years tf_sawn bd_unsurePair bd_unsureYears bd_triedPair bf_seatOf bf_one bf_other bf_kind bf_years bf_sawn nw_seatOf nw_one nw_other nw_kind nw_years nw_sawn sc_seatOf sc_handle sc_both sc_slopOf sl_bits se_bestRow se_row se_pairAt se_hope se_hopeAt se_slopAt se_farBits se_gain se_worth ch_both ch_cost ch_bit cl_bits fi_sets ps_act ps_whom ps_amount i0_seatOf i0_one i0_other i0_kind i0_years i0_sawn i1_seatOf i1_one i1_other i1_kind i1_years i1_sawn i2_seatOf i2_one i2_other i2_kind i2_years i2_sawn : Nat → Int32} {rd_word : Int64} {l1 : Int32} {l2 : Int32} {R0 : Int32 × Int32 × (Nat → Int32) × Int32 × (Nat → Int32) × (Nat → Int32) × (Nat → Int32) × Int32 × Int32} (hf : f_X_sit l1 l2 bd_seats bd_people nw_seatOf se_fresh ps_act ps_whom ps_amount ps_next ps_count = some R0) : xI l E yX10_sit cX10_sit 4 (some .int) 3 67 [.ref (ad 0), .int l1, .int l2] (wX E ad x_imageCount x_lastTrouble x_lastFault x_lastPlace pa_names pa_faultNumber pa_faultPlace rd_tape rd_length rd_end rd_next rd_sort rd_start rd_value rd_word to_unsurePair to_unsureYears to_triedPair to_seats to_slack to_sawInches to_quarrelChance to_people to_forkBits to_unsure to_tried to_triedFedBits tf_seatOf tf_one tf_other tf_kind tf_years tf_sawn tf_pairs tf_gone bd_unsurePair bd_unsureYears bd_triedPair bd_seats bd_slack bd_sawInches bd_quarrelChance bd_people bd_forkBits bd_unsure bd_tried bd_triedFedBits bf_seatOf bf_one bf_other bf_kind bf_years bf_sawn bf_pairs bf_gone nw_seatOf nw_one nw_other nw_kind nw_years nw_sawn nw_pairs nw_gone sc_seatOf sc_handle sc_both sc_slopOf sc_forkBits sc_canBits sc_bestBits sc_bestSlops sl_bits sl_count se_bestRow se_row se_pairAt se_hope se_hopeAt se_slopAt se_farBits se_gain se_worth se_bestWorth se_fresh ch_both ch_cost ch_bit ch_items ch_leastCost ch_leastBits cl_bits cl_count fi_sets fi_count ps_act ps_whom ps_amount ps_next ps_count i0_seatOf i0_one i0_other i0_kind i0_years i0_sawn i0_pairs i0_gone i1_seatOf i1_one i1_other i1_kind i1_years i1_sawn i1_pairs i1_gone i2_seatOf i2_one i2_other i2_kind i2_years i2_sawn i2_pairs i2_gone) (wX E ad x_imageCount R0.2.1 x_lastFault x_lastPlace pa_names pa_faultNumber pa_faultPlace rd_tape rd_length rd_end rd_next rd_sort rd_start rd_value rd_word to_unsurePair to_unsureYears to_triedPair to_seats to_slack to_sawInches to_quarrelChance to_people to_forkBits to_unsure to_tried to_triedFedBits tf_seatOf tf_one tf_other tf_kind tf_years tf_sawn tf_pairs tf_gone bd_unsurePair bd_unsureYears bd_triedPair bd_seats bd_slack bd_sawInches bd_quarrelChance bd_people bd_forkBits bd_unsure bd_tried bd_triedFedBits bf_seatOf bf_one bf_other bf_kind bf_years bf_sawn bf_pairs bf_gone R0.2.2.1 nw_one nw_other nw_kind nw_years nw_sawn nw_pairs nw_gone sc_seatOf sc_handle sc_both sc_slopOf sc_forkBits sc_canBits sc_bestBits sc_bestSlops sl_bits sl_count se_bestRow se_row se_pairAt se_hope se_hopeAt se_slopAt se_farBits se_gain se_worth se_bestWorth R0.2.2.2.1 ch_both ch_cost ch_bit ch_items ch_leastCost ch_leastBits cl_bits cl_count fi_sets fi_count R0.2.2.2.2.1 R0.2.2.2.2.2.1 R0.2.2.2.2.2.2.1 R0.2.2.2.2.2.2.2.1 R0.2.2.2.2.2.2.2.2 i0_seatOf i0_one i0_other i0_kind i0_years i0_sawn i0_pairs i0_gone i1_seatOf i1_one i1_other i1_kind i1_years i1_sawn i1_pairs i1_gone i2_seatOf i2_one i2_other i2_kind i2_years i2_sawn i2_pairs i2_gone) R0.1 := by
  refine xI_of (by decide) (Nat.le_of_ble_eq_true rfl) (fun p e s m args below meth c A C ls hl G => ?_)
  have hx := C.1
  have hb := C.2.1
  have hl : lv_has ls 4 [(0, .ref (ad 0)), (1, .int l1), (2, .int l2)] := hl
  unfold f_X_sit at hf
  refine lv_aload_n hx hb dX10_sit_0 rfl (lv_at hl 0 rfl) ?_
  refine lv_iload_n hx hb dX10_sit_1 rfl (lv_at hl 1 rfl) ?_
  obtain ⟨x1, hc, hf⟩ := bd_go hf
  refine xI_V C G (c_X_noPerson_x hc) mX10_noPerson kX10_135 (wX_at0) rfl ⟨Nat.le_of_ble_eq_true rfl, Nat.le_of_ble_eq_true rfl⟩ rfl hl.1 rfl (Nat.le_of_ble_eq_true rfl) ⟨Nat.le_refl _, Nat.le_refl _⟩ dX10_sit_2 (fun hz1 H locs G => ?_)
  refine lv_if_eq (tgt := 10) hx hb dX10_sit_5 (by decide) (fun h => ?_) (fun h => ?_)
  · have hf := it_t h hf
    refine lv_iload_n hx hb dX10_sit_10 rfl (lv_at hl 2 rfl) ?_
    obtain ⟨b2, hr, hf⟩ := bd_go hf
    cases b2 with
    | true =>
      have hf := it_t rfl hf
      have J : ∀ (H : Heap) (locs : List Loc), xG s E A (wX E ad x_imageCount x1.2 x_lastFault x_lastPlace pa_names pa_faultNumber pa_faultPlace rd_tape rd_length rd_end rd_next rd_sort rd_start rd_value rd_word to_unsurePair to_unsureYears to_triedPair to_seats to_slack to_sawInches to_quarrelChance to_people to_forkBits to_unsure to_tried to_triedFedBits tf_seatOf tf_one tf_other tf_kind tf_years tf_sawn tf_pairs tf_gone bd_unsurePair bd_unsureYears bd_triedPair bd_seats bd_slack bd_sawInches bd_quarrelChance bd_people bd_forkBits bd_unsure bd_tried bd_triedFedBits bf_seatOf bf_one bf_other bf_kind bf_years bf_sawn bf_pairs bf_gone nw_seatOf nw_one nw_other nw_kind nw_years nw_sawn nw_pairs nw_gone sc_seatOf sc_handle sc_both sc_slopOf sc_forkBits sc_canBits sc_bestBits sc_bestSlops sl_bits sl_count se_bestRow se_row se_pairAt se_hope se_hopeAt se_slopAt se_farBits se_gain se_worth se_bestWorth se_fresh ch_both ch_cost ch_bit ch_items ch_leastCost ch_leastBits cl_bits cl_count fi_sets fi_count ps_act ps_whom ps_amount ps_next ps_count i0_seatOf i0_one i0_other i0_kind i0_years i0_sawn i0_pairs i0_gone i1_seatOf i1_one i1_other i1_kind i1_years i1_sawn i1_pairs i1_gone i2_seatOf i2_one i2_other i2_kind i2_years i2_sawn i2_pairs i2_gone) H locs → W p l e (xR 3 67) s m args below meth c H locs 0 0 (MQ below (xqI E A (wX E ad x_imageCount R0.2.1 x_lastFault x_lastPlace pa_names pa_faultNumber pa_faultPlace rd_tape rd_length rd_end rd_next rd_sort rd_start rd_value rd_word to_unsurePair to_unsureYears to_triedPair to_seats to_slack to_sawInches to_quarrelChance to_people to_forkBits to_unsure to_tried to_triedFedBits tf_seatOf tf_one tf_other tf_kind tf_years tf_sawn tf_pairs tf_gone bd_unsurePair bd_unsureYears bd_triedPair bd_seats bd_slack bd_sawInches bd_quarrelChance bd_people bd_forkBits bd_unsure bd_tried bd_triedFedBits bf_seatOf bf_one bf_other bf_kind bf_years bf_sawn bf_pairs bf_gone R0.2.2.1 nw_one nw_other nw_kind nw_years nw_sawn nw_pairs nw_gone sc_seatOf sc_handle sc_both sc_slopOf sc_forkBits sc_canBits sc_bestBits sc_bestSlops sl_bits sl_count se_bestRow se_row se_pairAt se_hope se_hopeAt se_slopAt se_farBits se_gain se_worth se_bestWorth R0.2.2.2.1 ch_both ch_cost ch_bit ch_items ch_leastCost ch_leastBits cl_bits cl_count fi_sets fi_count R0.2.2.2.2.1 R0.2.2.2.2.2.1 R0.2.2.2.2.2.2.1 R0.2.2.2.2.2.2.2.1 R0.2.2.2.2.2.2.2.2 i0_seatOf i0_one i0_other i0_kind i0_years i0_sawn i0_pairs i0_gone i1_seatOf i1_one i1_other i1_kind i1_years i1_sawn i1_pairs i1_gone i2_seatOf i2_one i2_other i2_kind i2_years i2_sawn i2_pairs i2_gone) (some .int) R0.1) args s 0 0 A) (F0 m 25 ls []) := by
        intro H locs G
        refine lv_aload_n hx hb dX10_sit_25 rfl (lv_at hl 0 rfl) ?_
        refine lv_iconst (v := 2) hx hb dX10_sit_26 (by decide) ?_
        obtain ⟨x3, hc, hf⟩ := bd_go hf
        refine xI_V C G (c_X_refused_x hc) mX10_refused kX10_87 (wX_at0) rfl ⟨Nat.le_of_ble_eq_true rfl, Nat.le_of_ble_eq_true rfl⟩ rfl hl.1 rfl (Nat.le_of_ble_eq_true rfl) ⟨Nat.le_refl _, Nat.le_refl _⟩ dX10_sit_27 (fun hz H locs G => ?_)
        obtain rfl := Option.some.inj hf
        exact xI_ret C G rfl dX10_sit_30
      have hf := hr
      clear hr
      refine lv_if_lt (tgt := 25) hx hb dX10_sit_11 (by decide) (fun h => ?_) (fun h => ?_)
      · have hf := it_t h hf
        exact J _ _ G
      · have hf := it_f h hf
        refine lv_iload_n hx hb dX10_sit_14 rfl (lv_at hl 2 rfl) ?_
        refine lv_aload_n hx hb dX10_sit_15 rfl (lv_at hl 0 rfl) ?_
        refine x_get C G fX10_22 (wX_at0) rfl dX10_sit_16 ?_
        refine x_get C G fX10_241.g (wX_at17) rfl dX10_sit_19 ?_
        refine lv_icmp_lt (tgt := 31) hx hb dX10_sit_22 (by decide) (fun h => ?_) (fun h => ?_)
        · have hf := it_t h hf
          exact absurd (Option.some.inj hf) (by decide)
        · have hf := it_f h hf
          exact J _ _ G
    | false =>
      have hf := it_f (by decide) hf
      have J : ∀ (H : Heap) (locs : List Loc), xG s E A (wX E ad x_imageCount x1.2 x_lastFault x_lastPlace pa_names pa_faultNumber pa_faultPlace rd_tape rd_length rd_end rd_next rd_sort rd_start rd_value rd_word to_unsurePair to_unsureYears to_triedPair to_seats to_slack to_sawInches to_quarrelChance to_people to_forkBits to_unsure to_tried to_triedFedBits tf_seatOf tf_one tf_other tf_kind tf_years tf_sawn tf_pairs tf_gone bd_unsurePair bd_unsureYears bd_triedPair bd_seats bd_slack bd_sawInches bd_quarrelChance bd_people bd_forkBits bd_unsure bd_tried bd_triedFedBits bf_seatOf bf_one bf_other bf_kind bf_years bf_sawn bf_pairs bf_gone nw_seatOf nw_one nw_other nw_kind nw_years nw_sawn nw_pairs nw_gone sc_seatOf sc_handle sc_both sc_slopOf sc_forkBits sc_canBits sc_bestBits sc_bestSlops sl_bits sl_count se_bestRow se_row se_pairAt se_hope se_hopeAt se_slopAt se_farBits se_gain se_worth se_bestWorth se_fresh ch_both ch_cost ch_bit ch_items ch_leastCost ch_leastBits cl_bits cl_count fi_sets fi_count ps_act ps_whom ps_amount ps_next ps_count i0_seatOf i0_one i0_other i0_kind i0_years i0_sawn i0_pairs i0_gone i1_seatOf i1_one i1_other i1_kind i1_years i1_sawn i1_pairs i1_gone i2_seatOf i2_one i2_other i2_kind i2_years i2_sawn i2_pairs i2_gone) H locs → W p l e (xR 3 67) s m args below meth c H locs 0 0 (MQ below (xqI E A (wX E ad x_imageCount R0.2.1 x_lastFault x_lastPlace pa_names pa_faultNumber pa_faultPlace rd_tape rd_length rd_end rd_next rd_sort rd_start rd_value rd_word to_unsurePair to_unsureYears to_triedPair to_seats to_slack to_sawInches to_quarrelChance to_people to_forkBits to_unsure to_tried to_triedFedBits tf_seatOf tf_one tf_other tf_kind tf_years tf_sawn tf_pairs tf_gone bd_unsurePair bd_unsureYears bd_triedPair bd_seats bd_slack bd_sawInches bd_quarrelChance bd_people bd_forkBits bd_unsure bd_tried bd_triedFedBits bf_seatOf bf_one bf_other bf_kind bf_years bf_sawn bf_pairs bf_gone R0.2.2.1 nw_one nw_other nw_kind nw_years nw_sawn nw_pairs nw_gone sc_seatOf sc_handle sc_both sc_slopOf sc_forkBits sc_canBits sc_bestBits sc_bestSlops sl_bits sl_count se_bestRow se_row se_pairAt se_hope se_hopeAt se_slopAt se_farBits se_gain se_worth se_bestWorth R0.2.2.2.1 ch_both ch_cost ch_bit ch_items ch_leastCost ch_leastBits cl_bits cl_count fi_sets fi_count R0.2.2.2.2.1 R0.2.2.2.2.2.1 R0.2.2.2.2.2.2.1 R0.2.2.2.2.2.2.2.1 R0.2.2.2.2.2.2.2.2 i0_seatOf i0_one i0_other i0_kind i0_years i0_sawn i0_pairs i0_gone i1_seatOf i1_one i1_other i1_kind i1_years i1_sawn i1_pairs i1_gone i2_seatOf i2_one i2_other i2_kind i2_years i2_sawn i2_pairs i2_gone) (some .int) R0.1) args s 0 0 A) (F0 m 31 ls []) := by
        intro H locs G
        refine lv_aload_n hx hb dX10_sit_31 rfl (lv_at hl 0 rfl) ?_
        refine lv_iload_n hx hb dX10_sit_32 rfl (lv_at hl 2 rfl) ?_
        obtain ⟨x4, hc, hf⟩ := bd_go hf
        refine xI_V C G (c_X_isFree_x hc) mX10_isFree kX10_244 (wX_at0) rfl ⟨Nat.le_of_ble_eq_true rfl, Nat.le_of_ble_eq_true rfl⟩ rfl hl.1 rfl (Nat.le_of_ble_eq_true rfl) ⟨Nat.le_refl _, Nat.le_refl _⟩ dX10_sit_33 (fun hz4 H locs G => ?_)
        refine lv_if_ne (tgt := 45) hx hb dX10_sit_36 (by decide) (fun h => ?_) (fun h => ?_)
        · have hf := it_f h hf
          refine lv_aload_n hx hb dX10_sit_45 rfl (lv_at hl 0 rfl) ?_
          refine x_get C G fX10_26 (wX_at0) rfl dX10_sit_46 ?_
          refine x_get C G fX10_138 (wX_at28) rfl dX10_sit_49 ?_
          refine lv_iload_n hx hb dX10_sit_52 rfl (lv_at hl 1 rfl) ?_
          have hi := ck_in hf
          have hf := ck_go hf
          refine x_iald C G (wX_at29) hi dX10_sit_53 ?_
          refine lv_topi (fun x5 ex5 => ?_)
          have hf := lt_go ex5 hf
          refine lv_istore_n (lv' := [(3, .int x5), (0, .ref (ad 0)), (1, .int l1), (2, .int l2)]) hx hb dX10_sit_54 rfl hl (by decide) rfl (fun ls hl => ?_)
          refine lv_aload_n hx hb dX10_sit_55 rfl (lv_at hl 1 rfl) ?_
          refine x_get C G fX10_26 (wX_at0) rfl dX10_sit_56 ?_
          refine x_get C G fX10_138 (wX_at28) rfl dX10_sit_59 ?_
          refine lv_iload_n hx hb dX10_sit_62 rfl (lv_at hl 2 rfl) ?_
          refine lv_iload_n hx hb dX10_sit_63 rfl (lv_at hl 3 rfl) ?_
          have hi := ck_in hf
          have hf := ck_go hf
          refine x_iast (ws' := (wX E ad x_imageCount x1.2 x_lastFault x_lastPlace pa_names pa_faultNumber pa_faultPlace rd_tape rd_length rd_end rd_next rd_sort rd_start rd_value rd_word to_unsurePair to_unsureYears to_triedPair to_seats to_slack to_sawInches to_quarrelChance to_people to_forkBits to_unsure to_tried to_triedFedBits tf_seatOf tf_one tf_other tf_kind tf_years tf_sawn tf_pairs tf_gone bd_unsurePair bd_unsureYears bd_triedPair bd_seats bd_slack bd_sawInches bd_quarrelChance bd_people bd_forkBits bd_unsure bd_tried bd_triedFedBits bf_seatOf bf_one bf_other bf_kind bf_years bf_sawn bf_pairs bf_gone (upd nw_seatOf l1.toNatClampNeg l2) nw_one nw_other nw_kind nw_years nw_sawn nw_pairs nw_gone sc_seatOf sc_handle sc_both sc_slopOf sc_forkBits sc_canBits sc_bestBits sc_bestSlops sl_bits sl_count se_bestRow se_row se_pairAt se_hope se_hopeAt se_slopAt se_farBits se_gain se_worth se_bestWorth se_fresh ch_both ch_cost ch_bit ch_items ch_leastCost ch_leastBits cl_bits cl_count fi_sets fi_count ps_act ps_whom ps_amount ps_next ps_count i0_seatOf i0_one i0_other i0_kind i0_years i0_sawn i0_pairs i0_gone i1_seatOf i1_one i1_other i1_kind i1_years i1_sawn i1_pairs i1_gone i2_seatOf i2_one i2_other i2_kind i2_years i2_sawn i2_pairs i2_gone)) C G (wX_at29) hi wX_set_nw_seatOf dX10_sit_64 (fun H locs G => ?_)
          refine lv_aload_n hx hb dX10_sit_65 rfl (lv_at hl 1 rfl) ?_
          refine lv_iconst (v := 2) hx hb dX10_sit_66 (by decide) ?_
          refine lv_iload_n hx hb dX10_sit_67 rfl (lv_at hl 2 rfl) ?_
          refine lv_iload_n hx hb dX10_sit_68 rfl (lv_at hl 0 rfl) ?_
          obtain ⟨x6, hc, hf⟩ := bd_go hf
          refine xV_V C G (c_X_acted_x hc) mX10_acted kX10_345 (wX_at0) rfl ⟨Nat.le_of_ble_eq_true rfl, Nat.le_of_ble_eq_true rfl⟩ rfl hl.1 rfl (Nat.le_of_ble_eq_true rfl) ⟨Nat.le_refl _, Nat.le_refl _⟩ dX10_sit_69 (fun H locs G => ?_)
          refine lv_iload_n hx hb dX10_sit_72 rfl (lv_at hl 0 rfl) ?_
          obtain rfl := Option.some.inj hf
          exact xI_ret C G rfl dX10_sit_73
        · have hf := it_t h hf
          refine lv_aload_n hx hb dX10_sit_39 rfl (lv_at hl 0 rfl) ?_
          refine lv_iconst (v := 5) hx hb dX10_sit_40 (by decide) ?_
          obtain ⟨x7, hc, hf⟩ := bd_go hf
          refine xI_V C G (c_X_refused_x hc) mX10_refused kX10_87 (wX_at0) rfl ⟨Nat.le_of_ble_eq_true rfl, Nat.le_of_ble_eq_true rfl⟩ rfl hl.1 rfl (Nat.le_of_ble_eq_true rfl) ⟨Nat.le_refl _, Nat.le_refl _⟩ dX10_sit_41 (fun hz H locs G => ?_)
          obtain rfl := Option.some.inj hf
          exact xI_ret C G rfl dX10_sit_44
      have hf := hr
      clear hr
      refine lv_if_lt (tgt := 25) hx hb dX10_sit_11 (by decide) (fun h => ?_) (fun h => ?_)
      · have hf := it_t h hf
        exact absurd (Option.some.inj hf) (by decide)
      · have hf := it_f h hf
        refine lv_iload_n hx hb dX10_sit_14 rfl (lv_at hl 2 rfl) ?_
        refine lv_aload_n hx hb dX10_sit_15 rfl (lv_at hl 0 rfl) ?_
        refine x_get C G fX10_22 (wX_at0) rfl dX10_sit_16 ?_
        refine x_get C G fX10_241.g (wX_at17) rfl dX10_sit_19 ?_
        refine lv_icmp_lt (tgt := 31) hx hb dX10_sit_22 (by decide) (fun h => ?_) (fun h => ?_)
        · have hf := it_t h hf
          exact J _ _ G
        · have hf := it_f h hf
          exact absurd (Option.some.inj hf) (by decide)
  · have hf := it_f h hf
    refine lv_iconst (v := -1) hx hb dX10_sit_8 (by decide) ?_
    obtain rfl := Option.some.inj hf
    exact xI_ret C G rfl dX10_sit_9
set_option maxHeartbeats 4000000 in
set_option maxRecDepth 100000 in
theorem c_Now_addPair_nw {l : Launch} {E : xE} {ad : Nat → Nat} {x_imageCount x_lastTrouble x_lastFault x_lastPlace pa_faultNumber pa_faultPlace rd_length rd_end rd_next rd_sort rd_start rd_value to_seats to_slack to_sawInches to_quarrelChance to_people to_forkBits to_unsure to_tried to_triedFedBits tf_pairs tf_gone bd_seats bd_slack bd_sawInches bd_quarrelChance bd_people bd_forkBits bd_unsure bd_tried bd_triedFedBits bf_pairs bf_gone nw_pairs nw_gone sc_forkBits sc_canBits sc_bestBits sc_bestSlops sl_count se_bestWorth se_fresh ch_items ch_leastCost ch_leastBits cl_count fi_count ps_next ps_count i0_pairs i0_gone i1_pairs i1_gone i2_pairs i2_gone : Int32} {pa_names : Nat → Int64} {rd_tape to_unsurePair to_unsureYears to_triedPair tf_seatOf tf_one tf_other tf_kind tf_years tf_sawn bd_unsurePair bd_unsureYears bd_triedPair bf_seatOf bf_one bf_other bf_kind bf_years bf_sawn nw_seatOf nw_one nw_other nw_kind nw_years nw_sawn sc_seatOf sc_handle sc_both sc_slopOf sl_bits se_bestRow se_row se_pairAt se_hope se_hopeAt se_slopAt se_farBits se_gain se_worth ch_both ch_cost ch_bit cl_bits fi_sets ps_act ps_whom ps_amount i0_seatOf i0_one i0_other i0_kind i0_years i0_sawn i1_seatOf i1_one i1_other i1_kind i1_years i1_sawn i2_seatOf i2_one i2_other i2_kind i2_years i2_sawn : Nat → Int32} {rd_word : Int64} {l1 : Int32} {l2 : Int32} {l3 : Int32} {l4 : Int32} {R0 : (Nat → Int32) × (Nat → Int32) × (Nat → Int32) × (Nat → Int32) × (Nat → Int32) × Int32} (hf : f_Now_addPair l1 l2 l3 l4 nw_one nw_other nw_kind nw_years nw_sawn nw_pairs = some R0) : xV l E yX4_addPair cX4_addPair 5 none 0 0 [.ref (ad 28), .int l1, .int l2, .int l3, .int l4] (wX E ad x_imageCount x_lastTrouble x_lastFault x_lastPlace pa_names pa_faultNumber pa_faultPlace rd_tape rd_length rd_end rd_next rd_sort rd_start rd_value rd_word to_unsurePair to_unsureYears to_triedPair to_seats to_slack to_sawInches to_quarrelChance to_people to_forkBits to_unsure to_tried to_triedFedBits tf_seatOf tf_one tf_other tf_kind tf_years tf_sawn tf_pairs tf_gone bd_unsurePair bd_unsureYears bd_triedPair bd_seats bd_slack bd_sawInches bd_quarrelChance bd_people bd_forkBits bd_unsure bd_tried bd_triedFedBits bf_seatOf bf_one bf_other bf_kind bf_years bf_sawn bf_pairs bf_gone nw_seatOf nw_one nw_other nw_kind nw_years nw_sawn nw_pairs nw_gone sc_seatOf sc_handle sc_both sc_slopOf sc_forkBits sc_canBits sc_bestBits sc_bestSlops sl_bits sl_count se_bestRow se_row se_pairAt se_hope se_hopeAt se_slopAt se_farBits se_gain se_worth se_bestWorth se_fresh ch_both ch_cost ch_bit ch_items ch_leastCost ch_leastBits cl_bits cl_count fi_sets fi_count ps_act ps_whom ps_amount ps_next ps_count i0_seatOf i0_one i0_other i0_kind i0_years i0_sawn i0_pairs i0_gone i1_seatOf i1_one i1_other i1_kind i1_years i1_sawn i1_pairs i1_gone i2_seatOf i2_one i2_other i2_kind i2_years i2_sawn i2_pairs i2_gone) (wX E ad x_imageCount x_lastTrouble x_lastFault x_lastPlace pa_names pa_faultNumber pa_faultPlace rd_tape rd_length rd_end rd_next rd_sort rd_start rd_value rd_word to_unsurePair to_unsureYears to_triedPair to_seats to_slack to_sawInches to_quarrelChance to_people to_forkBits to_unsure to_tried to_triedFedBits tf_seatOf tf_one tf_other tf_kind tf_years tf_sawn tf_pairs tf_gone bd_unsurePair bd_unsureYears bd_triedPair bd_seats bd_slack bd_sawInches bd_quarrelChance bd_people bd_forkBits bd_unsure bd_tried bd_triedFedBits bf_seatOf bf_one bf_other bf_kind bf_years bf_sawn bf_pairs bf_gone nw_seatOf R0.1 R0.2.1 R0.2.2.1 R0.2.2.2.1 R0.2.2.2.2.1 R0.2.2.2.2.2 nw_gone sc_seatOf sc_handle sc_both sc_slopOf sc_forkBits sc_canBits sc_bestBits sc_bestSlops sl_bits sl_count se_bestRow se_row se_pairAt se_hope se_hopeAt se_slopAt se_farBits se_gain se_worth se_bestWorth se_fresh ch_both ch_cost ch_bit ch_items ch_leastCost ch_leastBits cl_bits cl_count fi_sets fi_count ps_act ps_whom ps_amount ps_next ps_count i0_seatOf i0_one i0_other i0_kind i0_years i0_sawn i0_pairs i0_gone i1_seatOf i1_one i1_other i1_kind i1_years i1_sawn i1_pairs i1_gone i2_seatOf i2_one i2_other i2_kind i2_years i2_sawn i2_pairs i2_gone) := by
  refine xV_of (by decide) (Nat.le_of_ble_eq_true rfl) (fun p e s m args below meth c A C ls hl G => ?_)
  have hx := C.1
  have hb := C.2.1
  have hl : lv_has ls 5 [(0, .ref (ad 28)), (1, .int l1), (2, .int l2), (3, .int l3), (4, .int l4)] := hl
  unfold f_Now_addPair at hf
  refine lv_aload_n hx hb dX4_addPair_0 rfl (lv_at hl 0 rfl) ?_
  refine x_get C G fX4_36.g (wX_at28) rfl dX4_addPair_1 ?_
  refine lv_bipush (v := 10) hx hb dX4_addPair_4 (by decide) ?_
  refine lv_icmp_lt (tgt := 10) hx hb dX4_addPair_6 (by decide) (fun h => ?_) (fun h => ?_)
  · have hf := it_t h hf
    refine lv_aload_n hx hb dX4_addPair_10 rfl (lv_at hl 0 rfl) ?_
    refine x_get C G fX4_15 (wX_at28) rfl dX4_addPair_11 ?_
    refine lv_aload_n hx hb dX4_addPair_14 rfl (lv_at hl 0 rfl) ?_
    refine x_get C G fX4_36.g (wX_at28) rfl dX4_addPair_15 ?_
    refine lv_iload_n hx hb dX4_addPair_18 rfl (lv_at hl 1 rfl) ?_
    have hi := ck_in hf
    have hf := ck_go hf
    refine x_iast (ws' := (wX E ad x_imageCount x_lastTrouble x_lastFault x_lastPlace pa_names pa_faultNumber pa_faultPlace rd_tape rd_length rd_end rd_next rd_sort rd_start rd_value rd_word to_unsurePair to_unsureYears to_triedPair to_seats to_slack to_sawInches to_quarrelChance to_people to_forkBits to_unsure to_tried to_triedFedBits tf_seatOf tf_one tf_other tf_kind tf_years tf_sawn tf_pairs tf_gone bd_unsurePair bd_unsureYears bd_triedPair bd_seats bd_slack bd_sawInches bd_quarrelChance bd_people bd_forkBits bd_unsure bd_tried bd_triedFedBits bf_seatOf bf_one bf_other bf_kind bf_years bf_sawn bf_pairs bf_gone nw_seatOf (upd nw_one nw_pairs.toNatClampNeg l1) nw_other nw_kind nw_years nw_sawn nw_pairs nw_gone sc_seatOf sc_handle sc_both sc_slopOf sc_forkBits sc_canBits sc_bestBits sc_bestSlops sl_bits sl_count se_bestRow se_row se_pairAt se_hope se_hopeAt se_slopAt se_farBits se_gain se_worth se_bestWorth se_fresh ch_both ch_cost ch_bit ch_items ch_leastCost ch_leastBits cl_bits cl_count fi_sets fi_count ps_act ps_whom ps_amount ps_next ps_count i0_seatOf i0_one i0_other i0_kind i0_years i0_sawn i0_pairs i0_gone i1_seatOf i1_one i1_other i1_kind i1_years i1_sawn i1_pairs i1_gone i2_seatOf i2_one i2_other i2_kind i2_years i2_sawn i2_pairs i2_gone)) C G (wX_at30) hi wX_set_nw_one dX4_addPair_19 (fun H locs G => ?_)
    refine lv_aload_n hx hb dX4_addPair_20 rfl (lv_at hl 0 rfl) ?_
    refine x_get C G fX4_18 (wX_at28) rfl dX4_addPair_21 ?_
    refine lv_aload_n hx hb dX4_addPair_24 rfl (lv_at hl 0 rfl) ?_
    refine x_get C G fX4_36.g (wX_at28) rfl dX4_addPair_25 ?_
    refine lv_iload_n hx hb dX4_addPair_28 rfl (lv_at hl 2 rfl) ?_
    have hi := ck_in hf
    have hf := ck_go hf
    refine x_iast (ws' := (wX E ad x_imageCount x_lastTrouble x_lastFault x_lastPlace pa_names pa_faultNumber pa_faultPlace rd_tape rd_length rd_end rd_next rd_sort rd_start rd_value rd_word to_unsurePair to_unsureYears to_triedPair to_seats to_slack to_sawInches to_quarrelChance to_people to_forkBits to_unsure to_tried to_triedFedBits tf_seatOf tf_one tf_other tf_kind tf_years tf_sawn tf_pairs tf_gone bd_unsurePair bd_unsureYears bd_triedPair bd_seats bd_slack bd_sawInches bd_quarrelChance bd_people bd_forkBits bd_unsure bd_tried bd_triedFedBits bf_seatOf bf_one bf_other bf_kind bf_years bf_sawn bf_pairs bf_gone nw_seatOf (upd nw_one nw_pairs.toNatClampNeg l1) (upd nw_other nw_pairs.toNatClampNeg l2) nw_kind nw_years nw_sawn nw_pairs nw_gone sc_seatOf sc_handle sc_both sc_slopOf sc_forkBits sc_canBits sc_bestBits sc_bestSlops sl_bits sl_count se_bestRow se_row se_pairAt se_hope se_hopeAt se_slopAt se_farBits se_gain se_worth se_bestWorth se_fresh ch_both ch_cost ch_bit ch_items ch_leastCost ch_leastBits cl_bits cl_count fi_sets fi_count ps_act ps_whom ps_amount ps_next ps_count i0_seatOf i0_one i0_other i0_kind i0_years i0_sawn i0_pairs i0_gone i1_seatOf i1_one i1_other i1_kind i1_years i1_sawn i1_pairs i1_gone i2_seatOf i2_one i2_other i2_kind i2_years i2_sawn i2_pairs i2_gone)) C G (wX_at31) hi wX_set_nw_other dX4_addPair_29 (fun H locs G => ?_)
    refine lv_aload_n hx hb dX4_addPair_30 rfl (lv_at hl 0 rfl) ?_
    refine x_get C G fX4_21 (wX_at28) rfl dX4_addPair_31 ?_
    refine lv_aload_n hx hb dX4_addPair_34 rfl (lv_at hl 0 rfl) ?_
    refine x_get C G fX4_36.g (wX_at28) rfl dX4_addPair_35 ?_
    refine lv_iload hx hb dX4_addPair_38 (lv_at hl 4 rfl) ?_
    have hi := ck_in hf
    have hf := ck_go hf
    refine x_iast (ws' := (wX E ad x_imageCount x_lastTrouble x_lastFault x_lastPlace pa_names pa_faultNumber pa_faultPlace rd_tape rd_length rd_end rd_next rd_sort rd_start rd_value rd_word to_unsurePair to_unsureYears to_triedPair to_seats to_slack to_sawInches to_quarrelChance to_people to_forkBits to_unsure to_tried to_triedFedBits tf_seatOf tf_one tf_other tf_kind tf_years tf_sawn tf_pairs tf_gone bd_unsurePair bd_unsureYears bd_triedPair bd_seats bd_slack bd_sawInches bd_quarrelChance bd_people bd_forkBits bd_unsure bd_tried bd_triedFedBits bf_seatOf bf_one bf_other bf_kind bf_years bf_sawn bf_pairs bf_gone nw_seatOf (upd nw_one nw_pairs.toNatClampNeg l1) (upd nw_other nw_pairs.toNatClampNeg l2) (upd nw_kind nw_pairs.toNatClampNeg l4) nw_years nw_sawn nw_pairs nw_gone sc_seatOf sc_handle sc_both sc_slopOf sc_forkBits sc_canBits sc_bestBits sc_bestSlops sl_bits sl_count se_bestRow se_row se_pairAt se_hope se_hopeAt se_slopAt se_farBits se_gain se_worth se_bestWorth se_fresh ch_both ch_cost ch_bit ch_items ch_leastCost ch_leastBits cl_bits cl_count fi_sets fi_count ps_act ps_whom ps_amount ps_next ps_count i0_seatOf i0_one i0_other i0_kind i0_years i0_sawn i0_pairs i0_gone i1_seatOf i1_one i1_other i1_kind i1_years i1_sawn i1_pairs i1_gone i2_seatOf i2_one i2_other i2_kind i2_years i2_sawn i2_pairs i2_gone)) C G (wX_at32) hi wX_set_nw_kind dX4_addPair_40 (fun H locs G => ?_)
    refine lv_aload_n hx hb dX4_addPair_41 rfl (lv_at hl 0 rfl) ?_
    refine x_get C G fX4_24 (wX_at28) rfl dX4_addPair_42 ?_
    refine lv_aload_n hx hb dX4_addPair_45 rfl (lv_at hl 0 rfl) ?_
    refine x_get C G fX4_36.g (wX_at28) rfl dX4_addPair_46 ?_
    refine lv_iload_n hx hb dX4_addPair_49 rfl (lv_at hl 3 rfl) ?_
    have hi := ck_in hf
    have hf := ck_go hf
    refine x_iast (ws' := (wX E ad x_imageCount x_lastTrouble x_lastFault x_lastPlace pa_names pa_faultNumber pa_faultPlace rd_tape rd_length rd_end rd_next rd_sort rd_start rd_value rd_word to_unsurePair to_unsureYears to_triedPair to_seats to_slack to_sawInches to_quarrelChance to_people to_forkBits to_unsure to_tried to_triedFedBits tf_seatOf tf_one tf_other tf_kind tf_years tf_sawn tf_pairs tf_gone bd_unsurePair bd_unsureYears bd_triedPair bd_seats bd_slack bd_sawInches bd_quarrelChance bd_people bd_forkBits bd_unsure bd_tried bd_triedFedBits bf_seatOf bf_one bf_other bf_kind bf_years bf_sawn bf_pairs bf_gone nw_seatOf (upd nw_one nw_pairs.toNatClampNeg l1) (upd nw_other nw_pairs.toNatClampNeg l2) (upd nw_kind nw_pairs.toNatClampNeg l4) (upd nw_years nw_pairs.toNatClampNeg l3) nw_sawn nw_pairs nw_gone sc_seatOf sc_handle sc_both sc_slopOf sc_forkBits sc_canBits sc_bestBits sc_bestSlops sl_bits sl_count se_bestRow se_row se_pairAt se_hope se_hopeAt se_slopAt se_farBits se_gain se_worth se_bestWorth se_fresh ch_both ch_cost ch_bit ch_items ch_leastCost ch_leastBits cl_bits cl_count fi_sets fi_count ps_act ps_whom ps_amount ps_next ps_count i0_seatOf i0_one i0_other i0_kind i0_years i0_sawn i0_pairs i0_gone i1_seatOf i1_one i1_other i1_kind i1_years i1_sawn i1_pairs i1_gone i2_seatOf i2_one i2_other i2_kind i2_years i2_sawn i2_pairs i2_gone)) C G (wX_at33) hi wX_set_nw_years dX4_addPair_50 (fun H locs G => ?_)
    refine lv_aload_n hx hb dX4_addPair_51 rfl (lv_at hl 0 rfl) ?_
    refine x_get C G fX4_27 (wX_at28) rfl dX4_addPair_52 ?_
    refine lv_aload_n hx hb dX4_addPair_55 rfl (lv_at hl 0 rfl) ?_
    refine x_get C G fX4_36.g (wX_at28) rfl dX4_addPair_56 ?_
    refine lv_iconst (v := 0) hx hb dX4_addPair_59 (by decide) ?_
    have hi := ck_in hf
    have hf := ck_go hf
    refine x_iast (ws' := (wX E ad x_imageCount x_lastTrouble x_lastFault x_lastPlace pa_names pa_faultNumber pa_faultPlace rd_tape rd_length rd_end rd_next rd_sort rd_start rd_value rd_word to_unsurePair to_unsureYears to_triedPair to_seats to_slack to_sawInches to_quarrelChance to_people to_forkBits to_unsure to_tried to_triedFedBits tf_seatOf tf_one tf_other tf_kind tf_years tf_sawn tf_pairs tf_gone bd_unsurePair bd_unsureYears bd_triedPair bd_seats bd_slack bd_sawInches bd_quarrelChance bd_people bd_forkBits bd_unsure bd_tried bd_triedFedBits bf_seatOf bf_one bf_other bf_kind bf_years bf_sawn bf_pairs bf_gone nw_seatOf (upd nw_one nw_pairs.toNatClampNeg l1) (upd nw_other nw_pairs.toNatClampNeg l2) (upd nw_kind nw_pairs.toNatClampNeg l4) (upd nw_years nw_pairs.toNatClampNeg l3) (upd nw_sawn nw_pairs.toNatClampNeg (0 : Int32)) nw_pairs nw_gone sc_seatOf sc_handle sc_both sc_slopOf sc_forkBits sc_canBits sc_bestBits sc_bestSlops sl_bits sl_count se_bestRow se_row se_pairAt se_hope se_hopeAt se_slopAt se_farBits se_gain se_worth se_bestWorth se_fresh ch_both ch_cost ch_bit ch_items ch_leastCost ch_leastBits cl_bits cl_count fi_sets fi_count ps_act ps_whom ps_amount ps_next ps_count i0_seatOf i0_one i0_other i0_kind i0_years i0_sawn i0_pairs i0_gone i1_seatOf i1_one i1_other i1_kind i1_years i1_sawn i1_pairs i1_gone i2_seatOf i2_one i2_other i2_kind i2_years i2_sawn i2_pairs i2_gone)) C G (wX_at34) hi wX_set_nw_sawn dX4_addPair_60 (fun H locs G => ?_)
    refine lv_aload_n hx hb dX4_addPair_61 rfl (lv_at hl 0 rfl) ?_
    refine lv_dup hx hb dX4_addPair_62 rfl ?_
    refine x_get C G fX4_36.g (wX_at28) rfl dX4_addPair_63 ?_
    refine lv_iconst (v := 1) hx hb dX4_addPair_66 (by decide) ?_
    refine lv_iadd hx hb dX4_addPair_67 ?_
    refine lv_topi (fun x1 ex1 => ?_)
    have hf := lt_go ex1 hf
    refine x_put (ws' := (wX E ad x_imageCount x_lastTrouble x_lastFault x_lastPlace pa_names pa_faultNumber pa_faultPlace rd_tape rd_length rd_end rd_next rd_sort rd_start rd_value rd_word to_unsurePair to_unsureYears to_triedPair to_seats to_slack to_sawInches to_quarrelChance to_people to_forkBits to_unsure to_tried to_triedFedBits tf_seatOf tf_one tf_other tf_kind tf_years tf_sawn tf_pairs tf_gone bd_unsurePair bd_unsureYears bd_triedPair bd_seats bd_slack bd_sawInches bd_quarrelChance bd_people bd_forkBits bd_unsure bd_tried bd_triedFedBits bf_seatOf bf_one bf_other bf_kind bf_years bf_sawn bf_pairs bf_gone nw_seatOf (upd nw_one nw_pairs.toNatClampNeg l1) (upd nw_other nw_pairs.toNatClampNeg l2) (upd nw_kind nw_pairs.toNatClampNeg l4) (upd nw_years nw_pairs.toNatClampNeg l3) (upd nw_sawn nw_pairs.toNatClampNeg (0 : Int32)) x1 nw_gone sc_seatOf sc_handle sc_both sc_slopOf sc_forkBits sc_canBits sc_bestBits sc_bestSlops sl_bits sl_count se_bestRow se_row se_pairAt se_hope se_hopeAt se_slopAt se_farBits se_gain se_worth se_bestWorth se_fresh ch_both ch_cost ch_bit ch_items ch_leastCost ch_leastBits cl_bits cl_count fi_sets fi_count ps_act ps_whom ps_amount ps_next ps_count i0_seatOf i0_one i0_other i0_kind i0_years i0_sawn i0_pairs i0_gone i1_seatOf i1_one i1_other i1_kind i1_years i1_sawn i1_pairs i1_gone i2_seatOf i2_one i2_other i2_kind i2_years i2_sawn i2_pairs i2_gone)) C G fX4_36 (wX_at28) rfl rfl (Nat.le_of_ble_eq_true rfl) wX_set_nw_pairs dX4_addPair_68 (fun H locs G => ?_)
    obtain rfl := Option.some.inj hf
    exact xV_ret C G dX4_addPair_71
  · have hf := it_f h hf
    obtain rfl := Option.some.inj hf
    exact xV_ret C G dX4_addPair_9
set_option maxHeartbeats 4000000 in
set_option maxRecDepth 100000 in
theorem c_X_know_x {l : Launch} {E : xE} {ad : Nat → Nat} {x_imageCount x_lastTrouble x_lastFault x_lastPlace pa_faultNumber pa_faultPlace rd_length rd_end rd_next rd_sort rd_start rd_value to_seats to_slack to_sawInches to_quarrelChance to_people to_forkBits to_unsure to_tried to_triedFedBits tf_pairs tf_gone bd_seats bd_slack bd_sawInches bd_quarrelChance bd_people bd_forkBits bd_unsure bd_tried bd_triedFedBits bf_pairs bf_gone nw_pairs nw_gone sc_forkBits sc_canBits sc_bestBits sc_bestSlops sl_count se_bestWorth se_fresh ch_items ch_leastCost ch_leastBits cl_count fi_count ps_next ps_count i0_pairs i0_gone i1_pairs i1_gone i2_pairs i2_gone : Int32} {pa_names : Nat → Int64} {rd_tape to_unsurePair to_unsureYears to_triedPair tf_seatOf tf_one tf_other tf_kind tf_years tf_sawn bd_unsurePair bd_unsureYears bd_triedPair bf_seatOf bf_one bf_other bf_kind bf_years bf_sawn nw_seatOf nw_one nw_other nw_kind nw_years nw_sawn sc_seatOf sc_handle sc_both sc_slopOf sl_bits se_bestRow se_row se_pairAt se_hope se_hopeAt se_slopAt se_farBits se_gain se_worth ch_both ch_cost ch_bit cl_bits fi_sets ps_act ps_whom ps_amount i0_seatOf i0_one i0_other i0_kind i0_years i0_sawn i1_seatOf i1_one i1_other i1_kind i1_years i1_sawn i2_seatOf i2_one i2_other i2_kind i2_years i2_sawn : Nat → Int32} {rd_word : Int64} {l1 : Int32} {l2 : Int32} {R0 : Int32 × Int32 × (Nat → Int32) × (Nat → Int32) × (Nat → Int32) × (Nat → Int32) × (Nat → Int32) × Int32 × Int32 × (Nat → Int32) × (Nat → Int32) × (Nat → Int32) × Int32 × Int32} (hf : f_X_know l1 l2 bd_people nw_one nw_other nw_kind nw_years nw_sawn nw_pairs se_fresh ps_act ps_whom ps_amount ps_next ps_count = some R0) : xI l E yX10_know cX10_know 3 (some .int) 3 67 [.ref (ad 0), .int l1, .int l2] (wX E ad x_imageCount x_lastTrouble x_lastFault x_lastPlace pa_names pa_faultNumber pa_faultPlace rd_tape rd_length rd_end rd_next rd_sort rd_start rd_value rd_word to_unsurePair to_unsureYears to_triedPair to_seats to_slack to_sawInches to_quarrelChance to_people to_forkBits to_unsure to_tried to_triedFedBits tf_seatOf tf_one tf_other tf_kind tf_years tf_sawn tf_pairs tf_gone bd_unsurePair bd_unsureYears bd_triedPair bd_seats bd_slack bd_sawInches bd_quarrelChance bd_people bd_forkBits bd_unsure bd_tried bd_triedFedBits bf_seatOf bf_one bf_other bf_kind bf_years bf_sawn bf_pairs bf_gone nw_seatOf nw_one nw_other nw_kind nw_years nw_sawn nw_pairs nw_gone sc_seatOf sc_handle sc_both sc_slopOf sc_forkBits sc_canBits sc_bestBits sc_bestSlops sl_bits sl_count se_bestRow se_row se_pairAt se_hope se_hopeAt se_slopAt se_farBits se_gain se_worth se_bestWorth se_fresh ch_both ch_cost ch_bit ch_items ch_leastCost ch_leastBits cl_bits cl_count fi_sets fi_count ps_act ps_whom ps_amount ps_next ps_count i0_seatOf i0_one i0_other i0_kind i0_years i0_sawn i0_pairs i0_gone i1_seatOf i1_one i1_other i1_kind i1_years i1_sawn i1_pairs i1_gone i2_seatOf i2_one i2_other i2_kind i2_years i2_sawn i2_pairs i2_gone) (wX E ad x_imageCount R0.2.1 x_lastFault x_lastPlace pa_names pa_faultNumber pa_faultPlace rd_tape rd_length rd_end rd_next rd_sort rd_start rd_value rd_word to_unsurePair to_unsureYears to_triedPair to_seats to_slack to_sawInches to_quarrelChance to_people to_forkBits to_unsure to_tried to_triedFedBits tf_seatOf tf_one tf_other tf_kind tf_years tf_sawn tf_pairs tf_gone bd_unsurePair bd_unsureYears bd_triedPair bd_seats bd_slack bd_sawInches bd_quarrelChance bd_people bd_forkBits bd_unsure bd_tried bd_triedFedBits bf_seatOf bf_one bf_other bf_kind bf_years bf_sawn bf_pairs bf_gone nw_seatOf R0.2.2.1 R0.2.2.2.1 R0.2.2.2.2.1 R0.2.2.2.2.2.1 R0.2.2.2.2.2.2.1 R0.2.2.2.2.2.2.2.1 nw_gone sc_seatOf sc_handle sc_both sc_slopOf sc_forkBits sc_canBits sc_bestBits sc_bestSlops sl_bits sl_count se_bestRow se_row se_pairAt se_hope se_hopeAt se_slopAt se_farBits se_gain se_worth se_bestWorth R0.2.2.2.2.2.2.2.2.1 ch_both ch_cost ch_bit ch_items ch_leastCost ch_leastBits cl_bits cl_count fi_sets fi_count R0.2.2.2.2.2.2.2.2.2.1 R0.2.2.2.2.2.2.2.2.2.2.1 R0.2.2.2.2.2.2.2.2.2.2.2.1 R0.2.2.2.2.2.2.2.2.2.2.2.2.1 R0.2.2.2.2.2.2.2.2.2.2.2.2.2 i0_seatOf i0_one i0_other i0_kind i0_years i0_sawn i0_pairs i0_gone i1_seatOf i1_one i1_other i1_kind i1_years i1_sawn i1_pairs i1_gone i2_seatOf i2_one i2_other i2_kind i2_years i2_sawn i2_pairs i2_gone) R0.1 := by
  refine xI_of (by decide) (Nat.le_of_ble_eq_true rfl) (fun p e s m args below meth c A C ls hl G => ?_)
  have hx := C.1
  have hb := C.2.1
  have hl : lv_has ls 3 [(0, .ref (ad 0)), (1, .int l1), (2, .int l2)] := hl
  unfold f_X_know at hf
  refine lv_aload_n hx hb dX10_know_0 rfl (lv_at hl 0 rfl) ?_
  refine lv_iload_n hx hb dX10_know_1 rfl (lv_at hl 1 rfl) ?_
  refine lv_iload_n hx hb dX10_know_2 rfl (lv_at hl 2 rfl) ?_
  obtain ⟨x1, hc, hf⟩ := bd_go hf
  refine xI_V C G (c_X_noTwo_x hc) mX10_noTwo kX10_173 (wX_at0) rfl ⟨Nat.le_of_ble_eq_true rfl, Nat.le_of_ble_eq_true rfl⟩ rfl hl.1 rfl (Nat.le_of_ble_eq_true rfl) ⟨Nat.le_refl _, Nat.le_refl _⟩ dX10_know_3 (fun hz1 H locs G => ?_)
  refine lv_if_eq (tgt := 11) hx hb dX10_know_6 (by decide) (fun h => ?_) (fun h => ?_)
  · have hf := it_t h hf
    refine lv_aload_n hx hb dX10_know_11 rfl (lv_at hl 0 rfl) ?_
    refine x_get C G fX10_26 (wX_at0) rfl dX10_know_12 ?_
    refine lv_iload_n hx hb dX10_know_15 rfl (lv_at hl 1 rfl) ?_
    refine lv_iload_n hx hb dX10_know_16 rfl (lv_at hl 2 rfl) ?_
    obtain ⟨x2, hc, hf⟩ := bd_go hf
    refine xI_V C G (c_Now_find_nw hc) mX4_find kX10_177 (wX_at28) rfl ⟨Nat.le_of_ble_eq_true rfl, Nat.le_of_ble_eq_true rfl⟩ rfl hl.1 rfl (Nat.le_of_ble_eq_true rfl) ⟨Nat.le_refl _, Nat.le_refl _⟩ dX10_know_17 (fun hz H locs G => ?_)
    refine lv_if_lt (tgt := 29) hx hb dX10_know_20 (by decide) (fun h => ?_) (fun h => ?_)
    · have hf := it_t h hf
      refine lv_aload_n hx hb dX10_know_29 rfl (lv_at hl 0 rfl) ?_
      refine x_get C G fX10_26 (wX_at0) rfl dX10_know_30 ?_
      refine lv_iload_n hx hb dX10_know_33 rfl (lv_at hl 1 rfl) ?_
      refine lv_iload_n hx hb dX10_know_34 rfl (lv_at hl 2 rfl) ?_
      refine lv_iconst (v := 0) hx hb dX10_know_35 (by decide) ?_
      refine lv_iconst (v := 0) hx hb dX10_know_36 (by decide) ?_
      obtain ⟨x3, hc, hf⟩ := bd_go hf
      refine xV_V C G (c_Now_addPair_nw hc) mX4_addPair kX10_357 (wX_at28) rfl ⟨Nat.le_of_ble_eq_true rfl, Nat.le_of_ble_eq_true rfl⟩ rfl hl.1 rfl (Nat.le_of_ble_eq_true rfl) ⟨Nat.le_refl _, Nat.le_refl _⟩ dX10_know_37 (fun H locs G => ?_)
      refine lv_aload_n hx hb dX10_know_40 rfl (lv_at hl 0 rfl) ?_
      refine lv_iconst (v := 3) hx hb dX10_know_41 (by decide) ?_
      refine lv_iconst (v := 0) hx hb dX10_know_42 (by decide) ?_
      refine lv_iconst (v := 0) hx hb dX10_know_43 (by decide) ?_
      obtain ⟨x4, hc, hf⟩ := bd_go hf
      refine xV_V C G (c_X_acted_x hc) mX10_acted kX10_345 (wX_at0) rfl ⟨Nat.le_of_ble_eq_true rfl, Nat.le_of_ble_eq_true rfl⟩ rfl hl.1 rfl (Nat.le_of_ble_eq_true rfl) ⟨Nat.le_refl _, Nat.le_refl _⟩ dX10_know_44 (fun H locs G => ?_)
      refine lv_aload_n hx hb dX10_know_47 rfl (lv_at hl 0 rfl) ?_
      refine x_get C G fX10_26 (wX_at0) rfl dX10_know_48 ?_
      refine x_get C G fX10_282.g (wX_at28) rfl dX10_know_51 ?_
      refine lv_iconst (v := 1) hx hb dX10_know_54 (by decide) ?_
      refine lv_isub hx hb dX10_know_55 ?_
      obtain rfl := Option.some.inj hf
      exact xI_ret C G rfl dX10_know_56
    · have hf := it_f h hf
      refine lv_aload_n hx hb dX10_know_23 rfl (lv_at hl 0 rfl) ?_
      refine lv_iconst (v := 5) hx hb dX10_know_24 (by decide) ?_
      obtain ⟨x5, hc, hf⟩ := bd_go hf
      refine xI_V C G (c_X_refused_x hc) mX10_refused kX10_87 (wX_at0) rfl ⟨Nat.le_of_ble_eq_true rfl, Nat.le_of_ble_eq_true rfl⟩ rfl hl.1 rfl (Nat.le_of_ble_eq_true rfl) ⟨Nat.le_refl _, Nat.le_refl _⟩ dX10_know_25 (fun hz H locs G => ?_)
      obtain rfl := Option.some.inj hf
      exact xI_ret C G rfl dX10_know_28
  · have hf := it_f h hf
    refine lv_iconst (v := -1) hx hb dX10_know_9 (by decide) ?_
    obtain rfl := Option.some.inj hf
    exact xI_ret C G rfl dX10_know_10
set_option maxHeartbeats 4000000 in
set_option maxRecDepth 100000 in
theorem c_Past_takeLatest_ps {l : Launch} {E : xE} {ad : Nat → Nat} {x_imageCount x_lastTrouble x_lastFault x_lastPlace pa_faultNumber pa_faultPlace rd_length rd_end rd_next rd_sort rd_start rd_value to_seats to_slack to_sawInches to_quarrelChance to_people to_forkBits to_unsure to_tried to_triedFedBits tf_pairs tf_gone bd_seats bd_slack bd_sawInches bd_quarrelChance bd_people bd_forkBits bd_unsure bd_tried bd_triedFedBits bf_pairs bf_gone nw_pairs nw_gone sc_forkBits sc_canBits sc_bestBits sc_bestSlops sl_count se_bestWorth se_fresh ch_items ch_leastCost ch_leastBits cl_count fi_count ps_next ps_count i0_pairs i0_gone i1_pairs i1_gone i2_pairs i2_gone : Int32} {pa_names : Nat → Int64} {rd_tape to_unsurePair to_unsureYears to_triedPair tf_seatOf tf_one tf_other tf_kind tf_years tf_sawn bd_unsurePair bd_unsureYears bd_triedPair bf_seatOf bf_one bf_other bf_kind bf_years bf_sawn nw_seatOf nw_one nw_other nw_kind nw_years nw_sawn sc_seatOf sc_handle sc_both sc_slopOf sl_bits se_bestRow se_row se_pairAt se_hope se_hopeAt se_slopAt se_farBits se_gain se_worth ch_both ch_cost ch_bit cl_bits fi_sets ps_act ps_whom ps_amount i0_seatOf i0_one i0_other i0_kind i0_years i0_sawn i1_seatOf i1_one i1_other i1_kind i1_years i1_sawn i2_seatOf i2_one i2_other i2_kind i2_years i2_sawn : Nat → Int32} {rd_word : Int64} {R0 : Int32 × Int32 × Int32} (hf : f_Past_takeLatest ps_next ps_count = some R0) : xI l E yX6_takeLatest cX6_takeLatest 1 (some .int) 0 0 [.ref (ad 60)] (wX E ad x_imageCount x_lastTrouble x_lastFault x_lastPlace pa_names pa_faultNumber pa_faultPlace rd_tape rd_length rd_end rd_next rd_sort rd_start rd_value rd_word to_unsurePair to_unsureYears to_triedPair to_seats to_slack to_sawInches to_quarrelChance to_people to_forkBits to_unsure to_tried to_triedFedBits tf_seatOf tf_one tf_other tf_kind tf_years tf_sawn tf_pairs tf_gone bd_unsurePair bd_unsureYears bd_triedPair bd_seats bd_slack bd_sawInches bd_quarrelChance bd_people bd_forkBits bd_unsure bd_tried bd_triedFedBits bf_seatOf bf_one bf_other bf_kind bf_years bf_sawn bf_pairs bf_gone nw_seatOf nw_one nw_other nw_kind nw_years nw_sawn nw_pairs nw_gone sc_seatOf sc_handle sc_both sc_slopOf sc_forkBits sc_canBits sc_bestBits sc_bestSlops sl_bits sl_count se_bestRow se_row se_pairAt se_hope se_hopeAt se_slopAt se_farBits se_gain se_worth se_bestWorth se_fresh ch_both ch_cost ch_bit ch_items ch_leastCost ch_leastBits cl_bits cl_count fi_sets fi_count ps_act ps_whom ps_amount ps_next ps_count i0_seatOf i0_one i0_other i0_kind i0_years i0_sawn i0_pairs i0_gone i1_seatOf i1_one i1_other i1_kind i1_years i1_sawn i1_pairs i1_gone i2_seatOf i2_one i2_other i2_kind i2_years i2_sawn i2_pairs i2_gone) (wX E ad x_imageCount x_lastTrouble x_lastFault x_lastPlace pa_names pa_faultNumber pa_faultPlace rd_tape rd_length rd_end rd_next rd_sort rd_start rd_value rd_word to_unsurePair to_unsureYears to_triedPair to_seats to_slack to_sawInches to_quarrelChance to_people to_forkBits to_unsure to_tried to_triedFedBits tf_seatOf tf_one tf_other tf_kind tf_years tf_sawn tf_pairs tf_gone bd_unsurePair bd_unsureYears bd_triedPair bd_seats bd_slack bd_sawInches bd_quarrelChance bd_people bd_forkBits bd_unsure bd_tried bd_triedFedBits bf_seatOf bf_one bf_other bf_kind bf_years bf_sawn bf_pairs bf_gone nw_seatOf nw_one nw_other nw_kind nw_years nw_sawn nw_pairs nw_gone sc_seatOf sc_handle sc_both sc_slopOf sc_forkBits sc_canBits sc_bestBits sc_bestSlops sl_bits sl_count se_bestRow se_row se_pairAt se_hope se_hopeAt se_slopAt se_farBits se_gain se_worth se_bestWorth se_fresh ch_both ch_cost ch_bit ch_items ch_leastCost ch_leastBits cl_bits cl_count fi_sets fi_count ps_act ps_whom ps_amount R0.2.1 R0.2.2 i0_seatOf i0_one i0_other i0_kind i0_years i0_sawn i0_pairs i0_gone i1_seatOf i1_one i1_other i1_kind i1_years i1_sawn i1_pairs i1_gone i2_seatOf i2_one i2_other i2_kind i2_years i2_sawn i2_pairs i2_gone) R0.1 := by
  refine xI_of (by decide) (Nat.le_of_ble_eq_true rfl) (fun p e s m args below meth c A C ls hl G => ?_)
  have hx := C.1
  have hb := C.2.1
  have hl : lv_has ls 1 [(0, .ref (ad 60))] := hl
  unfold f_Past_takeLatest at hf
  refine lv_aload_n hx hb dX6_takeLatest_0 rfl (lv_at hl 0 rfl) ?_
  refine lv_aload_n hx hb dX6_takeLatest_1 rfl (lv_at hl 0 rfl) ?_
  refine x_get C G fX6_21.g (wX_at60) rfl dX6_takeLatest_2 ?_
  refine lv_bipush (v := 16) hx hb dX6_takeLatest_5 (by decide) ?_
  refine lv_iadd hx hb dX6_takeLatest_7 ?_
  refine lv_iconst (v := 1) hx hb dX6_takeLatest_8 (by decide) ?_
  refine lv_isub hx hb dX6_takeLatest_9 ?_
  refine lv_bipush (v := 16) hx hb dX6_takeLatest_10 (by decide) ?_
  refine lv_irem hx hb dX6_takeLatest_12 (by decide) ?_
  refine lv_topi (fun x1 ex1 => ?_)
  have hf := lt_go ex1 hf
  refine x_put (ws' := (wX E ad x_imageCount x_lastTrouble x_lastFault x_lastPlace pa_names pa_faultNumber pa_faultPlace rd_tape rd_length rd_end rd_next rd_sort rd_start rd_value rd_word to_unsurePair to_unsureYears to_triedPair to_seats to_slack to_sawInches to_quarrelChance to_people to_forkBits to_unsure to_tried to_triedFedBits tf_seatOf tf_one tf_other tf_kind tf_years tf_sawn tf_pairs tf_gone bd_unsurePair bd_unsureYears bd_triedPair bd_seats bd_slack bd_sawInches bd_quarrelChance bd_people bd_forkBits bd_unsure bd_tried bd_triedFedBits bf_seatOf bf_one bf_other bf_kind bf_years bf_sawn bf_pairs bf_gone nw_seatOf nw_one nw_other nw_kind nw_years nw_sawn nw_pairs nw_gone sc_seatOf sc_handle sc_both sc_slopOf sc_forkBits sc_canBits sc_bestBits sc_bestSlops sl_bits sl_count se_bestRow se_row se_pairAt se_hope se_hopeAt se_slopAt se_farBits se_gain se_worth se_bestWorth se_fresh ch_both ch_cost ch_bit ch_items ch_leastCost ch_leastBits cl_bits cl_count fi_sets fi_count ps_act ps_whom ps_amount x1 ps_count i0_seatOf i0_one i0_other i0_kind i0_years i0_sawn i0_pairs i0_gone i1_seatOf i1_one i1_other i1_kind i1_years i1_sawn i1_pairs i1_gone i2_seatOf i2_one i2_other i2_kind i2_years i2_sawn i2_pairs i2_gone)) C G fX6_21 (wX_at60) rfl rfl (Nat.le_of_ble_eq_true rfl) wX_set_ps_next dX6_takeLatest_13 (fun H locs G => ?_)
  refine lv_aload_n hx hb dX6_takeLatest_16 rfl (lv_at hl 0 rfl) ?_
  refine lv_dup hx hb dX6_takeLatest_17 rfl ?_
  refine x_get C G fX6_25.g (wX_at60) rfl dX6_takeLatest_18 ?_
  refine lv_iconst (v := 1) hx hb dX6_takeLatest_21 (by decide) ?_
  refine lv_isub hx hb dX6_takeLatest_22 ?_
  refine lv_topi (fun x2 ex2 => ?_)
  have hf := lt_go ex2 hf
  refine x_put (ws' := (wX E ad x_imageCount x_lastTrouble x_lastFault x_lastPlace pa_names pa_faultNumber pa_faultPlace rd_tape rd_length rd_end rd_next rd_sort rd_start rd_value rd_word to_unsurePair to_unsureYears to_triedPair to_seats to_slack to_sawInches to_quarrelChance to_people to_forkBits to_unsure to_tried to_triedFedBits tf_seatOf tf_one tf_other tf_kind tf_years tf_sawn tf_pairs tf_gone bd_unsurePair bd_unsureYears bd_triedPair bd_seats bd_slack bd_sawInches bd_quarrelChance bd_people bd_forkBits bd_unsure bd_tried bd_triedFedBits bf_seatOf bf_one bf_other bf_kind bf_years bf_sawn bf_pairs bf_gone nw_seatOf nw_one nw_other nw_kind nw_years nw_sawn nw_pairs nw_gone sc_seatOf sc_handle sc_both sc_slopOf sc_forkBits sc_canBits sc_bestBits sc_bestSlops sl_bits sl_count se_bestRow se_row se_pairAt se_hope se_hopeAt se_slopAt se_farBits se_gain se_worth se_bestWorth se_fresh ch_both ch_cost ch_bit ch_items ch_leastCost ch_leastBits cl_bits cl_count fi_sets fi_count ps_act ps_whom ps_amount x1 x2 i0_seatOf i0_one i0_other i0_kind i0_years i0_sawn i0_pairs i0_gone i1_seatOf i1_one i1_other i1_kind i1_years i1_sawn i1_pairs i1_gone i2_seatOf i2_one i2_other i2_kind i2_years i2_sawn i2_pairs i2_gone)) C G fX6_25 (wX_at60) rfl rfl (Nat.le_of_ble_eq_true rfl) wX_set_ps_count dX6_takeLatest_23 (fun H locs G => ?_)
  refine lv_aload_n hx hb dX6_takeLatest_26 rfl (lv_at hl 0 rfl) ?_
  refine x_get C G fX6_21.g (wX_at60) rfl dX6_takeLatest_27 ?_
  obtain rfl := Option.some.inj hf
  exact xI_ret C G rfl dX6_takeLatest_30
set_option maxHeartbeats 4000000 in
set_option maxRecDepth 100000 in
theorem c_X_takeBack_x {l : Launch} {E : xE} {ad : Nat → Nat} {x_imageCount x_lastTrouble x_lastFault x_lastPlace pa_faultNumber pa_faultPlace rd_length rd_end rd_next rd_sort rd_start rd_value to_seats to_slack to_sawInches to_quarrelChance to_people to_forkBits to_unsure to_tried to_triedFedBits tf_pairs tf_gone bd_seats bd_slack bd_sawInches bd_quarrelChance bd_people bd_forkBits bd_unsure bd_tried bd_triedFedBits bf_pairs bf_gone nw_pairs nw_gone sc_forkBits sc_canBits sc_bestBits sc_bestSlops sl_count se_bestWorth se_fresh ch_items ch_leastCost ch_leastBits cl_count fi_count ps_next ps_count i0_pairs i0_gone i1_pairs i1_gone i2_pairs i2_gone : Int32} {pa_names : Nat → Int64} {rd_tape to_unsurePair to_unsureYears to_triedPair tf_seatOf tf_one tf_other tf_kind tf_years tf_sawn bd_unsurePair bd_unsureYears bd_triedPair bf_seatOf bf_one bf_other bf_kind bf_years bf_sawn nw_seatOf nw_one nw_other nw_kind nw_years nw_sawn sc_seatOf sc_handle sc_both sc_slopOf sl_bits se_bestRow se_row se_pairAt se_hope se_hopeAt se_slopAt se_farBits se_gain se_worth ch_both ch_cost ch_bit cl_bits fi_sets ps_act ps_whom ps_amount i0_seatOf i0_one i0_other i0_kind i0_years i0_sawn i1_seatOf i1_one i1_other i1_kind i1_years i1_sawn i2_seatOf i2_one i2_other i2_kind i2_years i2_sawn : Nat → Int32} {rd_word : Int64} {l1 : Int32} {R0 : (Nat → Int32) × (Nat → Int32) × (Nat → Int32) × Int32 × Int32} (hf : f_X_takeBack l1 nw_seatOf nw_years nw_sawn nw_pairs nw_gone ps_act ps_whom ps_amount = some R0) : xV l E yX10_takeBack cX10_takeBack 3 none 1 22 [.ref (ad 0), .int l1] (wX E ad x_imageCount x_lastTrouble x_lastFault x_lastPlace pa_names pa_faultNumber pa_faultPlace rd_tape rd_length rd_end rd_next rd_sort rd_start rd_value rd_word to_unsurePair to_unsureYears to_triedPair to_seats to_slack to_sawInches to_quarrelChance to_people to_forkBits to_unsure to_tried to_triedFedBits tf_seatOf tf_one tf_other tf_kind tf_years tf_sawn tf_pairs tf_gone bd_unsurePair bd_unsureYears bd_triedPair bd_seats bd_slack bd_sawInches bd_quarrelChance bd_people bd_forkBits bd_unsure bd_tried bd_triedFedBits bf_seatOf bf_one bf_other bf_kind bf_years bf_sawn bf_pairs bf_gone nw_seatOf nw_one nw_other nw_kind nw_years nw_sawn nw_pairs nw_gone sc_seatOf sc_handle sc_both sc_slopOf sc_forkBits sc_canBits sc_bestBits sc_bestSlops sl_bits sl_count se_bestRow se_row se_pairAt se_hope se_hopeAt se_slopAt se_farBits se_gain se_worth se_bestWorth se_fresh ch_both ch_cost ch_bit ch_items ch_leastCost ch_leastBits cl_bits cl_count fi_sets fi_count ps_act ps_whom ps_amount ps_next ps_count i0_seatOf i0_one i0_other i0_kind i0_years i0_sawn i0_pairs i0_gone i1_seatOf i1_one i1_other i1_kind i1_years i1_sawn i1_pairs i1_gone i2_seatOf i2_one i2_other i2_kind i2_years i2_sawn i2_pairs i2_gone) (wX E ad x_imageCount x_lastTrouble x_lastFault x_lastPlace pa_names pa_faultNumber pa_faultPlace rd_tape rd_length rd_end rd_next rd_sort rd_start rd_value rd_word to_unsurePair to_unsureYears to_triedPair to_seats to_slack to_sawInches to_quarrelChance to_people to_forkBits to_unsure to_tried to_triedFedBits tf_seatOf tf_one tf_other tf_kind tf_years tf_sawn tf_pairs tf_gone bd_unsurePair bd_unsureYears bd_triedPair bd_seats bd_slack bd_sawInches bd_quarrelChance bd_people bd_forkBits bd_unsure bd_tried bd_triedFedBits bf_seatOf bf_one bf_other bf_kind bf_years bf_sawn bf_pairs bf_gone R0.1 nw_one nw_other nw_kind R0.2.1 R0.2.2.1 R0.2.2.2.1 R0.2.2.2.2 sc_seatOf sc_handle sc_both sc_slopOf sc_forkBits sc_canBits sc_bestBits sc_bestSlops sl_bits sl_count se_bestRow se_row se_pairAt se_hope se_hopeAt se_slopAt se_farBits se_gain se_worth se_bestWorth se_fresh ch_both ch_cost ch_bit ch_items ch_leastCost ch_leastBits cl_bits cl_count fi_sets fi_count ps_act ps_whom ps_amount ps_next ps_count i0_seatOf i0_one i0_other i0_kind i0_years i0_sawn i0_pairs i0_gone i1_seatOf i1_one i1_other i1_kind i1_years i1_sawn i1_pairs i1_gone i2_seatOf i2_one i2_other i2_kind i2_years i2_sawn i2_pairs i2_gone) := by
  refine xV_of (by decide) (Nat.le_of_ble_eq_true rfl) (fun p e s m args below meth c A C ls hl G => ?_)
  have hx := C.1
  have hb := C.2.1
  have hl : lv_has ls 3 [(0, .ref (ad 0)), (1, .int l1)] := hl
  unfold f_X_takeBack at hf
  refine lv_aload_n hx hb dX10_takeBack_0 rfl (lv_at hl 0 rfl) ?_
  refine x_get C G fX10_65 (wX_at0) rfl dX10_takeBack_1 ?_
  refine x_get C G fX10_425 (wX_at60) rfl dX10_takeBack_4 ?_
  refine lv_iload_n hx hb dX10_takeBack_7 rfl (lv_at hl 1 rfl) ?_
  have hi := ck_in hf
  have hf := ck_go hf
  refine x_iald C G (wX_at62) hi dX10_takeBack_8 ?_
  refine lv_topi (fun x1 ex1 => ?_)
  have hf := lt_go ex1 hf
  refine lv_istore_n (lv' := [(2, .int x1), (0, .ref (ad 0)), (1, .int l1)]) hx hb dX10_takeBack_9 rfl hl (by decide) rfl (fun ls hl => ?_)
  refine lv_aload_n hx hb dX10_takeBack_10 rfl (lv_at hl 1 rfl) ?_
  refine x_get C G fX10_65 (wX_at0) rfl dX10_takeBack_11 ?_
  refine x_get C G fX10_428 (wX_at60) rfl dX10_takeBack_14 ?_
  refine lv_iload_n hx hb dX10_takeBack_17 rfl (lv_at hl 2 rfl) ?_
  have hi := ck_in hf
  have hf := ck_go hf
  refine x_iald C G (wX_at61) hi dX10_takeBack_18 ?_
  by_cases hs0 : (ps_act l1.toNatClampNeg) = (0 : Int32)
  · have hf := it_t hs0 hf
    refine x_tab (k := 0) (tgt := 44) hx hb dX10_takeBack_19 hs0 (by decide) (by decide) rfl (by decide) ?_
    refine lv_aload_n hx hb dX10_takeBack_44 rfl (lv_at hl 1 rfl) ?_
    refine x_get C G fX10_26 (wX_at0) rfl dX10_takeBack_45 ?_
    refine lv_iconst (v := -1) hx hb dX10_takeBack_48 (by decide) ?_
    obtain ⟨x2, hc, hf⟩ := bd_go hf
    refine xV_V C G (c_Now_passYears_nw hc) mX4_passYears kX10_342 (wX_at28) rfl ⟨Nat.le_of_ble_eq_true rfl, Nat.le_of_ble_eq_true rfl⟩ rfl hl.1 rfl (Nat.le_of_ble_eq_true rfl) ⟨Nat.le_refl _, Nat.le_refl _⟩ dX10_takeBack_49 (fun H locs G => ?_)
    refine lv_goto (tgt := 113) hx hb dX10_takeBack_52 (by decide) ?_
    obtain rfl := Option.some.inj hf
    exact xV_ret C G dX10_takeBack_113
  have hf := it_f hs0 hf
  by_cases hs1 : (ps_act l1.toNatClampNeg) = (1 : Int32)
  · have hf := it_t hs1 hf
    refine x_tab (k := 1) (tgt := 55) hx hb dX10_takeBack_19 hs1 (by decide) (by decide) rfl (by decide) ?_
    refine lv_aload_n hx hb dX10_takeBack_55 rfl (lv_at hl 1 rfl) ?_
    refine x_get C G fX10_26 (wX_at0) rfl dX10_takeBack_56 ?_
    refine x_get C G fX10_160 (wX_at28) rfl dX10_takeBack_59 ?_
    refine lv_iload_n hx hb dX10_takeBack_62 rfl (lv_at hl 0 rfl) ?_
    refine lv_dup2_11 hx hb dX10_takeBack_63 rfl rfl ?_
    have hi := ck_in hf
    have hf := ck_go hf
    refine x_iald C G (wX_at34) hi dX10_takeBack_64 ?_
    refine lv_aload_n hx hb dX10_takeBack_65 rfl (lv_at hl 1 rfl) ?_
    refine x_get C G fX10_65 (wX_at0) rfl dX10_takeBack_66 ?_
    refine x_get C G fX10_431 (wX_at60) rfl dX10_takeBack_69 ?_
    refine lv_iload_n hx hb dX10_takeBack_72 rfl (lv_at hl 2 rfl) ?_
    have hi := ck_in hf
    have hf := ck_go hf
    refine x_iald C G (wX_at63) hi dX10_takeBack_73 ?_
    refine lv_isub hx hb dX10_takeBack_74 ?_
    have hi := ck_in hf
    have hf := ck_go hf
    refine x_iast (ws' := (wX E ad x_imageCount x_lastTrouble x_lastFault x_lastPlace pa_names pa_faultNumber pa_faultPlace rd_tape rd_length rd_end rd_next rd_sort rd_start rd_value rd_word to_unsurePair to_unsureYears to_triedPair to_seats to_slack to_sawInches to_quarrelChance to_people to_forkBits to_unsure to_tried to_triedFedBits tf_seatOf tf_one tf_other tf_kind tf_years tf_sawn tf_pairs tf_gone bd_unsurePair bd_unsureYears bd_triedPair bd_seats bd_slack bd_sawInches bd_quarrelChance bd_people bd_forkBits bd_unsure bd_tried bd_triedFedBits bf_seatOf bf_one bf_other bf_kind bf_years bf_sawn bf_pairs bf_gone nw_seatOf nw_one nw_other nw_kind nw_years (upd nw_sawn x1.toNatClampNeg ((nw_sawn x1.toNatClampNeg) - (ps_amount l1.toNatClampNeg))) nw_pairs nw_gone sc_seatOf sc_handle sc_both sc_slopOf sc_forkBits sc_canBits sc_bestBits sc_bestSlops sl_bits sl_count se_bestRow se_row se_pairAt se_hope se_hopeAt se_slopAt se_farBits se_gain se_worth se_bestWorth se_fresh ch_both ch_cost ch_bit ch_items ch_leastCost ch_leastBits cl_bits cl_count fi_sets fi_count ps_act ps_whom ps_amount ps_next ps_count i0_seatOf i0_one i0_other i0_kind i0_years i0_sawn i0_pairs i0_gone i1_seatOf i1_one i1_other i1_kind i1_years i1_sawn i1_pairs i1_gone i2_seatOf i2_one i2_other i2_kind i2_years i2_sawn i2_pairs i2_gone)) C G (wX_at34) hi wX_set_nw_sawn dX10_takeBack_75 (fun H locs G => ?_)
    refine lv_goto (tgt := 113) hx hb dX10_takeBack_76 (by decide) ?_
    obtain rfl := Option.some.inj hf
    exact xV_ret C G dX10_takeBack_113
  have hf := it_f hs1 hf
  by_cases hs2 : (ps_act l1.toNatClampNeg) = (2 : Int32)
  · have hf := it_t hs2 hf
    refine x_tab (k := 2) (tgt := 79) hx hb dX10_takeBack_19 hs2 (by decide) (by decide) rfl (by decide) ?_
    refine lv_aload_n hx hb dX10_takeBack_79 rfl (lv_at hl 1 rfl) ?_
    refine x_get C G fX10_26 (wX_at0) rfl dX10_takeBack_80 ?_
    refine x_get C G fX10_138 (wX_at28) rfl dX10_takeBack_83 ?_
    refine lv_iload_n hx hb dX10_takeBack_86 rfl (lv_at hl 0 rfl) ?_
    refine lv_aload_n hx hb dX10_takeBack_87 rfl (lv_at hl 1 rfl) ?_
    refine x_get C G fX10_65 (wX_at0) rfl dX10_takeBack_88 ?_
    refine x_get C G fX10_431 (wX_at60) rfl dX10_takeBack_91 ?_
    refine lv_iload_n hx hb dX10_takeBack_94 rfl (lv_at hl 2 rfl) ?_
    have hi := ck_in hf
    have hf := ck_go hf
    refine x_iald C G (wX_at63) hi dX10_takeBack_95 ?_
    have hi := ck_in hf
    have hf := ck_go hf
    refine x_iast (ws' := (wX E ad x_imageCount x_lastTrouble x_lastFault x_lastPlace pa_names pa_faultNumber pa_faultPlace rd_tape rd_length rd_end rd_next rd_sort rd_start rd_value rd_word to_unsurePair to_unsureYears to_triedPair to_seats to_slack to_sawInches to_quarrelChance to_people to_forkBits to_unsure to_tried to_triedFedBits tf_seatOf tf_one tf_other tf_kind tf_years tf_sawn tf_pairs tf_gone bd_unsurePair bd_unsureYears bd_triedPair bd_seats bd_slack bd_sawInches bd_quarrelChance bd_people bd_forkBits bd_unsure bd_tried bd_triedFedBits bf_seatOf bf_one bf_other bf_kind bf_years bf_sawn bf_pairs bf_gone (upd nw_seatOf x1.toNatClampNeg (ps_amount l1.toNatClampNeg)) nw_one nw_other nw_kind nw_years nw_sawn nw_pairs nw_gone sc_seatOf sc_handle sc_both sc_slopOf sc_forkBits sc_canBits sc_bestBits sc_bestSlops sl_bits sl_count se_bestRow se_row se_pairAt se_hope se_hopeAt se_slopAt se_farBits se_gain se_worth se_bestWorth se_fresh ch_both ch_cost ch_bit ch_items ch_leastCost ch_leastBits cl_bits cl_count fi_sets fi_count ps_act ps_whom ps_amount ps_next ps_count i0_seatOf i0_one i0_other i0_kind i0_years i0_sawn i0_pairs i0_gone i1_seatOf i1_one i1_other i1_kind i1_years i1_sawn i1_pairs i1_gone i2_seatOf i2_one i2_other i2_kind i2_years i2_sawn i2_pairs i2_gone)) C G (wX_at29) hi wX_set_nw_seatOf dX10_takeBack_96 (fun H locs G => ?_)
    refine lv_goto (tgt := 113) hx hb dX10_takeBack_97 (by decide) ?_
    obtain rfl := Option.some.inj hf
    exact xV_ret C G dX10_takeBack_113
  have hf := it_f hs2 hf
  refine lv_tableOut (tgt := 100) hx hb dX10_takeBack_19 (by have w0 := x_ne 0 rfl hs0; have w1 := x_ne 1 rfl hs1; have w2 := x_ne 2 rfl hs2; omega) (by decide) ?_
  refine lv_aload_n hx hb dX10_takeBack_100 rfl (lv_at hl 1 rfl) ?_
  refine x_get C G fX10_26 (wX_at0) rfl dX10_takeBack_101 ?_
  refine lv_dup hx hb dX10_takeBack_104 rfl ?_
  refine x_get C G fX10_282.g (wX_at28) rfl dX10_takeBack_105 ?_
  refine lv_iconst (v := 1) hx hb dX10_takeBack_108 (by decide) ?_
  refine lv_isub hx hb dX10_takeBack_109 ?_
  refine lv_topi (fun x3 ex3 => ?_)
  have hf := lt_go ex3 hf
  refine x_put (ws' := (wX E ad x_imageCount x_lastTrouble x_lastFault x_lastPlace pa_names pa_faultNumber pa_faultPlace rd_tape rd_length rd_end rd_next rd_sort rd_start rd_value rd_word to_unsurePair to_unsureYears to_triedPair to_seats to_slack to_sawInches to_quarrelChance to_people to_forkBits to_unsure to_tried to_triedFedBits tf_seatOf tf_one tf_other tf_kind tf_years tf_sawn tf_pairs tf_gone bd_unsurePair bd_unsureYears bd_triedPair bd_seats bd_slack bd_sawInches bd_quarrelChance bd_people bd_forkBits bd_unsure bd_tried bd_triedFedBits bf_seatOf bf_one bf_other bf_kind bf_years bf_sawn bf_pairs bf_gone nw_seatOf nw_one nw_other nw_kind nw_years nw_sawn x3 nw_gone sc_seatOf sc_handle sc_both sc_slopOf sc_forkBits sc_canBits sc_bestBits sc_bestSlops sl_bits sl_count se_bestRow se_row se_pairAt se_hope se_hopeAt se_slopAt se_farBits se_gain se_worth se_bestWorth se_fresh ch_both ch_cost ch_bit ch_items ch_leastCost ch_leastBits cl_bits cl_count fi_sets fi_count ps_act ps_whom ps_amount ps_next ps_count i0_seatOf i0_one i0_other i0_kind i0_years i0_sawn i0_pairs i0_gone i1_seatOf i1_one i1_other i1_kind i1_years i1_sawn i1_pairs i1_gone i2_seatOf i2_one i2_other i2_kind i2_years i2_sawn i2_pairs i2_gone)) C G fX10_282 (wX_at28) rfl rfl (Nat.le_of_ble_eq_true rfl) wX_set_nw_pairs dX10_takeBack_110 (fun H locs G => ?_)
  obtain rfl := Option.some.inj hf
  exact xV_ret C G dX10_takeBack_113
set_option maxHeartbeats 4000000 in
set_option maxRecDepth 100000 in
theorem c_X_undo_x {l : Launch} {E : xE} {ad : Nat → Nat} {x_imageCount x_lastTrouble x_lastFault x_lastPlace pa_faultNumber pa_faultPlace rd_length rd_end rd_next rd_sort rd_start rd_value to_seats to_slack to_sawInches to_quarrelChance to_people to_forkBits to_unsure to_tried to_triedFedBits tf_pairs tf_gone bd_seats bd_slack bd_sawInches bd_quarrelChance bd_people bd_forkBits bd_unsure bd_tried bd_triedFedBits bf_pairs bf_gone nw_pairs nw_gone sc_forkBits sc_canBits sc_bestBits sc_bestSlops sl_count se_bestWorth se_fresh ch_items ch_leastCost ch_leastBits cl_count fi_count ps_next ps_count i0_pairs i0_gone i1_pairs i1_gone i2_pairs i2_gone : Int32} {pa_names : Nat → Int64} {rd_tape to_unsurePair to_unsureYears to_triedPair tf_seatOf tf_one tf_other tf_kind tf_years tf_sawn bd_unsurePair bd_unsureYears bd_triedPair bf_seatOf bf_one bf_other bf_kind bf_years bf_sawn nw_seatOf nw_one nw_other nw_kind nw_years nw_sawn sc_seatOf sc_handle sc_both sc_slopOf sl_bits se_bestRow se_row se_pairAt se_hope se_hopeAt se_slopAt se_farBits se_gain se_worth ch_both ch_cost ch_bit cl_bits fi_sets ps_act ps_whom ps_amount i0_seatOf i0_one i0_other i0_kind i0_years i0_sawn i1_seatOf i1_one i1_other i1_kind i1_years i1_sawn i2_seatOf i2_one i2_other i2_kind i2_years i2_sawn : Nat → Int32} {rd_word : Int64} {R0 : Int32 × Int32 × (Nat → Int32) × (Nat → Int32) × (Nat → Int32) × Int32 × Int32 × Int32 × Int32 × Int32} (hf : f_X_undo nw_seatOf nw_years nw_sawn nw_pairs nw_gone se_fresh ps_act ps_whom ps_amount ps_next ps_count = some R0) : xI l E yX10_undo cX10_undo 1 (some .boolean) 2 44 [.ref (ad 0)] (wX E ad x_imageCount x_lastTrouble x_lastFault x_lastPlace pa_names pa_faultNumber pa_faultPlace rd_tape rd_length rd_end rd_next rd_sort rd_start rd_value rd_word to_unsurePair to_unsureYears to_triedPair to_seats to_slack to_sawInches to_quarrelChance to_people to_forkBits to_unsure to_tried to_triedFedBits tf_seatOf tf_one tf_other tf_kind tf_years tf_sawn tf_pairs tf_gone bd_unsurePair bd_unsureYears bd_triedPair bd_seats bd_slack bd_sawInches bd_quarrelChance bd_people bd_forkBits bd_unsure bd_tried bd_triedFedBits bf_seatOf bf_one bf_other bf_kind bf_years bf_sawn bf_pairs bf_gone nw_seatOf nw_one nw_other nw_kind nw_years nw_sawn nw_pairs nw_gone sc_seatOf sc_handle sc_both sc_slopOf sc_forkBits sc_canBits sc_bestBits sc_bestSlops sl_bits sl_count se_bestRow se_row se_pairAt se_hope se_hopeAt se_slopAt se_farBits se_gain se_worth se_bestWorth se_fresh ch_both ch_cost ch_bit ch_items ch_leastCost ch_leastBits cl_bits cl_count fi_sets fi_count ps_act ps_whom ps_amount ps_next ps_count i0_seatOf i0_one i0_other i0_kind i0_years i0_sawn i0_pairs i0_gone i1_seatOf i1_one i1_other i1_kind i1_years i1_sawn i1_pairs i1_gone i2_seatOf i2_one i2_other i2_kind i2_years i2_sawn i2_pairs i2_gone) (wX E ad x_imageCount R0.2.1 x_lastFault x_lastPlace pa_names pa_faultNumber pa_faultPlace rd_tape rd_length rd_end rd_next rd_sort rd_start rd_value rd_word to_unsurePair to_unsureYears to_triedPair to_seats to_slack to_sawInches to_quarrelChance to_people to_forkBits to_unsure to_tried to_triedFedBits tf_seatOf tf_one tf_other tf_kind tf_years tf_sawn tf_pairs tf_gone bd_unsurePair bd_unsureYears bd_triedPair bd_seats bd_slack bd_sawInches bd_quarrelChance bd_people bd_forkBits bd_unsure bd_tried bd_triedFedBits bf_seatOf bf_one bf_other bf_kind bf_years bf_sawn bf_pairs bf_gone R0.2.2.1 nw_one nw_other nw_kind R0.2.2.2.1 R0.2.2.2.2.1 R0.2.2.2.2.2.1 R0.2.2.2.2.2.2.1 sc_seatOf sc_handle sc_both sc_slopOf sc_forkBits sc_canBits sc_bestBits sc_bestSlops sl_bits sl_count se_bestRow se_row se_pairAt se_hope se_hopeAt se_slopAt se_farBits se_gain se_worth se_bestWorth R0.2.2.2.2.2.2.2.1 ch_both ch_cost ch_bit ch_items ch_leastCost ch_leastBits cl_bits cl_count fi_sets fi_count ps_act ps_whom ps_amount R0.2.2.2.2.2.2.2.2.1 R0.2.2.2.2.2.2.2.2.2 i0_seatOf i0_one i0_other i0_kind i0_years i0_sawn i0_pairs i0_gone i1_seatOf i1_one i1_other i1_kind i1_years i1_sawn i1_pairs i1_gone i2_seatOf i2_one i2_other i2_kind i2_years i2_sawn i2_pairs i2_gone) R0.1 := by
  refine xI_of (by decide) (Nat.le_of_ble_eq_true rfl) (fun p e s m args below meth c A C ls hl G => ?_)
  have hx := C.1
  have hb := C.2.1
  have hl : lv_has ls 1 [(0, .ref (ad 0))] := hl
  unfold f_X_undo at hf
  refine lv_aload_n hx hb dX10_undo_0 rfl (lv_at hl 0 rfl) ?_
  refine x_get C G fX10_65 (wX_at0) rfl dX10_undo_1 ?_
  refine x_get C G fX10_122.g (wX_at60) rfl dX10_undo_4 ?_
  refine lv_if_ne (tgt := 18) hx hb dX10_undo_7 (by decide) (fun h => ?_) (fun h => ?_)
  · have hf := it_f h hf
    refine lv_aload_n hx hb dX10_undo_18 rfl (lv_at hl 0 rfl) ?_
    refine lv_iconst (v := 0) hx hb dX10_undo_19 (by decide) ?_
    refine x_put (ws' := (wX E ad x_imageCount (0 : Int32) x_lastFault x_lastPlace pa_names pa_faultNumber pa_faultPlace rd_tape rd_length rd_end rd_next rd_sort rd_start rd_value rd_word to_unsurePair to_unsureYears to_triedPair to_seats to_slack to_sawInches to_quarrelChance to_people to_forkBits to_unsure to_tried to_triedFedBits tf_seatOf tf_one tf_other tf_kind tf_years tf_sawn tf_pairs tf_gone bd_unsurePair bd_unsureYears bd_triedPair bd_seats bd_slack bd_sawInches bd_quarrelChance bd_people bd_forkBits bd_unsure bd_tried bd_triedFedBits bf_seatOf bf_one bf_other bf_kind bf_years bf_sawn bf_pairs bf_gone nw_seatOf nw_one nw_other nw_kind nw_years nw_sawn nw_pairs nw_gone sc_seatOf sc_handle sc_both sc_slopOf sc_forkBits sc_canBits sc_bestBits sc_bestSlops sl_bits sl_count se_bestRow se_row se_pairAt se_hope se_hopeAt se_slopAt se_farBits se_gain se_worth se_bestWorth se_fresh ch_both ch_cost ch_bit ch_items ch_leastCost ch_leastBits cl_bits cl_count fi_sets fi_count ps_act ps_whom ps_amount ps_next ps_count i0_seatOf i0_one i0_other i0_kind i0_years i0_sawn i0_pairs i0_gone i1_seatOf i1_one i1_other i1_kind i1_years i1_sawn i1_pairs i1_gone i2_seatOf i2_one i2_other i2_kind i2_years i2_sawn i2_pairs i2_gone)) C G fX10_107 (wX_at0) rfl rfl (Nat.le_of_ble_eq_true rfl) wX_set_x_lastTrouble dX10_undo_20 (fun H locs G => ?_)
    refine lv_aload_n hx hb dX10_undo_23 rfl (lv_at hl 0 rfl) ?_
    refine lv_aload_n hx hb dX10_undo_24 rfl (lv_at hl 0 rfl) ?_
    refine x_get C G fX10_65 (wX_at0) rfl dX10_undo_25 ?_
    obtain ⟨x1, hc, hf⟩ := bd_go hf
    refine xI_V C G (c_Past_takeLatest_ps hc) mX6_takeLatest kX10_361 (wX_at60) rfl ⟨Nat.le_of_ble_eq_true rfl, Nat.le_of_ble_eq_true rfl⟩ rfl hl.1 rfl (Nat.le_of_ble_eq_true rfl) ⟨Nat.le_refl _, Nat.le_refl _⟩ dX10_undo_28 (fun hz H locs G => ?_)
    obtain ⟨x2, hc, hf⟩ := bd_go hf
    refine xV_V C G (c_X_takeBack_x hc) mX10_takeBack kX10_364 (wX_at0) rfl ⟨Nat.le_of_ble_eq_true rfl, Nat.le_of_ble_eq_true rfl⟩ rfl hl.1 rfl (Nat.le_of_ble_eq_true rfl) ⟨Nat.le_refl _, Nat.le_refl _⟩ dX10_undo_31 (fun H locs G => ?_)
    refine lv_aload_n hx hb dX10_undo_34 rfl (lv_at hl 0 rfl) ?_
    refine x_get C G fX10_42 (wX_at0) rfl dX10_undo_35 ?_
    refine lv_iconst (v := 0) hx hb dX10_undo_38 (by decide) ?_
    refine x_put (ws' := (wX E ad x_imageCount (0 : Int32) x_lastFault x_lastPlace pa_names pa_faultNumber pa_faultPlace rd_tape rd_length rd_end rd_next rd_sort rd_start rd_value rd_word to_unsurePair to_unsureYears to_triedPair to_seats to_slack to_sawInches to_quarrelChance to_people to_forkBits to_unsure to_tried to_triedFedBits tf_seatOf tf_one tf_other tf_kind tf_years tf_sawn tf_pairs tf_gone bd_unsurePair bd_unsureYears bd_triedPair bd_seats bd_slack bd_sawInches bd_quarrelChance bd_people bd_forkBits bd_unsure bd_tried bd_triedFedBits bf_seatOf bf_one bf_other bf_kind bf_years bf_sawn bf_pairs bf_gone x2.1 nw_one nw_other nw_kind x2.2.1 x2.2.2.1 x2.2.2.2.1 x2.2.2.2.2 sc_seatOf sc_handle sc_both sc_slopOf sc_forkBits sc_canBits sc_bestBits sc_bestSlops sl_bits sl_count se_bestRow se_row se_pairAt se_hope se_hopeAt se_slopAt se_farBits se_gain se_worth se_bestWorth (0 : Int32) ch_both ch_cost ch_bit ch_items ch_leastCost ch_leastBits cl_bits cl_count fi_sets fi_count ps_act ps_whom ps_amount x1.2.1 x1.2.2 i0_seatOf i0_one i0_other i0_kind i0_years i0_sawn i0_pairs i0_gone i1_seatOf i1_one i1_other i1_kind i1_years i1_sawn i1_pairs i1_gone i2_seatOf i2_one i2_other i2_kind i2_years i2_sawn i2_pairs i2_gone)) C G fX10_128 (wX_at42) rfl rfl (Nat.le_of_ble_eq_true rfl) wX_set_se_fresh dX10_undo_39 (fun H locs G => ?_)
    refine lv_iconst (v := 1) hx hb dX10_undo_42 (by decide) ?_
    obtain rfl := Option.some.inj hf
    exact xI_ret (r := (1 : Int32)) C G rfl dX10_undo_43
  · have hf := it_t h hf
    refine lv_aload_n hx hb dX10_undo_10 rfl (lv_at hl 0 rfl) ?_
    refine lv_bipush (v := 6) hx hb dX10_undo_11 (by decide) ?_
    refine x_put (ws' := (wX E ad x_imageCount (6 : Int32) x_lastFault x_lastPlace pa_names pa_faultNumber pa_faultPlace rd_tape rd_length rd_end rd_next rd_sort rd_start rd_value rd_word to_unsurePair to_unsureYears to_triedPair to_seats to_slack to_sawInches to_quarrelChance to_people to_forkBits to_unsure to_tried to_triedFedBits tf_seatOf tf_one tf_other tf_kind tf_years tf_sawn tf_pairs tf_gone bd_unsurePair bd_unsureYears bd_triedPair bd_seats bd_slack bd_sawInches bd_quarrelChance bd_people bd_forkBits bd_unsure bd_tried bd_triedFedBits bf_seatOf bf_one bf_other bf_kind bf_years bf_sawn bf_pairs bf_gone nw_seatOf nw_one nw_other nw_kind nw_years nw_sawn nw_pairs nw_gone sc_seatOf sc_handle sc_both sc_slopOf sc_forkBits sc_canBits sc_bestBits sc_bestSlops sl_bits sl_count se_bestRow se_row se_pairAt se_hope se_hopeAt se_slopAt se_farBits se_gain se_worth se_bestWorth se_fresh ch_both ch_cost ch_bit ch_items ch_leastCost ch_leastBits cl_bits cl_count fi_sets fi_count ps_act ps_whom ps_amount ps_next ps_count i0_seatOf i0_one i0_other i0_kind i0_years i0_sawn i0_pairs i0_gone i1_seatOf i1_one i1_other i1_kind i1_years i1_sawn i1_pairs i1_gone i2_seatOf i2_one i2_other i2_kind i2_years i2_sawn i2_pairs i2_gone)) C G fX10_107 (wX_at0) rfl rfl (Nat.le_of_ble_eq_true rfl) wX_set_x_lastTrouble dX10_undo_13 (fun H locs G => ?_)
    refine lv_iconst (v := 0) hx hb dX10_undo_16 (by decide) ?_
    obtain rfl := Option.some.inj hf
    exact xI_ret (r := (0 : Int32)) C G rfl dX10_undo_17
set_option maxHeartbeats 4000000 in
set_option maxRecDepth 100000 in
theorem c_Now_takeFrom_i0_nw {l : Launch} {E : xE} {ad : Nat → Nat} {x_imageCount x_lastTrouble x_lastFault x_lastPlace pa_faultNumber pa_faultPlace rd_length rd_end rd_next rd_sort rd_start rd_value to_seats to_slack to_sawInches to_quarrelChance to_people to_forkBits to_unsure to_tried to_triedFedBits tf_pairs tf_gone bd_seats bd_slack bd_sawInches bd_quarrelChance bd_people bd_forkBits bd_unsure bd_tried bd_triedFedBits bf_pairs bf_gone nw_pairs nw_gone sc_forkBits sc_canBits sc_bestBits sc_bestSlops sl_count se_bestWorth se_fresh ch_items ch_leastCost ch_leastBits cl_count fi_count ps_next ps_count i0_pairs i0_gone i1_pairs i1_gone i2_pairs i2_gone : Int32} {pa_names : Nat → Int64} {rd_tape to_unsurePair to_unsureYears to_triedPair tf_seatOf tf_one tf_other tf_kind tf_years tf_sawn bd_unsurePair bd_unsureYears bd_triedPair bf_seatOf bf_one bf_other bf_kind bf_years bf_sawn nw_seatOf nw_one nw_other nw_kind nw_years nw_sawn sc_seatOf sc_handle sc_both sc_slopOf sl_bits se_bestRow se_row se_pairAt se_hope se_hopeAt se_slopAt se_farBits se_gain se_worth ch_both ch_cost ch_bit cl_bits fi_sets ps_act ps_whom ps_amount i0_seatOf i0_one i0_other i0_kind i0_years i0_sawn i1_seatOf i1_one i1_other i1_kind i1_years i1_sawn i2_seatOf i2_one i2_other i2_kind i2_years i2_sawn : Nat → Int32} {rd_word : Int64} {R0 : (Nat → Int32) × (Nat → Int32) × (Nat → Int32) × (Nat → Int32) × (Nat → Int32) × (Nat → Int32) × Int32 × Int32} (hf : f_Now_takeFrom nw_seatOf nw_one nw_other nw_kind nw_years nw_sawn nw_pairs nw_gone i0_seatOf i0_one i0_other i0_kind i0_years i0_sawn = some R0) : xV l E yX4_takeFrom cX4_takeFrom 2 none 1 60 [.ref (ad 64), .ref (ad 28)] (wX E ad x_imageCount x_lastTrouble x_lastFault x_lastPlace pa_names pa_faultNumber pa_faultPlace rd_tape rd_length rd_end rd_next rd_sort rd_start rd_value rd_word to_unsurePair to_unsureYears to_triedPair to_seats to_slack to_sawInches to_quarrelChance to_people to_forkBits to_unsure to_tried to_triedFedBits tf_seatOf tf_one tf_other tf_kind tf_years tf_sawn tf_pairs tf_gone bd_unsurePair bd_unsureYears bd_triedPair bd_seats bd_slack bd_sawInches bd_quarrelChance bd_people bd_forkBits bd_unsure bd_tried bd_triedFedBits bf_seatOf bf_one bf_other bf_kind bf_years bf_sawn bf_pairs bf_gone nw_seatOf nw_one nw_other nw_kind nw_years nw_sawn nw_pairs nw_gone sc_seatOf sc_handle sc_both sc_slopOf sc_forkBits sc_canBits sc_bestBits sc_bestSlops sl_bits sl_count se_bestRow se_row se_pairAt se_hope se_hopeAt se_slopAt se_farBits se_gain se_worth se_bestWorth se_fresh ch_both ch_cost ch_bit ch_items ch_leastCost ch_leastBits cl_bits cl_count fi_sets fi_count ps_act ps_whom ps_amount ps_next ps_count i0_seatOf i0_one i0_other i0_kind i0_years i0_sawn i0_pairs i0_gone i1_seatOf i1_one i1_other i1_kind i1_years i1_sawn i1_pairs i1_gone i2_seatOf i2_one i2_other i2_kind i2_years i2_sawn i2_pairs i2_gone) (wX E ad x_imageCount x_lastTrouble x_lastFault x_lastPlace pa_names pa_faultNumber pa_faultPlace rd_tape rd_length rd_end rd_next rd_sort rd_start rd_value rd_word to_unsurePair to_unsureYears to_triedPair to_seats to_slack to_sawInches to_quarrelChance to_people to_forkBits to_unsure to_tried to_triedFedBits tf_seatOf tf_one tf_other tf_kind tf_years tf_sawn tf_pairs tf_gone bd_unsurePair bd_unsureYears bd_triedPair bd_seats bd_slack bd_sawInches bd_quarrelChance bd_people bd_forkBits bd_unsure bd_tried bd_triedFedBits bf_seatOf bf_one bf_other bf_kind bf_years bf_sawn bf_pairs bf_gone nw_seatOf nw_one nw_other nw_kind nw_years nw_sawn nw_pairs nw_gone sc_seatOf sc_handle sc_both sc_slopOf sc_forkBits sc_canBits sc_bestBits sc_bestSlops sl_bits sl_count se_bestRow se_row se_pairAt se_hope se_hopeAt se_slopAt se_farBits se_gain se_worth se_bestWorth se_fresh ch_both ch_cost ch_bit ch_items ch_leastCost ch_leastBits cl_bits cl_count fi_sets fi_count ps_act ps_whom ps_amount ps_next ps_count R0.1 R0.2.1 R0.2.2.1 R0.2.2.2.1 R0.2.2.2.2.1 R0.2.2.2.2.2.1 R0.2.2.2.2.2.2.1 R0.2.2.2.2.2.2.2 i1_seatOf i1_one i1_other i1_kind i1_years i1_sawn i1_pairs i1_gone i2_seatOf i2_one i2_other i2_kind i2_years i2_sawn i2_pairs i2_gone) := by
  refine xV_of (by decide) (Nat.le_of_ble_eq_true rfl) (fun p e s m args below meth c A C ls hl G => ?_)
  have hx := C.1
  have hb := C.2.1
  have hl : lv_has ls 2 [(0, .ref (ad 64)), (1, .ref (ad 28))] := hl
  unfold f_Now_takeFrom at hf
  refine lv_aload_n hx hb dX4_takeFrom_0 rfl (lv_at hl 1 rfl) ?_
  refine x_get C G fX4_9 (wX_at28) rfl dX4_takeFrom_1 ?_
  refine lv_iconst (v := 0) hx hb dX4_takeFrom_4 (by decide) ?_
  refine lv_aload_n hx hb dX4_takeFrom_5 rfl (lv_at hl 0 rfl) ?_
  refine x_get C G fX4_9 (wX_at64) rfl dX4_takeFrom_6 ?_
  refine lv_iconst (v := 0) hx hb dX4_takeFrom_9 (by decide) ?_
  refine lv_iconst (v := 5) hx hb dX4_takeFrom_10 (by decide) ?_
  refine x_copyi (ws' := (wX E ad x_imageCount x_lastTrouble x_lastFault x_lastPlace pa_names pa_faultNumber pa_faultPlace rd_tape rd_length rd_end rd_next rd_sort rd_start rd_value rd_word to_unsurePair to_unsureYears to_triedPair to_seats to_slack to_sawInches to_quarrelChance to_people to_forkBits to_unsure to_tried to_triedFedBits tf_seatOf tf_one tf_other tf_kind tf_years tf_sawn tf_pairs tf_gone bd_unsurePair bd_unsureYears bd_triedPair bd_seats bd_slack bd_sawInches bd_quarrelChance bd_people bd_forkBits bd_unsure bd_tried bd_triedFedBits bf_seatOf bf_one bf_other bf_kind bf_years bf_sawn bf_pairs bf_gone nw_seatOf nw_one nw_other nw_kind nw_years nw_sawn nw_pairs nw_gone sc_seatOf sc_handle sc_both sc_slopOf sc_forkBits sc_canBits sc_bestBits sc_bestSlops sl_bits sl_count se_bestRow se_row se_pairAt se_hope se_hopeAt se_slopAt se_farBits se_gain se_worth se_bestWorth se_fresh ch_both ch_cost ch_bit ch_items ch_leastCost ch_leastBits cl_bits cl_count fi_sets fi_count ps_act ps_whom ps_amount ps_next ps_count (va_cpy nw_seatOf i0_seatOf 0 0 5) i0_one i0_other i0_kind i0_years i0_sawn i0_pairs i0_gone i1_seatOf i1_one i1_other i1_kind i1_years i1_sawn i1_pairs i1_gone i2_seatOf i2_one i2_other i2_kind i2_years i2_sawn i2_pairs i2_gone)) C G kX4_30 kSys_nat kSys_st kSys_in hl.1 (wX_at29) (wX_at65) (by decide) (by decide) (by decide) (Nat.le_of_ble_eq_true rfl) (Nat.le_of_ble_eq_true rfl) wX_set_i0_seatOf (Nat.le_of_ble_eq_true rfl) (Nat.le_of_ble_eq_true rfl) dX4_takeFrom_11 (fun H locs G => ?_)
  refine lv_aload_n hx hb dX4_takeFrom_14 rfl (lv_at hl 1 rfl) ?_
  refine x_get C G fX4_15 (wX_at28) rfl dX4_takeFrom_15 ?_
  refine lv_iconst (v := 0) hx hb dX4_takeFrom_18 (by decide) ?_
  refine lv_aload_n hx hb dX4_takeFrom_19 rfl (lv_at hl 0 rfl) ?_
  refine x_get C G fX4_15 (wX_at64) rfl dX4_takeFrom_20 ?_
  refine lv_iconst (v := 0) hx hb dX4_takeFrom_23 (by decide) ?_
  refine lv_bipush (v := 10) hx hb dX4_takeFrom_24 (by decide) ?_
  refine x_copyi (ws' := (wX E ad x_imageCount x_lastTrouble x_lastFault x_lastPlace pa_names pa_faultNumber pa_faultPlace rd_tape rd_length rd_end rd_next rd_sort rd_start rd_value rd_word to_unsurePair to_unsureYears to_triedPair to_seats to_slack to_sawInches to_quarrelChance to_people to_forkBits to_unsure to_tried to_triedFedBits tf_seatOf tf_one tf_other tf_kind tf_years tf_sawn tf_pairs tf_gone bd_unsurePair bd_unsureYears bd_triedPair bd_seats bd_slack bd_sawInches bd_quarrelChance bd_people bd_forkBits bd_unsure bd_tried bd_triedFedBits bf_seatOf bf_one bf_other bf_kind bf_years bf_sawn bf_pairs bf_gone nw_seatOf nw_one nw_other nw_kind nw_years nw_sawn nw_pairs nw_gone sc_seatOf sc_handle sc_both sc_slopOf sc_forkBits sc_canBits sc_bestBits sc_bestSlops sl_bits sl_count se_bestRow se_row se_pairAt se_hope se_hopeAt se_slopAt se_farBits se_gain se_worth se_bestWorth se_fresh ch_both ch_cost ch_bit ch_items ch_leastCost ch_leastBits cl_bits cl_count fi_sets fi_count ps_act ps_whom ps_amount ps_next ps_count (va_cpy nw_seatOf i0_seatOf 0 0 5) (va_cpy nw_one i0_one 0 0 10) i0_other i0_kind i0_years i0_sawn i0_pairs i0_gone i1_seatOf i1_one i1_other i1_kind i1_years i1_sawn i1_pairs i1_gone i2_seatOf i2_one i2_other i2_kind i2_years i2_sawn i2_pairs i2_gone)) C G kX4_30 kSys_nat kSys_st kSys_in hl.1 (wX_at30) (wX_at66) (by decide) (by decide) (by decide) (Nat.le_of_ble_eq_true rfl) (Nat.le_of_ble_eq_true rfl) wX_set_i0_one (Nat.le_of_ble_eq_true rfl) (Nat.le_of_ble_eq_true rfl) dX4_takeFrom_26 (fun H locs G => ?_)
  refine lv_aload_n hx hb dX4_takeFrom_29 rfl (lv_at hl 1 rfl) ?_
  refine x_get C G fX4_18 (wX_at28) rfl dX4_takeFrom_30 ?_
  refine lv_iconst (v := 0) hx hb dX4_takeFrom_33 (by decide) ?_
  refine lv_aload_n hx hb dX4_takeFrom_34 rfl (lv_at hl 0 rfl) ?_
  refine x_get C G fX4_18 (wX_at64) rfl dX4_takeFrom_35 ?_
  refine lv_iconst (v := 0) hx hb dX4_takeFrom_38 (by decide) ?_
  refine lv_bipush (v := 10) hx hb dX4_takeFrom_39 (by decide) ?_
  refine x_copyi (ws' := (wX E ad x_imageCount x_lastTrouble x_lastFault x_lastPlace pa_names pa_faultNumber pa_faultPlace rd_tape rd_length rd_end rd_next rd_sort rd_start rd_value rd_word to_unsurePair to_unsureYears to_triedPair to_seats to_slack to_sawInches to_quarrelChance to_people to_forkBits to_unsure to_tried to_triedFedBits tf_seatOf tf_one tf_other tf_kind tf_years tf_sawn tf_pairs tf_gone bd_unsurePair bd_unsureYears bd_triedPair bd_seats bd_slack bd_sawInches bd_quarrelChance bd_people bd_forkBits bd_unsure bd_tried bd_triedFedBits bf_seatOf bf_one bf_other bf_kind bf_years bf_sawn bf_pairs bf_gone nw_seatOf nw_one nw_other nw_kind nw_years nw_sawn nw_pairs nw_gone sc_seatOf sc_handle sc_both sc_slopOf sc_forkBits sc_canBits sc_bestBits sc_bestSlops sl_bits sl_count se_bestRow se_row se_pairAt se_hope se_hopeAt se_slopAt se_farBits se_gain se_worth se_bestWorth se_fresh ch_both ch_cost ch_bit ch_items ch_leastCost ch_leastBits cl_bits cl_count fi_sets fi_count ps_act ps_whom ps_amount ps_next ps_count (va_cpy nw_seatOf i0_seatOf 0 0 5) (va_cpy nw_one i0_one 0 0 10) (va_cpy nw_other i0_other 0 0 10) i0_kind i0_years i0_sawn i0_pairs i0_gone i1_seatOf i1_one i1_other i1_kind i1_years i1_sawn i1_pairs i1_gone i2_seatOf i2_one i2_other i2_kind i2_years i2_sawn i2_pairs i2_gone)) C G kX4_30 kSys_nat kSys_st kSys_in hl.1 (wX_at31) (wX_at67) (by decide) (by decide) (by decide) (Nat.le_of_ble_eq_true rfl) (Nat.le_of_ble_eq_true rfl) wX_set_i0_other (Nat.le_of_ble_eq_true rfl) (Nat.le_of_ble_eq_true rfl) dX4_takeFrom_41 (fun H locs G => ?_)
  refine lv_aload_n hx hb dX4_takeFrom_44 rfl (lv_at hl 1 rfl) ?_
  refine x_get C G fX4_21 (wX_at28) rfl dX4_takeFrom_45 ?_
  refine lv_iconst (v := 0) hx hb dX4_takeFrom_48 (by decide) ?_
  refine lv_aload_n hx hb dX4_takeFrom_49 rfl (lv_at hl 0 rfl) ?_
  refine x_get C G fX4_21 (wX_at64) rfl dX4_takeFrom_50 ?_
  refine lv_iconst (v := 0) hx hb dX4_takeFrom_53 (by decide) ?_
  refine lv_bipush (v := 10) hx hb dX4_takeFrom_54 (by decide) ?_
  refine x_copyi (ws' := (wX E ad x_imageCount x_lastTrouble x_lastFault x_lastPlace pa_names pa_faultNumber pa_faultPlace rd_tape rd_length rd_end rd_next rd_sort rd_start rd_value rd_word to_unsurePair to_unsureYears to_triedPair to_seats to_slack to_sawInches to_quarrelChance to_people to_forkBits to_unsure to_tried to_triedFedBits tf_seatOf tf_one tf_other tf_kind tf_years tf_sawn tf_pairs tf_gone bd_unsurePair bd_unsureYears bd_triedPair bd_seats bd_slack bd_sawInches bd_quarrelChance bd_people bd_forkBits bd_unsure bd_tried bd_triedFedBits bf_seatOf bf_one bf_other bf_kind bf_years bf_sawn bf_pairs bf_gone nw_seatOf nw_one nw_other nw_kind nw_years nw_sawn nw_pairs nw_gone sc_seatOf sc_handle sc_both sc_slopOf sc_forkBits sc_canBits sc_bestBits sc_bestSlops sl_bits sl_count se_bestRow se_row se_pairAt se_hope se_hopeAt se_slopAt se_farBits se_gain se_worth se_bestWorth se_fresh ch_both ch_cost ch_bit ch_items ch_leastCost ch_leastBits cl_bits cl_count fi_sets fi_count ps_act ps_whom ps_amount ps_next ps_count (va_cpy nw_seatOf i0_seatOf 0 0 5) (va_cpy nw_one i0_one 0 0 10) (va_cpy nw_other i0_other 0 0 10) (va_cpy nw_kind i0_kind 0 0 10) i0_years i0_sawn i0_pairs i0_gone i1_seatOf i1_one i1_other i1_kind i1_years i1_sawn i1_pairs i1_gone i2_seatOf i2_one i2_other i2_kind i2_years i2_sawn i2_pairs i2_gone)) C G kX4_30 kSys_nat kSys_st kSys_in hl.1 (wX_at32) (wX_at68) (by decide) (by decide) (by decide) (Nat.le_of_ble_eq_true rfl) (Nat.le_of_ble_eq_true rfl) wX_set_i0_kind (Nat.le_of_ble_eq_true rfl) (Nat.le_of_ble_eq_true rfl) dX4_takeFrom_56 (fun H locs G => ?_)
  refine lv_aload_n hx hb dX4_takeFrom_59 rfl (lv_at hl 1 rfl) ?_
  refine x_get C G fX4_24 (wX_at28) rfl dX4_takeFrom_60 ?_
  refine lv_iconst (v := 0) hx hb dX4_takeFrom_63 (by decide) ?_
  refine lv_aload_n hx hb dX4_takeFrom_64 rfl (lv_at hl 0 rfl) ?_
  refine x_get C G fX4_24 (wX_at64) rfl dX4_takeFrom_65 ?_
  refine lv_iconst (v := 0) hx hb dX4_takeFrom_68 (by decide) ?_
  refine lv_bipush (v := 10) hx hb dX4_takeFrom_69 (by decide) ?_
  refine x_copyi (ws' := (wX E ad x_imageCount x_lastTrouble x_lastFault x_lastPlace pa_names pa_faultNumber pa_faultPlace rd_tape rd_length rd_end rd_next rd_sort rd_start rd_value rd_word to_unsurePair to_unsureYears to_triedPair to_seats to_slack to_sawInches to_quarrelChance to_people to_forkBits to_unsure to_tried to_triedFedBits tf_seatOf tf_one tf_other tf_kind tf_years tf_sawn tf_pairs tf_gone bd_unsurePair bd_unsureYears bd_triedPair bd_seats bd_slack bd_sawInches bd_quarrelChance bd_people bd_forkBits bd_unsure bd_tried bd_triedFedBits bf_seatOf bf_one bf_other bf_kind bf_years bf_sawn bf_pairs bf_gone nw_seatOf nw_one nw_other nw_kind nw_years nw_sawn nw_pairs nw_gone sc_seatOf sc_handle sc_both sc_slopOf sc_forkBits sc_canBits sc_bestBits sc_bestSlops sl_bits sl_count se_bestRow se_row se_pairAt se_hope se_hopeAt se_slopAt se_farBits se_gain se_worth se_bestWorth se_fresh ch_both ch_cost ch_bit ch_items ch_leastCost ch_leastBits cl_bits cl_count fi_sets fi_count ps_act ps_whom ps_amount ps_next ps_count (va_cpy nw_seatOf i0_seatOf 0 0 5) (va_cpy nw_one i0_one 0 0 10) (va_cpy nw_other i0_other 0 0 10) (va_cpy nw_kind i0_kind 0 0 10) (va_cpy nw_years i0_years 0 0 10) i0_sawn i0_pairs i0_gone i1_seatOf i1_one i1_other i1_kind i1_years i1_sawn i1_pairs i1_gone i2_seatOf i2_one i2_other i2_kind i2_years i2_sawn i2_pairs i2_gone)) C G kX4_30 kSys_nat kSys_st kSys_in hl.1 (wX_at33) (wX_at69) (by decide) (by decide) (by decide) (Nat.le_of_ble_eq_true rfl) (Nat.le_of_ble_eq_true rfl) wX_set_i0_years (Nat.le_of_ble_eq_true rfl) (Nat.le_of_ble_eq_true rfl) dX4_takeFrom_71 (fun H locs G => ?_)
  refine lv_aload_n hx hb dX4_takeFrom_74 rfl (lv_at hl 1 rfl) ?_
  refine x_get C G fX4_27 (wX_at28) rfl dX4_takeFrom_75 ?_
  refine lv_iconst (v := 0) hx hb dX4_takeFrom_78 (by decide) ?_
  refine lv_aload_n hx hb dX4_takeFrom_79 rfl (lv_at hl 0 rfl) ?_
  refine x_get C G fX4_27 (wX_at64) rfl dX4_takeFrom_80 ?_
  refine lv_iconst (v := 0) hx hb dX4_takeFrom_83 (by decide) ?_
  refine lv_bipush (v := 10) hx hb dX4_takeFrom_84 (by decide) ?_
  refine x_copyi (ws' := (wX E ad x_imageCount x_lastTrouble x_lastFault x_lastPlace pa_names pa_faultNumber pa_faultPlace rd_tape rd_length rd_end rd_next rd_sort rd_start rd_value rd_word to_unsurePair to_unsureYears to_triedPair to_seats to_slack to_sawInches to_quarrelChance to_people to_forkBits to_unsure to_tried to_triedFedBits tf_seatOf tf_one tf_other tf_kind tf_years tf_sawn tf_pairs tf_gone bd_unsurePair bd_unsureYears bd_triedPair bd_seats bd_slack bd_sawInches bd_quarrelChance bd_people bd_forkBits bd_unsure bd_tried bd_triedFedBits bf_seatOf bf_one bf_other bf_kind bf_years bf_sawn bf_pairs bf_gone nw_seatOf nw_one nw_other nw_kind nw_years nw_sawn nw_pairs nw_gone sc_seatOf sc_handle sc_both sc_slopOf sc_forkBits sc_canBits sc_bestBits sc_bestSlops sl_bits sl_count se_bestRow se_row se_pairAt se_hope se_hopeAt se_slopAt se_farBits se_gain se_worth se_bestWorth se_fresh ch_both ch_cost ch_bit ch_items ch_leastCost ch_leastBits cl_bits cl_count fi_sets fi_count ps_act ps_whom ps_amount ps_next ps_count (va_cpy nw_seatOf i0_seatOf 0 0 5) (va_cpy nw_one i0_one 0 0 10) (va_cpy nw_other i0_other 0 0 10) (va_cpy nw_kind i0_kind 0 0 10) (va_cpy nw_years i0_years 0 0 10) (va_cpy nw_sawn i0_sawn 0 0 10) i0_pairs i0_gone i1_seatOf i1_one i1_other i1_kind i1_years i1_sawn i1_pairs i1_gone i2_seatOf i2_one i2_other i2_kind i2_years i2_sawn i2_pairs i2_gone)) C G kX4_30 kSys_nat kSys_st kSys_in hl.1 (wX_at34) (wX_at70) (by decide) (by decide) (by decide) (Nat.le_of_ble_eq_true rfl) (Nat.le_of_ble_eq_true rfl) wX_set_i0_sawn (Nat.le_of_ble_eq_true rfl) (Nat.le_of_ble_eq_true rfl) dX4_takeFrom_86 (fun H locs G => ?_)
  refine lv_aload_n hx hb dX4_takeFrom_89 rfl (lv_at hl 0 rfl) ?_
  refine lv_aload_n hx hb dX4_takeFrom_90 rfl (lv_at hl 1 rfl) ?_
  refine x_get C G fX4_36.g (wX_at28) rfl dX4_takeFrom_91 ?_
  refine x_put (ws' := (wX E ad x_imageCount x_lastTrouble x_lastFault x_lastPlace pa_names pa_faultNumber pa_faultPlace rd_tape rd_length rd_end rd_next rd_sort rd_start rd_value rd_word to_unsurePair to_unsureYears to_triedPair to_seats to_slack to_sawInches to_quarrelChance to_people to_forkBits to_unsure to_tried to_triedFedBits tf_seatOf tf_one tf_other tf_kind tf_years tf_sawn tf_pairs tf_gone bd_unsurePair bd_unsureYears bd_triedPair bd_seats bd_slack bd_sawInches bd_quarrelChance bd_people bd_forkBits bd_unsure bd_tried bd_triedFedBits bf_seatOf bf_one bf_other bf_kind bf_years bf_sawn bf_pairs bf_gone nw_seatOf nw_one nw_other nw_kind nw_years nw_sawn nw_pairs nw_gone sc_seatOf sc_handle sc_both sc_slopOf sc_forkBits sc_canBits sc_bestBits sc_bestSlops sl_bits sl_count se_bestRow se_row se_pairAt se_hope se_hopeAt se_slopAt se_farBits se_gain se_worth se_bestWorth se_fresh ch_both ch_cost ch_bit ch_items ch_leastCost ch_leastBits cl_bits cl_count fi_sets fi_count ps_act ps_whom ps_amount ps_next ps_count (va_cpy nw_seatOf i0_seatOf 0 0 5) (va_cpy nw_one i0_one 0 0 10) (va_cpy nw_other i0_other 0 0 10) (va_cpy nw_kind i0_kind 0 0 10) (va_cpy nw_years i0_years 0 0 10) (va_cpy nw_sawn i0_sawn 0 0 10) nw_pairs i0_gone i1_seatOf i1_one i1_other i1_kind i1_years i1_sawn i1_pairs i1_gone i2_seatOf i2_one i2_other i2_kind i2_years i2_sawn i2_pairs i2_gone)) C G fX4_36 (wX_at64) rfl rfl (Nat.le_of_ble_eq_true rfl) wX_set_i0_pairs dX4_takeFrom_94 (fun H locs G => ?_)
  refine lv_aload_n hx hb dX4_takeFrom_97 rfl (lv_at hl 0 rfl) ?_
  refine lv_aload_n hx hb dX4_takeFrom_98 rfl (lv_at hl 1 rfl) ?_
  refine x_get C G fX4_40.g (wX_at28) rfl dX4_takeFrom_99 ?_
  refine x_put (ws' := (wX E ad x_imageCount x_lastTrouble x_lastFault x_lastPlace pa_names pa_faultNumber pa_faultPlace rd_tape rd_length rd_end rd_next rd_sort rd_start rd_value rd_word to_unsurePair to_unsureYears to_triedPair to_seats to_slack to_sawInches to_quarrelChance to_people to_forkBits to_unsure to_tried to_triedFedBits tf_seatOf tf_one tf_other tf_kind tf_years tf_sawn tf_pairs tf_gone bd_unsurePair bd_unsureYears bd_triedPair bd_seats bd_slack bd_sawInches bd_quarrelChance bd_people bd_forkBits bd_unsure bd_tried bd_triedFedBits bf_seatOf bf_one bf_other bf_kind bf_years bf_sawn bf_pairs bf_gone nw_seatOf nw_one nw_other nw_kind nw_years nw_sawn nw_pairs nw_gone sc_seatOf sc_handle sc_both sc_slopOf sc_forkBits sc_canBits sc_bestBits sc_bestSlops sl_bits sl_count se_bestRow se_row se_pairAt se_hope se_hopeAt se_slopAt se_farBits se_gain se_worth se_bestWorth se_fresh ch_both ch_cost ch_bit ch_items ch_leastCost ch_leastBits cl_bits cl_count fi_sets fi_count ps_act ps_whom ps_amount ps_next ps_count (va_cpy nw_seatOf i0_seatOf 0 0 5) (va_cpy nw_one i0_one 0 0 10) (va_cpy nw_other i0_other 0 0 10) (va_cpy nw_kind i0_kind 0 0 10) (va_cpy nw_years i0_years 0 0 10) (va_cpy nw_sawn i0_sawn 0 0 10) nw_pairs nw_gone i1_seatOf i1_one i1_other i1_kind i1_years i1_sawn i1_pairs i1_gone i2_seatOf i2_one i2_other i2_kind i2_years i2_sawn i2_pairs i2_gone)) C G fX4_40 (wX_at64) rfl rfl (Nat.le_of_ble_eq_true rfl) wX_set_i0_gone dX4_takeFrom_102 (fun H locs G => ?_)
  obtain rfl := Option.some.inj hf
  exact xV_ret C G dX4_takeFrom_105
set_option maxHeartbeats 4000000 in
set_option maxRecDepth 100000 in
theorem c_Now_takeFrom_i1_nw {l : Launch} {E : xE} {ad : Nat → Nat} {x_imageCount x_lastTrouble x_lastFault x_lastPlace pa_faultNumber pa_faultPlace rd_length rd_end rd_next rd_sort rd_start rd_value to_seats to_slack to_sawInches to_quarrelChance to_people to_forkBits to_unsure to_tried to_triedFedBits tf_pairs tf_gone bd_seats bd_slack bd_sawInches bd_quarrelChance bd_people bd_forkBits bd_unsure bd_tried bd_triedFedBits bf_pairs bf_gone nw_pairs nw_gone sc_forkBits sc_canBits sc_bestBits sc_bestSlops sl_count se_bestWorth se_fresh ch_items ch_leastCost ch_leastBits cl_count fi_count ps_next ps_count i0_pairs i0_gone i1_pairs i1_gone i2_pairs i2_gone : Int32} {pa_names : Nat → Int64} {rd_tape to_unsurePair to_unsureYears to_triedPair tf_seatOf tf_one tf_other tf_kind tf_years tf_sawn bd_unsurePair bd_unsureYears bd_triedPair bf_seatOf bf_one bf_other bf_kind bf_years bf_sawn nw_seatOf nw_one nw_other nw_kind nw_years nw_sawn sc_seatOf sc_handle sc_both sc_slopOf sl_bits se_bestRow se_row se_pairAt se_hope se_hopeAt se_slopAt se_farBits se_gain se_worth ch_both ch_cost ch_bit cl_bits fi_sets ps_act ps_whom ps_amount i0_seatOf i0_one i0_other i0_kind i0_years i0_sawn i1_seatOf i1_one i1_other i1_kind i1_years i1_sawn i2_seatOf i2_one i2_other i2_kind i2_years i2_sawn : Nat → Int32} {rd_word : Int64} {R0 : (Nat → Int32) × (Nat → Int32) × (Nat → Int32) × (Nat → Int32) × (Nat → Int32) × (Nat → Int32) × Int32 × Int32} (hf : f_Now_takeFrom nw_seatOf nw_one nw_other nw_kind nw_years nw_sawn nw_pairs nw_gone i1_seatOf i1_one i1_other i1_kind i1_years i1_sawn = some R0) : xV l E yX4_takeFrom cX4_takeFrom 2 none 1 60 [.ref (ad 71), .ref (ad 28)] (wX E ad x_imageCount x_lastTrouble x_lastFault x_lastPlace pa_names pa_faultNumber pa_faultPlace rd_tape rd_length rd_end rd_next rd_sort rd_start rd_value rd_word to_unsurePair to_unsureYears to_triedPair to_seats to_slack to_sawInches to_quarrelChance to_people to_forkBits to_unsure to_tried to_triedFedBits tf_seatOf tf_one tf_other tf_kind tf_years tf_sawn tf_pairs tf_gone bd_unsurePair bd_unsureYears bd_triedPair bd_seats bd_slack bd_sawInches bd_quarrelChance bd_people bd_forkBits bd_unsure bd_tried bd_triedFedBits bf_seatOf bf_one bf_other bf_kind bf_years bf_sawn bf_pairs bf_gone nw_seatOf nw_one nw_other nw_kind nw_years nw_sawn nw_pairs nw_gone sc_seatOf sc_handle sc_both sc_slopOf sc_forkBits sc_canBits sc_bestBits sc_bestSlops sl_bits sl_count se_bestRow se_row se_pairAt se_hope se_hopeAt se_slopAt se_farBits se_gain se_worth se_bestWorth se_fresh ch_both ch_cost ch_bit ch_items ch_leastCost ch_leastBits cl_bits cl_count fi_sets fi_count ps_act ps_whom ps_amount ps_next ps_count i0_seatOf i0_one i0_other i0_kind i0_years i0_sawn i0_pairs i0_gone i1_seatOf i1_one i1_other i1_kind i1_years i1_sawn i1_pairs i1_gone i2_seatOf i2_one i2_other i2_kind i2_years i2_sawn i2_pairs i2_gone) (wX E ad x_imageCount x_lastTrouble x_lastFault x_lastPlace pa_names pa_faultNumber pa_faultPlace rd_tape rd_length rd_end rd_next rd_sort rd_start rd_value rd_word to_unsurePair to_unsureYears to_triedPair to_seats to_slack to_sawInches to_quarrelChance to_people to_forkBits to_unsure to_tried to_triedFedBits tf_seatOf tf_one tf_other tf_kind tf_years tf_sawn tf_pairs tf_gone bd_unsurePair bd_unsureYears bd_triedPair bd_seats bd_slack bd_sawInches bd_quarrelChance bd_people bd_forkBits bd_unsure bd_tried bd_triedFedBits bf_seatOf bf_one bf_other bf_kind bf_years bf_sawn bf_pairs bf_gone nw_seatOf nw_one nw_other nw_kind nw_years nw_sawn nw_pairs nw_gone sc_seatOf sc_handle sc_both sc_slopOf sc_forkBits sc_canBits sc_bestBits sc_bestSlops sl_bits sl_count se_bestRow se_row se_pairAt se_hope se_hopeAt se_slopAt se_farBits se_gain se_worth se_bestWorth se_fresh ch_both ch_cost ch_bit ch_items ch_leastCost ch_leastBits cl_bits cl_count fi_sets fi_count ps_act ps_whom ps_amount ps_next ps_count i0_seatOf i0_one i0_other i0_kind i0_years i0_sawn i0_pairs i0_gone R0.1 R0.2.1 R0.2.2.1 R0.2.2.2.1 R0.2.2.2.2.1 R0.2.2.2.2.2.1 R0.2.2.2.2.2.2.1 R0.2.2.2.2.2.2.2 i2_seatOf i2_one i2_other i2_kind i2_years i2_sawn i2_pairs i2_gone) := by
  refine xV_of (by decide) (Nat.le_of_ble_eq_true rfl) (fun p e s m args below meth c A C ls hl G => ?_)
  have hx := C.1
  have hb := C.2.1
  have hl : lv_has ls 2 [(0, .ref (ad 71)), (1, .ref (ad 28))] := hl
  unfold f_Now_takeFrom at hf
  refine lv_aload_n hx hb dX4_takeFrom_0 rfl (lv_at hl 1 rfl) ?_
  refine x_get C G fX4_9 (wX_at28) rfl dX4_takeFrom_1 ?_
  refine lv_iconst (v := 0) hx hb dX4_takeFrom_4 (by decide) ?_
  refine lv_aload_n hx hb dX4_takeFrom_5 rfl (lv_at hl 0 rfl) ?_
  refine x_get C G fX4_9 (wX_at71) rfl dX4_takeFrom_6 ?_
  refine lv_iconst (v := 0) hx hb dX4_takeFrom_9 (by decide) ?_
  refine lv_iconst (v := 5) hx hb dX4_takeFrom_10 (by decide) ?_
  refine x_copyi (ws' := (wX E ad x_imageCount x_lastTrouble x_lastFault x_lastPlace pa_names pa_faultNumber pa_faultPlace rd_tape rd_length rd_end rd_next rd_sort rd_start rd_value rd_word to_unsurePair to_unsureYears to_triedPair to_seats to_slack to_sawInches to_quarrelChance to_people to_forkBits to_unsure to_tried to_triedFedBits tf_seatOf tf_one tf_other tf_kind tf_years tf_sawn tf_pairs tf_gone bd_unsurePair bd_unsureYears bd_triedPair bd_seats bd_slack bd_sawInches bd_quarrelChance bd_people bd_forkBits bd_unsure bd_tried bd_triedFedBits bf_seatOf bf_one bf_other bf_kind bf_years bf_sawn bf_pairs bf_gone nw_seatOf nw_one nw_other nw_kind nw_years nw_sawn nw_pairs nw_gone sc_seatOf sc_handle sc_both sc_slopOf sc_forkBits sc_canBits sc_bestBits sc_bestSlops sl_bits sl_count se_bestRow se_row se_pairAt se_hope se_hopeAt se_slopAt se_farBits se_gain se_worth se_bestWorth se_fresh ch_both ch_cost ch_bit ch_items ch_leastCost ch_leastBits cl_bits cl_count fi_sets fi_count ps_act ps_whom ps_amount ps_next ps_count i0_seatOf i0_one i0_other i0_kind i0_years i0_sawn i0_pairs i0_gone (va_cpy nw_seatOf i1_seatOf 0 0 5) i1_one i1_other i1_kind i1_years i1_sawn i1_pairs i1_gone i2_seatOf i2_one i2_other i2_kind i2_years i2_sawn i2_pairs i2_gone)) C G kX4_30 kSys_nat kSys_st kSys_in hl.1 (wX_at29) (wX_at72) (by decide) (by decide) (by decide) (Nat.le_of_ble_eq_true rfl) (Nat.le_of_ble_eq_true rfl) wX_set_i1_seatOf (Nat.le_of_ble_eq_true rfl) (Nat.le_of_ble_eq_true rfl) dX4_takeFrom_11 (fun H locs G => ?_)
  refine lv_aload_n hx hb dX4_takeFrom_14 rfl (lv_at hl 1 rfl) ?_
  refine x_get C G fX4_15 (wX_at28) rfl dX4_takeFrom_15 ?_
  refine lv_iconst (v := 0) hx hb dX4_takeFrom_18 (by decide) ?_
  refine lv_aload_n hx hb dX4_takeFrom_19 rfl (lv_at hl 0 rfl) ?_
  refine x_get C G fX4_15 (wX_at71) rfl dX4_takeFrom_20 ?_
  refine lv_iconst (v := 0) hx hb dX4_takeFrom_23 (by decide) ?_
  refine lv_bipush (v := 10) hx hb dX4_takeFrom_24 (by decide) ?_
  refine x_copyi (ws' := (wX E ad x_imageCount x_lastTrouble x_lastFault x_lastPlace pa_names pa_faultNumber pa_faultPlace rd_tape rd_length rd_end rd_next rd_sort rd_start rd_value rd_word to_unsurePair to_unsureYears to_triedPair to_seats to_slack to_sawInches to_quarrelChance to_people to_forkBits to_unsure to_tried to_triedFedBits tf_seatOf tf_one tf_other tf_kind tf_years tf_sawn tf_pairs tf_gone bd_unsurePair bd_unsureYears bd_triedPair bd_seats bd_slack bd_sawInches bd_quarrelChance bd_people bd_forkBits bd_unsure bd_tried bd_triedFedBits bf_seatOf bf_one bf_other bf_kind bf_years bf_sawn bf_pairs bf_gone nw_seatOf nw_one nw_other nw_kind nw_years nw_sawn nw_pairs nw_gone sc_seatOf sc_handle sc_both sc_slopOf sc_forkBits sc_canBits sc_bestBits sc_bestSlops sl_bits sl_count se_bestRow se_row se_pairAt se_hope se_hopeAt se_slopAt se_farBits se_gain se_worth se_bestWorth se_fresh ch_both ch_cost ch_bit ch_items ch_leastCost ch_leastBits cl_bits cl_count fi_sets fi_count ps_act ps_whom ps_amount ps_next ps_count i0_seatOf i0_one i0_other i0_kind i0_years i0_sawn i0_pairs i0_gone (va_cpy nw_seatOf i1_seatOf 0 0 5) (va_cpy nw_one i1_one 0 0 10) i1_other i1_kind i1_years i1_sawn i1_pairs i1_gone i2_seatOf i2_one i2_other i2_kind i2_years i2_sawn i2_pairs i2_gone)) C G kX4_30 kSys_nat kSys_st kSys_in hl.1 (wX_at30) (wX_at73) (by decide) (by decide) (by decide) (Nat.le_of_ble_eq_true rfl) (Nat.le_of_ble_eq_true rfl) wX_set_i1_one (Nat.le_of_ble_eq_true rfl) (Nat.le_of_ble_eq_true rfl) dX4_takeFrom_26 (fun H locs G => ?_)
  refine lv_aload_n hx hb dX4_takeFrom_29 rfl (lv_at hl 1 rfl) ?_
  refine x_get C G fX4_18 (wX_at28) rfl dX4_takeFrom_30 ?_
  refine lv_iconst (v := 0) hx hb dX4_takeFrom_33 (by decide) ?_
  refine lv_aload_n hx hb dX4_takeFrom_34 rfl (lv_at hl 0 rfl) ?_
  refine x_get C G fX4_18 (wX_at71) rfl dX4_takeFrom_35 ?_
  refine lv_iconst (v := 0) hx hb dX4_takeFrom_38 (by decide) ?_
  refine lv_bipush (v := 10) hx hb dX4_takeFrom_39 (by decide) ?_
  refine x_copyi (ws' := (wX E ad x_imageCount x_lastTrouble x_lastFault x_lastPlace pa_names pa_faultNumber pa_faultPlace rd_tape rd_length rd_end rd_next rd_sort rd_start rd_value rd_word to_unsurePair to_unsureYears to_triedPair to_seats to_slack to_sawInches to_quarrelChance to_people to_forkBits to_unsure to_tried to_triedFedBits tf_seatOf tf_one tf_other tf_kind tf_years tf_sawn tf_pairs tf_gone bd_unsurePair bd_unsureYears bd_triedPair bd_seats bd_slack bd_sawInches bd_quarrelChance bd_people bd_forkBits bd_unsure bd_tried bd_triedFedBits bf_seatOf bf_one bf_other bf_kind bf_years bf_sawn bf_pairs bf_gone nw_seatOf nw_one nw_other nw_kind nw_years nw_sawn nw_pairs nw_gone sc_seatOf sc_handle sc_both sc_slopOf sc_forkBits sc_canBits sc_bestBits sc_bestSlops sl_bits sl_count se_bestRow se_row se_pairAt se_hope se_hopeAt se_slopAt se_farBits se_gain se_worth se_bestWorth se_fresh ch_both ch_cost ch_bit ch_items ch_leastCost ch_leastBits cl_bits cl_count fi_sets fi_count ps_act ps_whom ps_amount ps_next ps_count i0_seatOf i0_one i0_other i0_kind i0_years i0_sawn i0_pairs i0_gone (va_cpy nw_seatOf i1_seatOf 0 0 5) (va_cpy nw_one i1_one 0 0 10) (va_cpy nw_other i1_other 0 0 10) i1_kind i1_years i1_sawn i1_pairs i1_gone i2_seatOf i2_one i2_other i2_kind i2_years i2_sawn i2_pairs i2_gone)) C G kX4_30 kSys_nat kSys_st kSys_in hl.1 (wX_at31) (wX_at74) (by decide) (by decide) (by decide) (Nat.le_of_ble_eq_true rfl) (Nat.le_of_ble_eq_true rfl) wX_set_i1_other (Nat.le_of_ble_eq_true rfl) (Nat.le_of_ble_eq_true rfl) dX4_takeFrom_41 (fun H locs G => ?_)
  refine lv_aload_n hx hb dX4_takeFrom_44 rfl (lv_at hl 1 rfl) ?_
  refine x_get C G fX4_21 (wX_at28) rfl dX4_takeFrom_45 ?_
  refine lv_iconst (v := 0) hx hb dX4_takeFrom_48 (by decide) ?_
  refine lv_aload_n hx hb dX4_takeFrom_49 rfl (lv_at hl 0 rfl) ?_
  refine x_get C G fX4_21 (wX_at71) rfl dX4_takeFrom_50 ?_
  refine lv_iconst (v := 0) hx hb dX4_takeFrom_53 (by decide) ?_
  refine lv_bipush (v := 10) hx hb dX4_takeFrom_54 (by decide) ?_
  refine x_copyi (ws' := (wX E ad x_imageCount x_lastTrouble x_lastFault x_lastPlace pa_names pa_faultNumber pa_faultPlace rd_tape rd_length rd_end rd_next rd_sort rd_start rd_value rd_word to_unsurePair to_unsureYears to_triedPair to_seats to_slack to_sawInches to_quarrelChance to_people to_forkBits to_unsure to_tried to_triedFedBits tf_seatOf tf_one tf_other tf_kind tf_years tf_sawn tf_pairs tf_gone bd_unsurePair bd_unsureYears bd_triedPair bd_seats bd_slack bd_sawInches bd_quarrelChance bd_people bd_forkBits bd_unsure bd_tried bd_triedFedBits bf_seatOf bf_one bf_other bf_kind bf_years bf_sawn bf_pairs bf_gone nw_seatOf nw_one nw_other nw_kind nw_years nw_sawn nw_pairs nw_gone sc_seatOf sc_handle sc_both sc_slopOf sc_forkBits sc_canBits sc_bestBits sc_bestSlops sl_bits sl_count se_bestRow se_row se_pairAt se_hope se_hopeAt se_slopAt se_farBits se_gain se_worth se_bestWorth se_fresh ch_both ch_cost ch_bit ch_items ch_leastCost ch_leastBits cl_bits cl_count fi_sets fi_count ps_act ps_whom ps_amount ps_next ps_count i0_seatOf i0_one i0_other i0_kind i0_years i0_sawn i0_pairs i0_gone (va_cpy nw_seatOf i1_seatOf 0 0 5) (va_cpy nw_one i1_one 0 0 10) (va_cpy nw_other i1_other 0 0 10) (va_cpy nw_kind i1_kind 0 0 10) i1_years i1_sawn i1_pairs i1_gone i2_seatOf i2_one i2_other i2_kind i2_years i2_sawn i2_pairs i2_gone)) C G kX4_30 kSys_nat kSys_st kSys_in hl.1 (wX_at32) (wX_at75) (by decide) (by decide) (by decide) (Nat.le_of_ble_eq_true rfl) (Nat.le_of_ble_eq_true rfl) wX_set_i1_kind (Nat.le_of_ble_eq_true rfl) (Nat.le_of_ble_eq_true rfl) dX4_takeFrom_56 (fun H locs G => ?_)
  refine lv_aload_n hx hb dX4_takeFrom_59 rfl (lv_at hl 1 rfl) ?_
  refine x_get C G fX4_24 (wX_at28) rfl dX4_takeFrom_60 ?_
  refine lv_iconst (v := 0) hx hb dX4_takeFrom_63 (by decide) ?_
  refine lv_aload_n hx hb dX4_takeFrom_64 rfl (lv_at hl 0 rfl) ?_
  refine x_get C G fX4_24 (wX_at71) rfl dX4_takeFrom_65 ?_
  refine lv_iconst (v := 0) hx hb dX4_takeFrom_68 (by decide) ?_
  refine lv_bipush (v := 10) hx hb dX4_takeFrom_69 (by decide) ?_
  refine x_copyi (ws' := (wX E ad x_imageCount x_lastTrouble x_lastFault x_lastPlace pa_names pa_faultNumber pa_faultPlace rd_tape rd_length rd_end rd_next rd_sort rd_start rd_value rd_word to_unsurePair to_unsureYears to_triedPair to_seats to_slack to_sawInches to_quarrelChance to_people to_forkBits to_unsure to_tried to_triedFedBits tf_seatOf tf_one tf_other tf_kind tf_years tf_sawn tf_pairs tf_gone bd_unsurePair bd_unsureYears bd_triedPair bd_seats bd_slack bd_sawInches bd_quarrelChance bd_people bd_forkBits bd_unsure bd_tried bd_triedFedBits bf_seatOf bf_one bf_other bf_kind bf_years bf_sawn bf_pairs bf_gone nw_seatOf nw_one nw_other nw_kind nw_years nw_sawn nw_pairs nw_gone sc_seatOf sc_handle sc_both sc_slopOf sc_forkBits sc_canBits sc_bestBits sc_bestSlops sl_bits sl_count se_bestRow se_row se_pairAt se_hope se_hopeAt se_slopAt se_farBits se_gain se_worth se_bestWorth se_fresh ch_both ch_cost ch_bit ch_items ch_leastCost ch_leastBits cl_bits cl_count fi_sets fi_count ps_act ps_whom ps_amount ps_next ps_count i0_seatOf i0_one i0_other i0_kind i0_years i0_sawn i0_pairs i0_gone (va_cpy nw_seatOf i1_seatOf 0 0 5) (va_cpy nw_one i1_one 0 0 10) (va_cpy nw_other i1_other 0 0 10) (va_cpy nw_kind i1_kind 0 0 10) (va_cpy nw_years i1_years 0 0 10) i1_sawn i1_pairs i1_gone i2_seatOf i2_one i2_other i2_kind i2_years i2_sawn i2_pairs i2_gone)) C G kX4_30 kSys_nat kSys_st kSys_in hl.1 (wX_at33) (wX_at76) (by decide) (by decide) (by decide) (Nat.le_of_ble_eq_true rfl) (Nat.le_of_ble_eq_true rfl) wX_set_i1_years (Nat.le_of_ble_eq_true rfl) (Nat.le_of_ble_eq_true rfl) dX4_takeFrom_71 (fun H locs G => ?_)
  refine lv_aload_n hx hb dX4_takeFrom_74 rfl (lv_at hl 1 rfl) ?_
  refine x_get C G fX4_27 (wX_at28) rfl dX4_takeFrom_75 ?_
  refine lv_iconst (v := 0) hx hb dX4_takeFrom_78 (by decide) ?_
  refine lv_aload_n hx hb dX4_takeFrom_79 rfl (lv_at hl 0 rfl) ?_
  refine x_get C G fX4_27 (wX_at71) rfl dX4_takeFrom_80 ?_
  refine lv_iconst (v := 0) hx hb dX4_takeFrom_83 (by decide) ?_
  refine lv_bipush (v := 10) hx hb dX4_takeFrom_84 (by decide) ?_
  refine x_copyi (ws' := (wX E ad x_imageCount x_lastTrouble x_lastFault x_lastPlace pa_names pa_faultNumber pa_faultPlace rd_tape rd_length rd_end rd_next rd_sort rd_start rd_value rd_word to_unsurePair to_unsureYears to_triedPair to_seats to_slack to_sawInches to_quarrelChance to_people to_forkBits to_unsure to_tried to_triedFedBits tf_seatOf tf_one tf_other tf_kind tf_years tf_sawn tf_pairs tf_gone bd_unsurePair bd_unsureYears bd_triedPair bd_seats bd_slack bd_sawInches bd_quarrelChance bd_people bd_forkBits bd_unsure bd_tried bd_triedFedBits bf_seatOf bf_one bf_other bf_kind bf_years bf_sawn bf_pairs bf_gone nw_seatOf nw_one nw_other nw_kind nw_years nw_sawn nw_pairs nw_gone sc_seatOf sc_handle sc_both sc_slopOf sc_forkBits sc_canBits sc_bestBits sc_bestSlops sl_bits sl_count se_bestRow se_row se_pairAt se_hope se_hopeAt se_slopAt se_farBits se_gain se_worth se_bestWorth se_fresh ch_both ch_cost ch_bit ch_items ch_leastCost ch_leastBits cl_bits cl_count fi_sets fi_count ps_act ps_whom ps_amount ps_next ps_count i0_seatOf i0_one i0_other i0_kind i0_years i0_sawn i0_pairs i0_gone (va_cpy nw_seatOf i1_seatOf 0 0 5) (va_cpy nw_one i1_one 0 0 10) (va_cpy nw_other i1_other 0 0 10) (va_cpy nw_kind i1_kind 0 0 10) (va_cpy nw_years i1_years 0 0 10) (va_cpy nw_sawn i1_sawn 0 0 10) i1_pairs i1_gone i2_seatOf i2_one i2_other i2_kind i2_years i2_sawn i2_pairs i2_gone)) C G kX4_30 kSys_nat kSys_st kSys_in hl.1 (wX_at34) (wX_at77) (by decide) (by decide) (by decide) (Nat.le_of_ble_eq_true rfl) (Nat.le_of_ble_eq_true rfl) wX_set_i1_sawn (Nat.le_of_ble_eq_true rfl) (Nat.le_of_ble_eq_true rfl) dX4_takeFrom_86 (fun H locs G => ?_)
  refine lv_aload_n hx hb dX4_takeFrom_89 rfl (lv_at hl 0 rfl) ?_
  refine lv_aload_n hx hb dX4_takeFrom_90 rfl (lv_at hl 1 rfl) ?_
  refine x_get C G fX4_36.g (wX_at28) rfl dX4_takeFrom_91 ?_
  refine x_put (ws' := (wX E ad x_imageCount x_lastTrouble x_lastFault x_lastPlace pa_names pa_faultNumber pa_faultPlace rd_tape rd_length rd_end rd_next rd_sort rd_start rd_value rd_word to_unsurePair to_unsureYears to_triedPair to_seats to_slack to_sawInches to_quarrelChance to_people to_forkBits to_unsure to_tried to_triedFedBits tf_seatOf tf_one tf_other tf_kind tf_years tf_sawn tf_pairs tf_gone bd_unsurePair bd_unsureYears bd_triedPair bd_seats bd_slack bd_sawInches bd_quarrelChance bd_people bd_forkBits bd_unsure bd_tried bd_triedFedBits bf_seatOf bf_one bf_other bf_kind bf_years bf_sawn bf_pairs bf_gone nw_seatOf nw_one nw_other nw_kind nw_years nw_sawn nw_pairs nw_gone sc_seatOf sc_handle sc_both sc_slopOf sc_forkBits sc_canBits sc_bestBits sc_bestSlops sl_bits sl_count se_bestRow se_row se_pairAt se_hope se_hopeAt se_slopAt se_farBits se_gain se_worth se_bestWorth se_fresh ch_both ch_cost ch_bit ch_items ch_leastCost ch_leastBits cl_bits cl_count fi_sets fi_count ps_act ps_whom ps_amount ps_next ps_count i0_seatOf i0_one i0_other i0_kind i0_years i0_sawn i0_pairs i0_gone (va_cpy nw_seatOf i1_seatOf 0 0 5) (va_cpy nw_one i1_one 0 0 10) (va_cpy nw_other i1_other 0 0 10) (va_cpy nw_kind i1_kind 0 0 10) (va_cpy nw_years i1_years 0 0 10) (va_cpy nw_sawn i1_sawn 0 0 10) nw_pairs i1_gone i2_seatOf i2_one i2_other i2_kind i2_years i2_sawn i2_pairs i2_gone)) C G fX4_36 (wX_at71) rfl rfl (Nat.le_of_ble_eq_true rfl) wX_set_i1_pairs dX4_takeFrom_94 (fun H locs G => ?_)
  refine lv_aload_n hx hb dX4_takeFrom_97 rfl (lv_at hl 0 rfl) ?_
  refine lv_aload_n hx hb dX4_takeFrom_98 rfl (lv_at hl 1 rfl) ?_
  refine x_get C G fX4_40.g (wX_at28) rfl dX4_takeFrom_99 ?_
  refine x_put (ws' := (wX E ad x_imageCount x_lastTrouble x_lastFault x_lastPlace pa_names pa_faultNumber pa_faultPlace rd_tape rd_length rd_end rd_next rd_sort rd_start rd_value rd_word to_unsurePair to_unsureYears to_triedPair to_seats to_slack to_sawInches to_quarrelChance to_people to_forkBits to_unsure to_tried to_triedFedBits tf_seatOf tf_one tf_other tf_kind tf_years tf_sawn tf_pairs tf_gone bd_unsurePair bd_unsureYears bd_triedPair bd_seats bd_slack bd_sawInches bd_quarrelChance bd_people bd_forkBits bd_unsure bd_tried bd_triedFedBits bf_seatOf bf_one bf_other bf_kind bf_years bf_sawn bf_pairs bf_gone nw_seatOf nw_one nw_other nw_kind nw_years nw_sawn nw_pairs nw_gone sc_seatOf sc_handle sc_both sc_slopOf sc_forkBits sc_canBits sc_bestBits sc_bestSlops sl_bits sl_count se_bestRow se_row se_pairAt se_hope se_hopeAt se_slopAt se_farBits se_gain se_worth se_bestWorth se_fresh ch_both ch_cost ch_bit ch_items ch_leastCost ch_leastBits cl_bits cl_count fi_sets fi_count ps_act ps_whom ps_amount ps_next ps_count i0_seatOf i0_one i0_other i0_kind i0_years i0_sawn i0_pairs i0_gone (va_cpy nw_seatOf i1_seatOf 0 0 5) (va_cpy nw_one i1_one 0 0 10) (va_cpy nw_other i1_other 0 0 10) (va_cpy nw_kind i1_kind 0 0 10) (va_cpy nw_years i1_years 0 0 10) (va_cpy nw_sawn i1_sawn 0 0 10) nw_pairs nw_gone i2_seatOf i2_one i2_other i2_kind i2_years i2_sawn i2_pairs i2_gone)) C G fX4_40 (wX_at71) rfl rfl (Nat.le_of_ble_eq_true rfl) wX_set_i1_gone dX4_takeFrom_102 (fun H locs G => ?_)
  obtain rfl := Option.some.inj hf
  exact xV_ret C G dX4_takeFrom_105
set_option maxHeartbeats 4000000 in
set_option maxRecDepth 100000 in
theorem c_Now_takeFrom_i2_nw {l : Launch} {E : xE} {ad : Nat → Nat} {x_imageCount x_lastTrouble x_lastFault x_lastPlace pa_faultNumber pa_faultPlace rd_length rd_end rd_next rd_sort rd_start rd_value to_seats to_slack to_sawInches to_quarrelChance to_people to_forkBits to_unsure to_tried to_triedFedBits tf_pairs tf_gone bd_seats bd_slack bd_sawInches bd_quarrelChance bd_people bd_forkBits bd_unsure bd_tried bd_triedFedBits bf_pairs bf_gone nw_pairs nw_gone sc_forkBits sc_canBits sc_bestBits sc_bestSlops sl_count se_bestWorth se_fresh ch_items ch_leastCost ch_leastBits cl_count fi_count ps_next ps_count i0_pairs i0_gone i1_pairs i1_gone i2_pairs i2_gone : Int32} {pa_names : Nat → Int64} {rd_tape to_unsurePair to_unsureYears to_triedPair tf_seatOf tf_one tf_other tf_kind tf_years tf_sawn bd_unsurePair bd_unsureYears bd_triedPair bf_seatOf bf_one bf_other bf_kind bf_years bf_sawn nw_seatOf nw_one nw_other nw_kind nw_years nw_sawn sc_seatOf sc_handle sc_both sc_slopOf sl_bits se_bestRow se_row se_pairAt se_hope se_hopeAt se_slopAt se_farBits se_gain se_worth ch_both ch_cost ch_bit cl_bits fi_sets ps_act ps_whom ps_amount i0_seatOf i0_one i0_other i0_kind i0_years i0_sawn i1_seatOf i1_one i1_other i1_kind i1_years i1_sawn i2_seatOf i2_one i2_other i2_kind i2_years i2_sawn : Nat → Int32} {rd_word : Int64} {R0 : (Nat → Int32) × (Nat → Int32) × (Nat → Int32) × (Nat → Int32) × (Nat → Int32) × (Nat → Int32) × Int32 × Int32} (hf : f_Now_takeFrom nw_seatOf nw_one nw_other nw_kind nw_years nw_sawn nw_pairs nw_gone i2_seatOf i2_one i2_other i2_kind i2_years i2_sawn = some R0) : xV l E yX4_takeFrom cX4_takeFrom 2 none 1 60 [.ref (ad 78), .ref (ad 28)] (wX E ad x_imageCount x_lastTrouble x_lastFault x_lastPlace pa_names pa_faultNumber pa_faultPlace rd_tape rd_length rd_end rd_next rd_sort rd_start rd_value rd_word to_unsurePair to_unsureYears to_triedPair to_seats to_slack to_sawInches to_quarrelChance to_people to_forkBits to_unsure to_tried to_triedFedBits tf_seatOf tf_one tf_other tf_kind tf_years tf_sawn tf_pairs tf_gone bd_unsurePair bd_unsureYears bd_triedPair bd_seats bd_slack bd_sawInches bd_quarrelChance bd_people bd_forkBits bd_unsure bd_tried bd_triedFedBits bf_seatOf bf_one bf_other bf_kind bf_years bf_sawn bf_pairs bf_gone nw_seatOf nw_one nw_other nw_kind nw_years nw_sawn nw_pairs nw_gone sc_seatOf sc_handle sc_both sc_slopOf sc_forkBits sc_canBits sc_bestBits sc_bestSlops sl_bits sl_count se_bestRow se_row se_pairAt se_hope se_hopeAt se_slopAt se_farBits se_gain se_worth se_bestWorth se_fresh ch_both ch_cost ch_bit ch_items ch_leastCost ch_leastBits cl_bits cl_count fi_sets fi_count ps_act ps_whom ps_amount ps_next ps_count i0_seatOf i0_one i0_other i0_kind i0_years i0_sawn i0_pairs i0_gone i1_seatOf i1_one i1_other i1_kind i1_years i1_sawn i1_pairs i1_gone i2_seatOf i2_one i2_other i2_kind i2_years i2_sawn i2_pairs i2_gone) (wX E ad x_imageCount x_lastTrouble x_lastFault x_lastPlace pa_names pa_faultNumber pa_faultPlace rd_tape rd_length rd_end rd_next rd_sort rd_start rd_value rd_word to_unsurePair to_unsureYears to_triedPair to_seats to_slack to_sawInches to_quarrelChance to_people to_forkBits to_unsure to_tried to_triedFedBits tf_seatOf tf_one tf_other tf_kind tf_years tf_sawn tf_pairs tf_gone bd_unsurePair bd_unsureYears bd_triedPair bd_seats bd_slack bd_sawInches bd_quarrelChance bd_people bd_forkBits bd_unsure bd_tried bd_triedFedBits bf_seatOf bf_one bf_other bf_kind bf_years bf_sawn bf_pairs bf_gone nw_seatOf nw_one nw_other nw_kind nw_years nw_sawn nw_pairs nw_gone sc_seatOf sc_handle sc_both sc_slopOf sc_forkBits sc_canBits sc_bestBits sc_bestSlops sl_bits sl_count se_bestRow se_row se_pairAt se_hope se_hopeAt se_slopAt se_farBits se_gain se_worth se_bestWorth se_fresh ch_both ch_cost ch_bit ch_items ch_leastCost ch_leastBits cl_bits cl_count fi_sets fi_count ps_act ps_whom ps_amount ps_next ps_count i0_seatOf i0_one i0_other i0_kind i0_years i0_sawn i0_pairs i0_gone i1_seatOf i1_one i1_other i1_kind i1_years i1_sawn i1_pairs i1_gone R0.1 R0.2.1 R0.2.2.1 R0.2.2.2.1 R0.2.2.2.2.1 R0.2.2.2.2.2.1 R0.2.2.2.2.2.2.1 R0.2.2.2.2.2.2.2) := by
  refine xV_of (by decide) (Nat.le_of_ble_eq_true rfl) (fun p e s m args below meth c A C ls hl G => ?_)
  have hx := C.1
  have hb := C.2.1
  have hl : lv_has ls 2 [(0, .ref (ad 78)), (1, .ref (ad 28))] := hl
  unfold f_Now_takeFrom at hf
  refine lv_aload_n hx hb dX4_takeFrom_0 rfl (lv_at hl 1 rfl) ?_
  refine x_get C G fX4_9 (wX_at28) rfl dX4_takeFrom_1 ?_
  refine lv_iconst (v := 0) hx hb dX4_takeFrom_4 (by decide) ?_
  refine lv_aload_n hx hb dX4_takeFrom_5 rfl (lv_at hl 0 rfl) ?_
  refine x_get C G fX4_9 (wX_at78) rfl dX4_takeFrom_6 ?_
  refine lv_iconst (v := 0) hx hb dX4_takeFrom_9 (by decide) ?_
  refine lv_iconst (v := 5) hx hb dX4_takeFrom_10 (by decide) ?_
  refine x_copyi (ws' := (wX E ad x_imageCount x_lastTrouble x_lastFault x_lastPlace pa_names pa_faultNumber pa_faultPlace rd_tape rd_length rd_end rd_next rd_sort rd_start rd_value rd_word to_unsurePair to_unsureYears to_triedPair to_seats to_slack to_sawInches to_quarrelChance to_people to_forkBits to_unsure to_tried to_triedFedBits tf_seatOf tf_one tf_other tf_kind tf_years tf_sawn tf_pairs tf_gone bd_unsurePair bd_unsureYears bd_triedPair bd_seats bd_slack bd_sawInches bd_quarrelChance bd_people bd_forkBits bd_unsure bd_tried bd_triedFedBits bf_seatOf bf_one bf_other bf_kind bf_years bf_sawn bf_pairs bf_gone nw_seatOf nw_one nw_other nw_kind nw_years nw_sawn nw_pairs nw_gone sc_seatOf sc_handle sc_both sc_slopOf sc_forkBits sc_canBits sc_bestBits sc_bestSlops sl_bits sl_count se_bestRow se_row se_pairAt se_hope se_hopeAt se_slopAt se_farBits se_gain se_worth se_bestWorth se_fresh ch_both ch_cost ch_bit ch_items ch_leastCost ch_leastBits cl_bits cl_count fi_sets fi_count ps_act ps_whom ps_amount ps_next ps_count i0_seatOf i0_one i0_other i0_kind i0_years i0_sawn i0_pairs i0_gone i1_seatOf i1_one i1_other i1_kind i1_years i1_sawn i1_pairs i1_gone (va_cpy nw_seatOf i2_seatOf 0 0 5) i2_one i2_other i2_kind i2_years i2_sawn i2_pairs i2_gone)) C G kX4_30 kSys_nat kSys_st kSys_in hl.1 (wX_at29) (wX_at79) (by decide) (by decide) (by decide) (Nat.le_of_ble_eq_true rfl) (Nat.le_of_ble_eq_true rfl) wX_set_i2_seatOf (Nat.le_of_ble_eq_true rfl) (Nat.le_of_ble_eq_true rfl) dX4_takeFrom_11 (fun H locs G => ?_)
  refine lv_aload_n hx hb dX4_takeFrom_14 rfl (lv_at hl 1 rfl) ?_
  refine x_get C G fX4_15 (wX_at28) rfl dX4_takeFrom_15 ?_
  refine lv_iconst (v := 0) hx hb dX4_takeFrom_18 (by decide) ?_
  refine lv_aload_n hx hb dX4_takeFrom_19 rfl (lv_at hl 0 rfl) ?_
  refine x_get C G fX4_15 (wX_at78) rfl dX4_takeFrom_20 ?_
  refine lv_iconst (v := 0) hx hb dX4_takeFrom_23 (by decide) ?_
  refine lv_bipush (v := 10) hx hb dX4_takeFrom_24 (by decide) ?_
  refine x_copyi (ws' := (wX E ad x_imageCount x_lastTrouble x_lastFault x_lastPlace pa_names pa_faultNumber pa_faultPlace rd_tape rd_length rd_end rd_next rd_sort rd_start rd_value rd_word to_unsurePair to_unsureYears to_triedPair to_seats to_slack to_sawInches to_quarrelChance to_people to_forkBits to_unsure to_tried to_triedFedBits tf_seatOf tf_one tf_other tf_kind tf_years tf_sawn tf_pairs tf_gone bd_unsurePair bd_unsureYears bd_triedPair bd_seats bd_slack bd_sawInches bd_quarrelChance bd_people bd_forkBits bd_unsure bd_tried bd_triedFedBits bf_seatOf bf_one bf_other bf_kind bf_years bf_sawn bf_pairs bf_gone nw_seatOf nw_one nw_other nw_kind nw_years nw_sawn nw_pairs nw_gone sc_seatOf sc_handle sc_both sc_slopOf sc_forkBits sc_canBits sc_bestBits sc_bestSlops sl_bits sl_count se_bestRow se_row se_pairAt se_hope se_hopeAt se_slopAt se_farBits se_gain se_worth se_bestWorth se_fresh ch_both ch_cost ch_bit ch_items ch_leastCost ch_leastBits cl_bits cl_count fi_sets fi_count ps_act ps_whom ps_amount ps_next ps_count i0_seatOf i0_one i0_other i0_kind i0_years i0_sawn i0_pairs i0_gone i1_seatOf i1_one i1_other i1_kind i1_years i1_sawn i1_pairs i1_gone (va_cpy nw_seatOf i2_seatOf 0 0 5) (va_cpy nw_one i2_one 0 0 10) i2_other i2_kind i2_years i2_sawn i2_pairs i2_gone)) C G kX4_30 kSys_nat kSys_st kSys_in hl.1 (wX_at30) (wX_at80) (by decide) (by decide) (by decide) (Nat.le_of_ble_eq_true rfl) (Nat.le_of_ble_eq_true rfl) wX_set_i2_one (Nat.le_of_ble_eq_true rfl) (Nat.le_of_ble_eq_true rfl) dX4_takeFrom_26 (fun H locs G => ?_)
  refine lv_aload_n hx hb dX4_takeFrom_29 rfl (lv_at hl 1 rfl) ?_
  refine x_get C G fX4_18 (wX_at28) rfl dX4_takeFrom_30 ?_
  refine lv_iconst (v := 0) hx hb dX4_takeFrom_33 (by decide) ?_
  refine lv_aload_n hx hb dX4_takeFrom_34 rfl (lv_at hl 0 rfl) ?_
  refine x_get C G fX4_18 (wX_at78) rfl dX4_takeFrom_35 ?_
  refine lv_iconst (v := 0) hx hb dX4_takeFrom_38 (by decide) ?_
  refine lv_bipush (v := 10) hx hb dX4_takeFrom_39 (by decide) ?_
  refine x_copyi (ws' := (wX E ad x_imageCount x_lastTrouble x_lastFault x_lastPlace pa_names pa_faultNumber pa_faultPlace rd_tape rd_length rd_end rd_next rd_sort rd_start rd_value rd_word to_unsurePair to_unsureYears to_triedPair to_seats to_slack to_sawInches to_quarrelChance to_people to_forkBits to_unsure to_tried to_triedFedBits tf_seatOf tf_one tf_other tf_kind tf_years tf_sawn tf_pairs tf_gone bd_unsurePair bd_unsureYears bd_triedPair bd_seats bd_slack bd_sawInches bd_quarrelChance bd_people bd_forkBits bd_unsure bd_tried bd_triedFedBits bf_seatOf bf_one bf_other bf_kind bf_years bf_sawn bf_pairs bf_gone nw_seatOf nw_one nw_other nw_kind nw_years nw_sawn nw_pairs nw_gone sc_seatOf sc_handle sc_both sc_slopOf sc_forkBits sc_canBits sc_bestBits sc_bestSlops sl_bits sl_count se_bestRow se_row se_pairAt se_hope se_hopeAt se_slopAt se_farBits se_gain se_worth se_bestWorth se_fresh ch_both ch_cost ch_bit ch_items ch_leastCost ch_leastBits cl_bits cl_count fi_sets fi_count ps_act ps_whom ps_amount ps_next ps_count i0_seatOf i0_one i0_other i0_kind i0_years i0_sawn i0_pairs i0_gone i1_seatOf i1_one i1_other i1_kind i1_years i1_sawn i1_pairs i1_gone (va_cpy nw_seatOf i2_seatOf 0 0 5) (va_cpy nw_one i2_one 0 0 10) (va_cpy nw_other i2_other 0 0 10) i2_kind i2_years i2_sawn i2_pairs i2_gone)) C G kX4_30 kSys_nat kSys_st kSys_in hl.1 (wX_at31) (wX_at81) (by decide) (by decide) (by decide) (Nat.le_of_ble_eq_true rfl) (Nat.le_of_ble_eq_true rfl) wX_set_i2_other (Nat.le_of_ble_eq_true rfl) (Nat.le_of_ble_eq_true rfl) dX4_takeFrom_41 (fun H locs G => ?_)
  refine lv_aload_n hx hb dX4_takeFrom_44 rfl (lv_at hl 1 rfl) ?_
  refine x_get C G fX4_21 (wX_at28) rfl dX4_takeFrom_45 ?_
  refine lv_iconst (v := 0) hx hb dX4_takeFrom_48 (by decide) ?_
  refine lv_aload_n hx hb dX4_takeFrom_49 rfl (lv_at hl 0 rfl) ?_
  refine x_get C G fX4_21 (wX_at78) rfl dX4_takeFrom_50 ?_
  refine lv_iconst (v := 0) hx hb dX4_takeFrom_53 (by decide) ?_
  refine lv_bipush (v := 10) hx hb dX4_takeFrom_54 (by decide) ?_
  refine x_copyi (ws' := (wX E ad x_imageCount x_lastTrouble x_lastFault x_lastPlace pa_names pa_faultNumber pa_faultPlace rd_tape rd_length rd_end rd_next rd_sort rd_start rd_value rd_word to_unsurePair to_unsureYears to_triedPair to_seats to_slack to_sawInches to_quarrelChance to_people to_forkBits to_unsure to_tried to_triedFedBits tf_seatOf tf_one tf_other tf_kind tf_years tf_sawn tf_pairs tf_gone bd_unsurePair bd_unsureYears bd_triedPair bd_seats bd_slack bd_sawInches bd_quarrelChance bd_people bd_forkBits bd_unsure bd_tried bd_triedFedBits bf_seatOf bf_one bf_other bf_kind bf_years bf_sawn bf_pairs bf_gone nw_seatOf nw_one nw_other nw_kind nw_years nw_sawn nw_pairs nw_gone sc_seatOf sc_handle sc_both sc_slopOf sc_forkBits sc_canBits sc_bestBits sc_bestSlops sl_bits sl_count se_bestRow se_row se_pairAt se_hope se_hopeAt se_slopAt se_farBits se_gain se_worth se_bestWorth se_fresh ch_both ch_cost ch_bit ch_items ch_leastCost ch_leastBits cl_bits cl_count fi_sets fi_count ps_act ps_whom ps_amount ps_next ps_count i0_seatOf i0_one i0_other i0_kind i0_years i0_sawn i0_pairs i0_gone i1_seatOf i1_one i1_other i1_kind i1_years i1_sawn i1_pairs i1_gone (va_cpy nw_seatOf i2_seatOf 0 0 5) (va_cpy nw_one i2_one 0 0 10) (va_cpy nw_other i2_other 0 0 10) (va_cpy nw_kind i2_kind 0 0 10) i2_years i2_sawn i2_pairs i2_gone)) C G kX4_30 kSys_nat kSys_st kSys_in hl.1 (wX_at32) (wX_at82) (by decide) (by decide) (by decide) (Nat.le_of_ble_eq_true rfl) (Nat.le_of_ble_eq_true rfl) wX_set_i2_kind (Nat.le_of_ble_eq_true rfl) (Nat.le_of_ble_eq_true rfl) dX4_takeFrom_56 (fun H locs G => ?_)
  refine lv_aload_n hx hb dX4_takeFrom_59 rfl (lv_at hl 1 rfl) ?_
  refine x_get C G fX4_24 (wX_at28) rfl dX4_takeFrom_60 ?_
  refine lv_iconst (v := 0) hx hb dX4_takeFrom_63 (by decide) ?_
  refine lv_aload_n hx hb dX4_takeFrom_64 rfl (lv_at hl 0 rfl) ?_
  refine x_get C G fX4_24 (wX_at78) rfl dX4_takeFrom_65 ?_
  refine lv_iconst (v := 0) hx hb dX4_takeFrom_68 (by decide) ?_
  refine lv_bipush (v := 10) hx hb dX4_takeFrom_69 (by decide) ?_
  refine x_copyi (ws' := (wX E ad x_imageCount x_lastTrouble x_lastFault x_lastPlace pa_names pa_faultNumber pa_faultPlace rd_tape rd_length rd_end rd_next rd_sort rd_start rd_value rd_word to_unsurePair to_unsureYears to_triedPair to_seats to_slack to_sawInches to_quarrelChance to_people to_forkBits to_unsure to_tried to_triedFedBits tf_seatOf tf_one tf_other tf_kind tf_years tf_sawn tf_pairs tf_gone bd_unsurePair bd_unsureYears bd_triedPair bd_seats bd_slack bd_sawInches bd_quarrelChance bd_people bd_forkBits bd_unsure bd_tried bd_triedFedBits bf_seatOf bf_one bf_other bf_kind bf_years bf_sawn bf_pairs bf_gone nw_seatOf nw_one nw_other nw_kind nw_years nw_sawn nw_pairs nw_gone sc_seatOf sc_handle sc_both sc_slopOf sc_forkBits sc_canBits sc_bestBits sc_bestSlops sl_bits sl_count se_bestRow se_row se_pairAt se_hope se_hopeAt se_slopAt se_farBits se_gain se_worth se_bestWorth se_fresh ch_both ch_cost ch_bit ch_items ch_leastCost ch_leastBits cl_bits cl_count fi_sets fi_count ps_act ps_whom ps_amount ps_next ps_count i0_seatOf i0_one i0_other i0_kind i0_years i0_sawn i0_pairs i0_gone i1_seatOf i1_one i1_other i1_kind i1_years i1_sawn i1_pairs i1_gone (va_cpy nw_seatOf i2_seatOf 0 0 5) (va_cpy nw_one i2_one 0 0 10) (va_cpy nw_other i2_other 0 0 10) (va_cpy nw_kind i2_kind 0 0 10) (va_cpy nw_years i2_years 0 0 10) i2_sawn i2_pairs i2_gone)) C G kX4_30 kSys_nat kSys_st kSys_in hl.1 (wX_at33) (wX_at83) (by decide) (by decide) (by decide) (Nat.le_of_ble_eq_true rfl) (Nat.le_of_ble_eq_true rfl) wX_set_i2_years (Nat.le_of_ble_eq_true rfl) (Nat.le_of_ble_eq_true rfl) dX4_takeFrom_71 (fun H locs G => ?_)
  refine lv_aload_n hx hb dX4_takeFrom_74 rfl (lv_at hl 1 rfl) ?_
  refine x_get C G fX4_27 (wX_at28) rfl dX4_takeFrom_75 ?_
  refine lv_iconst (v := 0) hx hb dX4_takeFrom_78 (by decide) ?_
  refine lv_aload_n hx hb dX4_takeFrom_79 rfl (lv_at hl 0 rfl) ?_
  refine x_get C G fX4_27 (wX_at78) rfl dX4_takeFrom_80 ?_
  refine lv_iconst (v := 0) hx hb dX4_takeFrom_83 (by decide) ?_
  refine lv_bipush (v := 10) hx hb dX4_takeFrom_84 (by decide) ?_
  refine x_copyi (ws' := (wX E ad x_imageCount x_lastTrouble x_lastFault x_lastPlace pa_names pa_faultNumber pa_faultPlace rd_tape rd_length rd_end rd_next rd_sort rd_start rd_value rd_word to_unsurePair to_unsureYears to_triedPair to_seats to_slack to_sawInches to_quarrelChance to_people to_forkBits to_unsure to_tried to_triedFedBits tf_seatOf tf_one tf_other tf_kind tf_years tf_sawn tf_pairs tf_gone bd_unsurePair bd_unsureYears bd_triedPair bd_seats bd_slack bd_sawInches bd_quarrelChance bd_people bd_forkBits bd_unsure bd_tried bd_triedFedBits bf_seatOf bf_one bf_other bf_kind bf_years bf_sawn bf_pairs bf_gone nw_seatOf nw_one nw_other nw_kind nw_years nw_sawn nw_pairs nw_gone sc_seatOf sc_handle sc_both sc_slopOf sc_forkBits sc_canBits sc_bestBits sc_bestSlops sl_bits sl_count se_bestRow se_row se_pairAt se_hope se_hopeAt se_slopAt se_farBits se_gain se_worth se_bestWorth se_fresh ch_both ch_cost ch_bit ch_items ch_leastCost ch_leastBits cl_bits cl_count fi_sets fi_count ps_act ps_whom ps_amount ps_next ps_count i0_seatOf i0_one i0_other i0_kind i0_years i0_sawn i0_pairs i0_gone i1_seatOf i1_one i1_other i1_kind i1_years i1_sawn i1_pairs i1_gone (va_cpy nw_seatOf i2_seatOf 0 0 5) (va_cpy nw_one i2_one 0 0 10) (va_cpy nw_other i2_other 0 0 10) (va_cpy nw_kind i2_kind 0 0 10) (va_cpy nw_years i2_years 0 0 10) (va_cpy nw_sawn i2_sawn 0 0 10) i2_pairs i2_gone)) C G kX4_30 kSys_nat kSys_st kSys_in hl.1 (wX_at34) (wX_at84) (by decide) (by decide) (by decide) (Nat.le_of_ble_eq_true rfl) (Nat.le_of_ble_eq_true rfl) wX_set_i2_sawn (Nat.le_of_ble_eq_true rfl) (Nat.le_of_ble_eq_true rfl) dX4_takeFrom_86 (fun H locs G => ?_)
  refine lv_aload_n hx hb dX4_takeFrom_89 rfl (lv_at hl 0 rfl) ?_
  refine lv_aload_n hx hb dX4_takeFrom_90 rfl (lv_at hl 1 rfl) ?_
  refine x_get C G fX4_36.g (wX_at28) rfl dX4_takeFrom_91 ?_
  refine x_put (ws' := (wX E ad x_imageCount x_lastTrouble x_lastFault x_lastPlace pa_names pa_faultNumber pa_faultPlace rd_tape rd_length rd_end rd_next rd_sort rd_start rd_value rd_word to_unsurePair to_unsureYears to_triedPair to_seats to_slack to_sawInches to_quarrelChance to_people to_forkBits to_unsure to_tried to_triedFedBits tf_seatOf tf_one tf_other tf_kind tf_years tf_sawn tf_pairs tf_gone bd_unsurePair bd_unsureYears bd_triedPair bd_seats bd_slack bd_sawInches bd_quarrelChance bd_people bd_forkBits bd_unsure bd_tried bd_triedFedBits bf_seatOf bf_one bf_other bf_kind bf_years bf_sawn bf_pairs bf_gone nw_seatOf nw_one nw_other nw_kind nw_years nw_sawn nw_pairs nw_gone sc_seatOf sc_handle sc_both sc_slopOf sc_forkBits sc_canBits sc_bestBits sc_bestSlops sl_bits sl_count se_bestRow se_row se_pairAt se_hope se_hopeAt se_slopAt se_farBits se_gain se_worth se_bestWorth se_fresh ch_both ch_cost ch_bit ch_items ch_leastCost ch_leastBits cl_bits cl_count fi_sets fi_count ps_act ps_whom ps_amount ps_next ps_count i0_seatOf i0_one i0_other i0_kind i0_years i0_sawn i0_pairs i0_gone i1_seatOf i1_one i1_other i1_kind i1_years i1_sawn i1_pairs i1_gone (va_cpy nw_seatOf i2_seatOf 0 0 5) (va_cpy nw_one i2_one 0 0 10) (va_cpy nw_other i2_other 0 0 10) (va_cpy nw_kind i2_kind 0 0 10) (va_cpy nw_years i2_years 0 0 10) (va_cpy nw_sawn i2_sawn 0 0 10) nw_pairs i2_gone)) C G fX4_36 (wX_at78) rfl rfl (Nat.le_of_ble_eq_true rfl) wX_set_i2_pairs dX4_takeFrom_94 (fun H locs G => ?_)
  refine lv_aload_n hx hb dX4_takeFrom_97 rfl (lv_at hl 0 rfl) ?_
  refine lv_aload_n hx hb dX4_takeFrom_98 rfl (lv_at hl 1 rfl) ?_
  refine x_get C G fX4_40.g (wX_at28) rfl dX4_takeFrom_99 ?_
  refine x_put (ws' := (wX E ad x_imageCount x_lastTrouble x_lastFault x_lastPlace pa_names pa_faultNumber pa_faultPlace rd_tape rd_length rd_end rd_next rd_sort rd_start rd_value rd_word to_unsurePair to_unsureYears to_triedPair to_seats to_slack to_sawInches to_quarrelChance to_people to_forkBits to_unsure to_tried to_triedFedBits tf_seatOf tf_one tf_other tf_kind tf_years tf_sawn tf_pairs tf_gone bd_unsurePair bd_unsureYears bd_triedPair bd_seats bd_slack bd_sawInches bd_quarrelChance bd_people bd_forkBits bd_unsure bd_tried bd_triedFedBits bf_seatOf bf_one bf_other bf_kind bf_years bf_sawn bf_pairs bf_gone nw_seatOf nw_one nw_other nw_kind nw_years nw_sawn nw_pairs nw_gone sc_seatOf sc_handle sc_both sc_slopOf sc_forkBits sc_canBits sc_bestBits sc_bestSlops sl_bits sl_count se_bestRow se_row se_pairAt se_hope se_hopeAt se_slopAt se_farBits se_gain se_worth se_bestWorth se_fresh ch_both ch_cost ch_bit ch_items ch_leastCost ch_leastBits cl_bits cl_count fi_sets fi_count ps_act ps_whom ps_amount ps_next ps_count i0_seatOf i0_one i0_other i0_kind i0_years i0_sawn i0_pairs i0_gone i1_seatOf i1_one i1_other i1_kind i1_years i1_sawn i1_pairs i1_gone (va_cpy nw_seatOf i2_seatOf 0 0 5) (va_cpy nw_one i2_one 0 0 10) (va_cpy nw_other i2_other 0 0 10) (va_cpy nw_kind i2_kind 0 0 10) (va_cpy nw_years i2_years 0 0 10) (va_cpy nw_sawn i2_sawn 0 0 10) nw_pairs nw_gone)) C G fX4_40 (wX_at78) rfl rfl (Nat.le_of_ble_eq_true rfl) wX_set_i2_gone dX4_takeFrom_102 (fun H locs G => ?_)
  obtain rfl := Option.some.inj hf
  exact xV_ret C G dX4_takeFrom_105
set_option maxHeartbeats 4000000 in
set_option maxRecDepth 100000 in
theorem c_X_image_x {l : Launch} {E : xE} {ad : Nat → Nat} {x_imageCount x_lastTrouble x_lastFault x_lastPlace pa_faultNumber pa_faultPlace rd_length rd_end rd_next rd_sort rd_start rd_value to_seats to_slack to_sawInches to_quarrelChance to_people to_forkBits to_unsure to_tried to_triedFedBits tf_pairs tf_gone bd_seats bd_slack bd_sawInches bd_quarrelChance bd_people bd_forkBits bd_unsure bd_tried bd_triedFedBits bf_pairs bf_gone nw_pairs nw_gone sc_forkBits sc_canBits sc_bestBits sc_bestSlops sl_count se_bestWorth se_fresh ch_items ch_leastCost ch_leastBits cl_count fi_count ps_next ps_count i0_pairs i0_gone i1_pairs i1_gone i2_pairs i2_gone : Int32} {pa_names : Nat → Int64} {rd_tape to_unsurePair to_unsureYears to_triedPair tf_seatOf tf_one tf_other tf_kind tf_years tf_sawn bd_unsurePair bd_unsureYears bd_triedPair bf_seatOf bf_one bf_other bf_kind bf_years bf_sawn nw_seatOf nw_one nw_other nw_kind nw_years nw_sawn sc_seatOf sc_handle sc_both sc_slopOf sl_bits se_bestRow se_row se_pairAt se_hope se_hopeAt se_slopAt se_farBits se_gain se_worth ch_both ch_cost ch_bit cl_bits fi_sets ps_act ps_whom ps_amount i0_seatOf i0_one i0_other i0_kind i0_years i0_sawn i1_seatOf i1_one i1_other i1_kind i1_years i1_sawn i2_seatOf i2_one i2_other i2_kind i2_years i2_sawn : Nat → Int32} {rd_word : Int64} {R0 : Int32 × Int32 × Int32 × (Nat → Int32) × (Nat → Int32) × (Nat → Int32) × (Nat → Int32) × (Nat → Int32) × (Nat → Int32) × Int32 × Int32 × (Nat → Int32) × (Nat → Int32) × (Nat → Int32) × (Nat → Int32) × (Nat → Int32) × (Nat → Int32) × Int32 × Int32 × (Nat → Int32) × (Nat → Int32) × (Nat → Int32) × (Nat → Int32) × (Nat → Int32) × (Nat → Int32) × Int32 × Int32} (hf : f_X_image x_imageCount bd_people nw_seatOf nw_one nw_other nw_kind nw_years nw_sawn nw_pairs nw_gone i0_seatOf i0_one i0_other i0_kind i0_years i0_sawn i0_pairs i0_gone i1_seatOf i1_one i1_other i1_kind i1_years i1_sawn i1_pairs i1_gone i2_seatOf i2_one i2_other i2_kind i2_years i2_sawn i2_pairs i2_gone = some R0) : xI l E yX10_image cX10_image 1 (some .int) 2 81 [.ref (ad 0)] (wX E ad x_imageCount x_lastTrouble x_lastFault x_lastPlace pa_names pa_faultNumber pa_faultPlace rd_tape rd_length rd_end rd_next rd_sort rd_start rd_value rd_word to_unsurePair to_unsureYears to_triedPair to_seats to_slack to_sawInches to_quarrelChance to_people to_forkBits to_unsure to_tried to_triedFedBits tf_seatOf tf_one tf_other tf_kind tf_years tf_sawn tf_pairs tf_gone bd_unsurePair bd_unsureYears bd_triedPair bd_seats bd_slack bd_sawInches bd_quarrelChance bd_people bd_forkBits bd_unsure bd_tried bd_triedFedBits bf_seatOf bf_one bf_other bf_kind bf_years bf_sawn bf_pairs bf_gone nw_seatOf nw_one nw_other nw_kind nw_years nw_sawn nw_pairs nw_gone sc_seatOf sc_handle sc_both sc_slopOf sc_forkBits sc_canBits sc_bestBits sc_bestSlops sl_bits sl_count se_bestRow se_row se_pairAt se_hope se_hopeAt se_slopAt se_farBits se_gain se_worth se_bestWorth se_fresh ch_both ch_cost ch_bit ch_items ch_leastCost ch_leastBits cl_bits cl_count fi_sets fi_count ps_act ps_whom ps_amount ps_next ps_count i0_seatOf i0_one i0_other i0_kind i0_years i0_sawn i0_pairs i0_gone i1_seatOf i1_one i1_other i1_kind i1_years i1_sawn i1_pairs i1_gone i2_seatOf i2_one i2_other i2_kind i2_years i2_sawn i2_pairs i2_gone) (wX E ad R0.2.1 R0.2.2.1 x_lastFault x_lastPlace pa_names pa_faultNumber pa_faultPlace rd_tape rd_length rd_end rd_next rd_sort rd_start rd_value rd_word to_unsurePair to_unsureYears to_triedPair to_seats to_slack to_sawInches to_quarrelChance to_people to_forkBits to_unsure to_tried to_triedFedBits tf_seatOf tf_one tf_other tf_kind tf_years tf_sawn tf_pairs tf_gone bd_unsurePair bd_unsureYears bd_triedPair bd_seats bd_slack bd_sawInches bd_quarrelChance bd_people bd_forkBits bd_unsure bd_tried bd_triedFedBits bf_seatOf bf_one bf_other bf_kind bf_years bf_sawn bf_pairs bf_gone nw_seatOf nw_one nw_other nw_kind nw_years nw_sawn nw_pairs nw_gone sc_seatOf sc_handle sc_both sc_slopOf sc_forkBits sc_canBits sc_bestBits sc_bestSlops sl_bits sl_count se_bestRow se_row se_pairAt se_hope se_hopeAt se_slopAt se_farBits se_gain se_worth se_bestWorth se_fresh ch_both ch_cost ch_bit ch_items ch_leastCost ch_leastBits cl_bits cl_count fi_sets fi_count ps_act ps_whom ps_amount ps_next ps_count R0.2.2.2.1 R0.2.2.2.2.1 R0.2.2.2.2.2.1 R0.2.2.2.2.2.2.1 R0.2.2.2.2.2.2.2.1 R0.2.2.2.2.2.2.2.2.1 R0.2.2.2.2.2.2.2.2.2.1 R0.2.2.2.2.2.2.2.2.2.2.1 R0.2.2.2.2.2.2.2.2.2.2.2.1 R0.2.2.2.2.2.2.2.2.2.2.2.2.1 R0.2.2.2.2.2.2.2.2.2.2.2.2.2.1 R0.2.2.2.2.2.2.2.2.2.2.2.2.2.2.1 R0.2.2.2.2.2.2.2.2.2.2.2.2.2.2.2.1 R0.2.2.2.2.2.2.2.2.2.2.2.2.2.2.2.2.1 R0.2.2.2.2.2.2.2.2.2.2.2.2.2.2.2.2.2.1 R0.2.2.2.2.2.2.2.2.2.2.2.2.2.2.2.2.2.2.1 R0.2.2.2.2.2.2.2.2.2.2.2.2.2.2.2.2.2.2.2.1 R0.2.2.2.2.2.2.2.2.2.2.2.2.2.2.2.2.2.2.2.2.1 R0.2.2.2.2.2.2.2.2.2.2.2.2.2.2.2.2.2.2.2.2.2.1 R0.2.2.2.2.2.2.2.2.2.2.2.2.2.2.2.2.2.2.2.2.2.2.1 R0.2.2.2.2.2.2.2.2.2.2.2.2.2.2.2.2.2.2.2.2.2.2.2.1 R0.2.2.2.2.2.2.2.2.2.2.2.2.2.2.2.2.2.2.2.2.2.2.2.2.1 R0.2.2.2.2.2.2.2.2.2.2.2.2.2.2.2.2.2.2.2.2.2.2.2.2.2.1 R0.2.2.2.2.2.2.2.2.2.2.2.2.2.2.2.2.2.2.2.2.2.2.2.2.2.2) R0.1 := by
  refine xI_of (by decide) (Nat.le_of_ble_eq_true rfl) (fun p e s m args below meth c A C ls hl G => ?_)
  have hx := C.1
  have hb := C.2.1
  have hl : lv_has ls 1 [(0, .ref (ad 0))] := hl
  unfold f_X_image at hf
  refine lv_aload_n hx hb dX10_image_0 rfl (lv_at hl 0 rfl) ?_
  obtain ⟨x1, hc, hf⟩ := bd_go hf
  refine xI_V C G (c_X_noTable_x hc) mX10_noTable kX10_187 (wX_at0) rfl ⟨Nat.le_of_ble_eq_true rfl, Nat.le_of_ble_eq_true rfl⟩ rfl hl.1 rfl (Nat.le_of_ble_eq_true rfl) ⟨Nat.le_refl _, Nat.le_refl _⟩ dX10_image_1 (fun hz1 H locs G => ?_)
  refine lv_if_eq (tgt := 9) hx hb dX10_image_4 (by decide) (fun h => ?_) (fun h => ?_)
  · have hf := it_t h hf
    refine lv_aload_n hx hb dX10_image_9 rfl (lv_at hl 0 rfl) ?_
    refine x_get C G fX10_125.g (wX_at0) rfl dX10_image_10 ?_
    refine lv_iconst (v := 3) hx hb dX10_image_13 (by decide) ?_
    refine lv_icmp_lt (tgt := 23) hx hb dX10_image_14 (by decide) (fun h => ?_) (fun h => ?_)
    · have hf := it_t h hf
      refine lv_aload_n hx hb dX10_image_23 rfl (lv_at hl 0 rfl) ?_
      refine x_get C G fX10_69 (wX_at0) rfl dX10_image_24 ?_
      refine lv_aload_n hx hb dX10_image_27 rfl (lv_at hl 0 rfl) ?_
      refine x_get C G fX10_125.g (wX_at0) rfl dX10_image_28 ?_
      by_cases hq0 : x_imageCount = (0 : Int32)
      · have hf := it_t hq0 hf
        refine x_aaldk (k := 0) C G (wX_at1) hq0 (vp_in_nI (n := 0) (by decide) (by decide)) rfl dX10_image_31 ?_
        refine lv_aload_n hx hb dX10_image_32 rfl (lv_at hl 0 rfl) ?_
        refine x_get C G fX10_26 (wX_at0) rfl dX10_image_33 ?_
        obtain ⟨x2, hc, hf⟩ := bd_go hf
        refine xV_V C G (c_Now_takeFrom_i0_nw hc) mX4_takeFrom kX10_119 (wX_at64) rfl ⟨Nat.le_of_ble_eq_true rfl, Nat.le_of_ble_eq_true rfl⟩ rfl hl.1 rfl (Nat.le_of_ble_eq_true rfl) ⟨Nat.le_refl _, Nat.le_refl _⟩ dX10_image_36 (fun H locs G => ?_)
        refine lv_aload_n hx hb dX10_image_39 rfl (lv_at hl 0 rfl) ?_
        refine lv_dup hx hb dX10_image_40 rfl ?_
        refine x_get C G fX10_125.g (wX_at0) rfl dX10_image_41 ?_
        refine lv_iconst (v := 1) hx hb dX10_image_44 (by decide) ?_
        refine lv_iadd hx hb dX10_image_45 ?_
        refine lv_topi (fun x3 ex3 => ?_)
        have hf := lt_go ex3 hf
        refine x_put (ws' := (wX E ad x3 x1.2 x_lastFault x_lastPlace pa_names pa_faultNumber pa_faultPlace rd_tape rd_length rd_end rd_next rd_sort rd_start rd_value rd_word to_unsurePair to_unsureYears to_triedPair to_seats to_slack to_sawInches to_quarrelChance to_people to_forkBits to_unsure to_tried to_triedFedBits tf_seatOf tf_one tf_other tf_kind tf_years tf_sawn tf_pairs tf_gone bd_unsurePair bd_unsureYears bd_triedPair bd_seats bd_slack bd_sawInches bd_quarrelChance bd_people bd_forkBits bd_unsure bd_tried bd_triedFedBits bf_seatOf bf_one bf_other bf_kind bf_years bf_sawn bf_pairs bf_gone nw_seatOf nw_one nw_other nw_kind nw_years nw_sawn nw_pairs nw_gone sc_seatOf sc_handle sc_both sc_slopOf sc_forkBits sc_canBits sc_bestBits sc_bestSlops sl_bits sl_count se_bestRow se_row se_pairAt se_hope se_hopeAt se_slopAt se_farBits se_gain se_worth se_bestWorth se_fresh ch_both ch_cost ch_bit ch_items ch_leastCost ch_leastBits cl_bits cl_count fi_sets fi_count ps_act ps_whom ps_amount ps_next ps_count x2.1 x2.2.1 x2.2.2.1 x2.2.2.2.1 x2.2.2.2.2.1 x2.2.2.2.2.2.1 x2.2.2.2.2.2.2.1 x2.2.2.2.2.2.2.2 i1_seatOf i1_one i1_other i1_kind i1_years i1_sawn i1_pairs i1_gone i2_seatOf i2_one i2_other i2_kind i2_years i2_sawn i2_pairs i2_gone)) C G fX10_125 (wX_at0) rfl rfl (Nat.le_of_ble_eq_true rfl) wX_set_x_imageCount dX10_image_46 (fun H locs G => ?_)
        refine lv_aload_n hx hb dX10_image_49 rfl (lv_at hl 0 rfl) ?_
        refine x_get C G fX10_125.g (wX_at0) rfl dX10_image_50 ?_
        refine lv_iconst (v := 1) hx hb dX10_image_53 (by decide) ?_
        refine lv_isub hx hb dX10_image_54 ?_
        obtain rfl := Option.some.inj hf
        exact xI_ret C G rfl dX10_image_55
      have hf := it_f hq0 hf
      by_cases hq1 : x_imageCount = (1 : Int32)
      · have hf := it_t hq1 hf
        refine x_aaldk (k := 1) C G (wX_at1) hq1 (vp_in_nI (n := 1) (by decide) (by decide)) rfl dX10_image_31 ?_
        refine lv_aload_n hx hb dX10_image_32 rfl (lv_at hl 0 rfl) ?_
        refine x_get C G fX10_26 (wX_at0) rfl dX10_image_33 ?_
        obtain ⟨x4, hc, hf⟩ := bd_go hf
        refine xV_V C G (c_Now_takeFrom_i1_nw hc) mX4_takeFrom kX10_119 (wX_at71) rfl ⟨Nat.le_of_ble_eq_true rfl, Nat.le_of_ble_eq_true rfl⟩ rfl hl.1 rfl (Nat.le_of_ble_eq_true rfl) ⟨Nat.le_refl _, Nat.le_refl _⟩ dX10_image_36 (fun H locs G => ?_)
        refine lv_aload_n hx hb dX10_image_39 rfl (lv_at hl 0 rfl) ?_
        refine lv_dup hx hb dX10_image_40 rfl ?_
        refine x_get C G fX10_125.g (wX_at0) rfl dX10_image_41 ?_
        refine lv_iconst (v := 1) hx hb dX10_image_44 (by decide) ?_
        refine lv_iadd hx hb dX10_image_45 ?_
        refine lv_topi (fun x5 ex5 => ?_)
        have hf := lt_go ex5 hf
        refine x_put (ws' := (wX E ad x5 x1.2 x_lastFault x_lastPlace pa_names pa_faultNumber pa_faultPlace rd_tape rd_length rd_end rd_next rd_sort rd_start rd_value rd_word to_unsurePair to_unsureYears to_triedPair to_seats to_slack to_sawInches to_quarrelChance to_people to_forkBits to_unsure to_tried to_triedFedBits tf_seatOf tf_one tf_other tf_kind tf_years tf_sawn tf_pairs tf_gone bd_unsurePair bd_unsureYears bd_triedPair bd_seats bd_slack bd_sawInches bd_quarrelChance bd_people bd_forkBits bd_unsure bd_tried bd_triedFedBits bf_seatOf bf_one bf_other bf_kind bf_years bf_sawn bf_pairs bf_gone nw_seatOf nw_one nw_other nw_kind nw_years nw_sawn nw_pairs nw_gone sc_seatOf sc_handle sc_both sc_slopOf sc_forkBits sc_canBits sc_bestBits sc_bestSlops sl_bits sl_count se_bestRow se_row se_pairAt se_hope se_hopeAt se_slopAt se_farBits se_gain se_worth se_bestWorth se_fresh ch_both ch_cost ch_bit ch_items ch_leastCost ch_leastBits cl_bits cl_count fi_sets fi_count ps_act ps_whom ps_amount ps_next ps_count i0_seatOf i0_one i0_other i0_kind i0_years i0_sawn i0_pairs i0_gone x4.1 x4.2.1 x4.2.2.1 x4.2.2.2.1 x4.2.2.2.2.1 x4.2.2.2.2.2.1 x4.2.2.2.2.2.2.1 x4.2.2.2.2.2.2.2 i2_seatOf i2_one i2_other i2_kind i2_years i2_sawn i2_pairs i2_gone)) C G fX10_125 (wX_at0) rfl rfl (Nat.le_of_ble_eq_true rfl) wX_set_x_imageCount dX10_image_46 (fun H locs G => ?_)
        refine lv_aload_n hx hb dX10_image_49 rfl (lv_at hl 0 rfl) ?_
        refine x_get C G fX10_125.g (wX_at0) rfl dX10_image_50 ?_
        refine lv_iconst (v := 1) hx hb dX10_image_53 (by decide) ?_
        refine lv_isub hx hb dX10_image_54 ?_
        obtain rfl := Option.some.inj hf
        exact xI_ret C G rfl dX10_image_55
      have hf := it_f hq1 hf
      by_cases hq2 : x_imageCount = (2 : Int32)
      · have hf := it_t hq2 hf
        refine x_aaldk (k := 2) C G (wX_at1) hq2 (vp_in_nI (n := 2) (by decide) (by decide)) rfl dX10_image_31 ?_
        refine lv_aload_n hx hb dX10_image_32 rfl (lv_at hl 0 rfl) ?_
        refine x_get C G fX10_26 (wX_at0) rfl dX10_image_33 ?_
        obtain ⟨x6, hc, hf⟩ := bd_go hf
        refine xV_V C G (c_Now_takeFrom_i2_nw hc) mX4_takeFrom kX10_119 (wX_at78) rfl ⟨Nat.le_of_ble_eq_true rfl, Nat.le_of_ble_eq_true rfl⟩ rfl hl.1 rfl (Nat.le_of_ble_eq_true rfl) ⟨Nat.le_refl _, Nat.le_refl _⟩ dX10_image_36 (fun H locs G => ?_)
        refine lv_aload_n hx hb dX10_image_39 rfl (lv_at hl 0 rfl) ?_
        refine lv_dup hx hb dX10_image_40 rfl ?_
        refine x_get C G fX10_125.g (wX_at0) rfl dX10_image_41 ?_
        refine lv_iconst (v := 1) hx hb dX10_image_44 (by decide) ?_
        refine lv_iadd hx hb dX10_image_45 ?_
        refine lv_topi (fun x7 ex7 => ?_)
        have hf := lt_go ex7 hf
        refine x_put (ws' := (wX E ad x7 x1.2 x_lastFault x_lastPlace pa_names pa_faultNumber pa_faultPlace rd_tape rd_length rd_end rd_next rd_sort rd_start rd_value rd_word to_unsurePair to_unsureYears to_triedPair to_seats to_slack to_sawInches to_quarrelChance to_people to_forkBits to_unsure to_tried to_triedFedBits tf_seatOf tf_one tf_other tf_kind tf_years tf_sawn tf_pairs tf_gone bd_unsurePair bd_unsureYears bd_triedPair bd_seats bd_slack bd_sawInches bd_quarrelChance bd_people bd_forkBits bd_unsure bd_tried bd_triedFedBits bf_seatOf bf_one bf_other bf_kind bf_years bf_sawn bf_pairs bf_gone nw_seatOf nw_one nw_other nw_kind nw_years nw_sawn nw_pairs nw_gone sc_seatOf sc_handle sc_both sc_slopOf sc_forkBits sc_canBits sc_bestBits sc_bestSlops sl_bits sl_count se_bestRow se_row se_pairAt se_hope se_hopeAt se_slopAt se_farBits se_gain se_worth se_bestWorth se_fresh ch_both ch_cost ch_bit ch_items ch_leastCost ch_leastBits cl_bits cl_count fi_sets fi_count ps_act ps_whom ps_amount ps_next ps_count i0_seatOf i0_one i0_other i0_kind i0_years i0_sawn i0_pairs i0_gone i1_seatOf i1_one i1_other i1_kind i1_years i1_sawn i1_pairs i1_gone x6.1 x6.2.1 x6.2.2.1 x6.2.2.2.1 x6.2.2.2.2.1 x6.2.2.2.2.2.1 x6.2.2.2.2.2.2.1 x6.2.2.2.2.2.2.2)) C G fX10_125 (wX_at0) rfl rfl (Nat.le_of_ble_eq_true rfl) wX_set_x_imageCount dX10_image_46 (fun H locs G => ?_)
        refine lv_aload_n hx hb dX10_image_49 rfl (lv_at hl 0 rfl) ?_
        refine x_get C G fX10_125.g (wX_at0) rfl dX10_image_50 ?_
        refine lv_iconst (v := 1) hx hb dX10_image_53 (by decide) ?_
        refine lv_isub hx hb dX10_image_54 ?_
        obtain rfl := Option.some.inj hf
        exact xI_ret C G rfl dX10_image_55
      have hf := it_f hq2 hf
      exact nomatch hf
    · have hf := it_f h hf
      refine lv_aload_n hx hb dX10_image_17 rfl (lv_at hl 0 rfl) ?_
      refine lv_iconst (v := 3) hx hb dX10_image_18 (by decide) ?_
      obtain ⟨x8, hc, hf⟩ := bd_go hf
      refine xI_V C G (c_X_refused_x hc) mX10_refused kX10_87 (wX_at0) rfl ⟨Nat.le_of_ble_eq_true rfl, Nat.le_of_ble_eq_true rfl⟩ rfl hl.1 rfl (Nat.le_of_ble_eq_true rfl) ⟨Nat.le_refl _, Nat.le_refl _⟩ dX10_image_19 (fun hz H locs G => ?_)
      obtain rfl := Option.some.inj hf
      exact xI_ret C G rfl dX10_image_22
  · have hf := it_f h hf
    refine lv_iconst (v := -1) hx hb dX10_image_7 (by decide) ?_
    obtain rfl := Option.some.inj hf
    exact xI_ret C G rfl dX10_image_8
